/-! THE LAW's CASES, printed by wip/whole/genlaw.py -/
theorem Wd.sw {G : GG} {s : State} {A : Nat → Prop} {a b d : va_W} {H : Heap} {locs : List Loc} (hw : Wd G s A (a ++ (b ++ (d ++ []))) H locs) : Wd G s A (d ++ (a ++ b)) H locs := by
  rw [List.append_nil, ← List.append_assoc] at hw
  exact ⟨hw.1, va_P.swap (a := []) (b := a ++ b) (c := d) hw.2.1, va_D.swap (a := []) (b := a ++ b) (c := d) hw.2.2.1, hw.2.2.2⟩
theorem Wd.ws {G : GG} {s : State} {A : Nat → Prop} {a b d : va_W} {H : Heap} {locs : List Loc} (hw : Wd G s A (d ++ (a ++ b)) H locs) : Wd G s A (a ++ (b ++ (d ++ []))) H locs := by
  rw [List.append_nil, ← List.append_assoc]
  exact ⟨hw.1, va_P.swap (a := []) (b := d) (c := a ++ b) hw.2.1, va_D.swap (a := []) (b := d) (c := a ++ b) hw.2.2.1, hw.2.2.2⟩
theorem lg_cmp_same (x : Int64) : lg_cmp x x = 0 := by
  unfold lg_cmp
  rw [if_neg (fun h : x > x => Int64.lt_irrefl h), if_pos rfl]


theorem kl_L_13 : ∀ w ∈ wsV R_law 13 RX4 yX4_field (.code yX4_field cX4_field 5 (some .int) :: BG), w ∈ BG := kV (BG_in 341 (by decide +kernel) (by decide +kernel)) (BG_in 342 (by decide +kernel) (by decide +kernel)) (BG_in 343 (by decide +kernel) (by decide +kernel)) ki_4 (BG_in 344 (by decide +kernel) (by decide +kernel) : Cond.code yX4_field cX4_field 5 (some .int) ∈ BG)
theorem kd_X4_field : yX4_field.cls = RX4 ∧ yX4_field.cls ≠ "java/lang/invoke/MethodHandle" ∧ yX4_field.cls ≠ "java/lang/invoke/VarHandle" ∧ (parseMethodDescriptor yX4_field.desc).map (fun d => d.parameters.length) = some 2 := by decide +kernel
theorem kl_L_17 : ∀ w ∈ wsV R_law 17 RX5 yX5_field (.code yX5_field cX5_field 4 (some .int) :: BG), w ∈ BG := kV (BG_in 790 (by decide +kernel) (by decide +kernel)) (BG_in 791 (by decide +kernel) (by decide +kernel)) (BG_in 792 (by decide +kernel) (by decide +kernel)) ki_5 (BG_in 793 (by decide +kernel) (by decide +kernel) : Cond.code yX5_field cX5_field 4 (some .int) ∈ BG)
theorem kd_X5_field : yX5_field.cls = RX5 ∧ yX5_field.cls ≠ "java/lang/invoke/MethodHandle" ∧ yX5_field.cls ≠ "java/lang/invoke/VarHandle" ∧ (parseMethodDescriptor yX5_field.desc).map (fun d => d.parameters.length) = some 2 := by decide +kernel
theorem kl_L_18 : ∀ w ∈ wsV R_law 18 RX4 yX4_told (.code yX4_told cX4_told 2 (some .int) :: BG), w ∈ BG := kV (BG_in 349 (by decide +kernel) (by decide +kernel)) (BG_in 350 (by decide +kernel) (by decide +kernel)) (BG_in 351 (by decide +kernel) (by decide +kernel)) ki_4 (BG_in 352 (by decide +kernel) (by decide +kernel) : Cond.code yX4_told cX4_told 2 (some .int) ∈ BG)
theorem kd_X4_told : yX4_told.cls = RX4 ∧ yX4_told.cls ≠ "java/lang/invoke/MethodHandle" ∧ yX4_told.cls ≠ "java/lang/invoke/VarHandle" ∧ (parseMethodDescriptor yX4_told.desc).map (fun d => d.parameters.length) = some 1 := by decide +kernel
theorem kl_L_22 : ∀ w ∈ wsV R_law 22 RX5 yX5_told (.code yX5_told cX5_told 2 (some .int) :: BG), w ∈ BG := kV (BG_in 803 (by decide +kernel) (by decide +kernel)) (BG_in 804 (by decide +kernel) (by decide +kernel)) (BG_in 805 (by decide +kernel) (by decide +kernel)) ki_5 (BG_in 806 (by decide +kernel) (by decide +kernel) : Cond.code yX5_told cX5_told 2 (some .int) ∈ BG)
theorem kd_X5_told : yX5_told.cls = RX5 ∧ yX5_told.cls ≠ "java/lang/invoke/MethodHandle" ∧ yX5_told.cls ≠ "java/lang/invoke/VarHandle" ∧ (parseMethodDescriptor yX5_told.desc).map (fun d => d.parameters.length) = some 1 := by decide +kernel
theorem kl_L_23 : ∀ w ∈ wsV R_law 23 RX4 yX4_generator (.code yX4_generator cX4_generator 2 (some .int) :: BG), w ∈ BG := kV (BG_in 353 (by decide +kernel) (by decide +kernel)) (BG_in 354 (by decide +kernel) (by decide +kernel)) (BG_in 355 (by decide +kernel) (by decide +kernel)) ki_4 (BG_in 356 (by decide +kernel) (by decide +kernel) : Cond.code yX4_generator cX4_generator 2 (some .int) ∈ BG)
theorem kd_X4_generator : yX4_generator.cls = RX4 ∧ yX4_generator.cls ≠ "java/lang/invoke/MethodHandle" ∧ yX4_generator.cls ≠ "java/lang/invoke/VarHandle" ∧ (parseMethodDescriptor yX4_generator.desc).map (fun d => d.parameters.length) = some 1 := by decide +kernel
theorem kl_L_26 : ∀ w ∈ wsV R_law 26 RX5 yX5_generator (.code yX5_generator cX5_generator 4 (some .int) :: BG), w ∈ BG := kV (BG_in 814 (by decide +kernel) (by decide +kernel)) (BG_in 815 (by decide +kernel) (by decide +kernel)) (BG_in 816 (by decide +kernel) (by decide +kernel)) ki_5 (BG_in 817 (by decide +kernel) (by decide +kernel) : Cond.code yX5_generator cX5_generator 4 (some .int) ∈ BG)
theorem kd_X5_generator : yX5_generator.cls = RX5 ∧ yX5_generator.cls ≠ "java/lang/invoke/MethodHandle" ∧ yX5_generator.cls ≠ "java/lang/invoke/VarHandle" ∧ (parseMethodDescriptor yX5_generator.desc).map (fun d => d.parameters.length) = some 1 := by decide +kernel
theorem kl_L_27 : ∀ w ∈ wsV R_law 27 RX4 yX4_use (.code yX4_use cX4_use 3 (some .int) :: BG), w ∈ BG := kV (BG_in 357 (by decide +kernel) (by decide +kernel)) (BG_in 358 (by decide +kernel) (by decide +kernel)) (BG_in 359 (by decide +kernel) (by decide +kernel)) ki_4 (BG_in 360 (by decide +kernel) (by decide +kernel) : Cond.code yX4_use cX4_use 3 (some .int) ∈ BG)
theorem kd_X4_use : yX4_use.cls = RX4 ∧ yX4_use.cls ≠ "java/lang/invoke/MethodHandle" ∧ yX4_use.cls ≠ "java/lang/invoke/VarHandle" ∧ (parseMethodDescriptor yX4_use.desc).map (fun d => d.parameters.length) = some 1 := by decide +kernel
theorem kl_L_30 : ∀ w ∈ wsV R_law 30 RX5 yX5_use (.code yX5_use cX5_use 3 (some .int) :: BG), w ∈ BG := kV (BG_in 818 (by decide +kernel) (by decide +kernel)) (BG_in 819 (by decide +kernel) (by decide +kernel)) (BG_in 820 (by decide +kernel) (by decide +kernel)) ki_5 (BG_in 821 (by decide +kernel) (by decide +kernel) : Cond.code yX5_use cX5_use 3 (some .int) ∈ BG)
theorem kd_X5_use : yX5_use.cls = RX5 ∧ yX5_use.cls ≠ "java/lang/invoke/MethodHandle" ∧ yX5_use.cls ≠ "java/lang/invoke/VarHandle" ∧ (parseMethodDescriptor yX5_use.desc).map (fun d => d.parameters.length) = some 1 := by decide +kernel
theorem kl_L_31 : ∀ w ∈ wsV R_law 31 RX4 yX4_power (.code yX4_power cX4_power 2 (some .int) :: BG), w ∈ BG := kV (BG_in 363 (by decide +kernel) (by decide +kernel)) (BG_in 364 (by decide +kernel) (by decide +kernel)) (BG_in 365 (by decide +kernel) (by decide +kernel)) ki_4 (BG_in 366 (by decide +kernel) (by decide +kernel) : Cond.code yX4_power cX4_power 2 (some .int) ∈ BG)
theorem kd_X4_power : yX4_power.cls = RX4 ∧ yX4_power.cls ≠ "java/lang/invoke/MethodHandle" ∧ yX4_power.cls ≠ "java/lang/invoke/VarHandle" ∧ (parseMethodDescriptor yX4_power.desc).map (fun d => d.parameters.length) = some 1 := by decide +kernel
theorem kl_L_34 : ∀ w ∈ wsV R_law 34 RX5 yX5_power (.code yX5_power cX5_power 2 (some .int) :: BG), w ∈ BG := kV (BG_in 826 (by decide +kernel) (by decide +kernel)) (BG_in 827 (by decide +kernel) (by decide +kernel)) (BG_in 828 (by decide +kernel) (by decide +kernel)) ki_5 (BG_in 829 (by decide +kernel) (by decide +kernel) : Cond.code yX5_power cX5_power 2 (some .int) ∈ BG)
theorem kd_X5_power : yX5_power.cls = RX5 ∧ yX5_power.cls ≠ "java/lang/invoke/MethodHandle" ∧ yX5_power.cls ≠ "java/lang/invoke/VarHandle" ∧ (parseMethodDescriptor yX5_power.desc).map (fun d => d.parameters.length) = some 1 := by decide +kernel
theorem kl_L_35 : ∀ w ∈ wsV R_law 35 RX4 yX4_classOf (.code yX4_classOf cX4_classOf 2 (some .int) :: BG), w ∈ BG := kV (BG_in 371 (by decide +kernel) (by decide +kernel)) (BG_in 372 (by decide +kernel) (by decide +kernel)) (BG_in 373 (by decide +kernel) (by decide +kernel)) ki_4 (BG_in 374 (by decide +kernel) (by decide +kernel) : Cond.code yX4_classOf cX4_classOf 2 (some .int) ∈ BG)
theorem kd_X4_classOf : yX4_classOf.cls = RX4 ∧ yX4_classOf.cls ≠ "java/lang/invoke/MethodHandle" ∧ yX4_classOf.cls ≠ "java/lang/invoke/VarHandle" ∧ (parseMethodDescriptor yX4_classOf.desc).map (fun d => d.parameters.length) = some 1 := by decide +kernel
theorem kl_L_38 : ∀ w ∈ wsV R_law 38 RX5 yX5_classOf (.code yX5_classOf cX5_classOf 2 (some .int) :: BG), w ∈ BG := kV (BG_in 830 (by decide +kernel) (by decide +kernel)) (BG_in 831 (by decide +kernel) (by decide +kernel)) (BG_in 832 (by decide +kernel) (by decide +kernel)) ki_5 (BG_in 833 (by decide +kernel) (by decide +kernel) : Cond.code yX5_classOf cX5_classOf 2 (some .int) ∈ BG)
theorem kd_X5_classOf : yX5_classOf.cls = RX5 ∧ yX5_classOf.cls ≠ "java/lang/invoke/MethodHandle" ∧ yX5_classOf.cls ≠ "java/lang/invoke/VarHandle" ∧ (parseMethodDescriptor yX5_classOf.desc).map (fun d => d.parameters.length) = some 1 := by decide +kernel
theorem kl_L_39 : ∀ w ∈ wsV R_law 39 RX4 yX4_member (.code yX4_member cX4_member 5 (some .int) :: BG), w ∈ BG := kV (BG_in 375 (by decide +kernel) (by decide +kernel)) (BG_in 376 (by decide +kernel) (by decide +kernel)) (BG_in 377 (by decide +kernel) (by decide +kernel)) ki_4 (BG_in 378 (by decide +kernel) (by decide +kernel) : Cond.code yX4_member cX4_member 5 (some .int) ∈ BG)
theorem kd_X4_member : yX4_member.cls = RX4 ∧ yX4_member.cls ≠ "java/lang/invoke/MethodHandle" ∧ yX4_member.cls ≠ "java/lang/invoke/VarHandle" ∧ (parseMethodDescriptor yX4_member.desc).map (fun d => d.parameters.length) = some 2 := by decide +kernel
theorem kl_L_42 : ∀ w ∈ wsV R_law 42 RX5 yX5_member (.code yX5_member cX5_member 5 (some .int) :: BG), w ∈ BG := kV (BG_in 834 (by decide +kernel) (by decide +kernel)) (BG_in 835 (by decide +kernel) (by decide +kernel)) (BG_in 836 (by decide +kernel) (by decide +kernel)) ki_5 (BG_in 837 (by decide +kernel) (by decide +kernel) : Cond.code yX5_member cX5_member 5 (some .int) ∈ BG)
theorem kd_X5_member : yX5_member.cls = RX5 ∧ yX5_member.cls ≠ "java/lang/invoke/MethodHandle" ∧ yX5_member.cls ≠ "java/lang/invoke/VarHandle" ∧ (parseMethodDescriptor yX5_member.desc).map (fun d => d.parameters.length) = some 2 := by decide +kernel
theorem kl_L_43 : ∀ w ∈ wsV R_law 43 RX4 yX4_beside (.code yX4_beside cX4_beside 3 (some .int) :: BG), w ∈ BG := kV (BG_in 383 (by decide +kernel) (by decide +kernel)) (BG_in 384 (by decide +kernel) (by decide +kernel)) (BG_in 385 (by decide +kernel) (by decide +kernel)) ki_4 (BG_in 386 (by decide +kernel) (by decide +kernel) : Cond.code yX4_beside cX4_beside 3 (some .int) ∈ BG)
theorem kd_X4_beside : yX4_beside.cls = RX4 ∧ yX4_beside.cls ≠ "java/lang/invoke/MethodHandle" ∧ yX4_beside.cls ≠ "java/lang/invoke/VarHandle" ∧ (parseMethodDescriptor yX4_beside.desc).map (fun d => d.parameters.length) = some 2 := by decide +kernel
theorem kl_L_46 : ∀ w ∈ wsV R_law 46 RX5 yX5_beside (.code yX5_beside cX5_beside 3 (some .int) :: BG), w ∈ BG := kV (BG_in 842 (by decide +kernel) (by decide +kernel)) (BG_in 843 (by decide +kernel) (by decide +kernel)) (BG_in 844 (by decide +kernel) (by decide +kernel)) ki_5 (BG_in 845 (by decide +kernel) (by decide +kernel) : Cond.code yX5_beside cX5_beside 3 (some .int) ∈ BG)
theorem kd_X5_beside : yX5_beside.cls = RX5 ∧ yX5_beside.cls ≠ "java/lang/invoke/MethodHandle" ∧ yX5_beside.cls ≠ "java/lang/invoke/VarHandle" ∧ (parseMethodDescriptor yX5_beside.desc).map (fun d => d.parameters.length) = some 2 := by decide +kernel
theorem kl_L_47 : ∀ w ∈ wsV R_law 47 RX4 yX4_meets (.code yX4_meets cX4_meets 5 (some .int) :: BG), w ∈ BG := kV (BG_in 387 (by decide +kernel) (by decide +kernel)) (BG_in 388 (by decide +kernel) (by decide +kernel)) (BG_in 389 (by decide +kernel) (by decide +kernel)) ki_4 (BG_in 390 (by decide +kernel) (by decide +kernel) : Cond.code yX4_meets cX4_meets 5 (some .int) ∈ BG)
theorem kd_X4_meets : yX4_meets.cls = RX4 ∧ yX4_meets.cls ≠ "java/lang/invoke/MethodHandle" ∧ yX4_meets.cls ≠ "java/lang/invoke/VarHandle" ∧ (parseMethodDescriptor yX4_meets.desc).map (fun d => d.parameters.length) = some 3 := by decide +kernel
theorem kl_L_51 : ∀ w ∈ wsV R_law 51 RX5 yX5_meets (.code yX5_meets cX5_meets 4 (some .int) :: BG), w ∈ BG := kV (BG_in 850 (by decide +kernel) (by decide +kernel)) (BG_in 851 (by decide +kernel) (by decide +kernel)) (BG_in 852 (by decide +kernel) (by decide +kernel)) ki_5 (BG_in 853 (by decide +kernel) (by decide +kernel) : Cond.code yX5_meets cX5_meets 4 (some .int) ∈ BG)
theorem kd_X5_meets : yX5_meets.cls = RX5 ∧ yX5_meets.cls ≠ "java/lang/invoke/MethodHandle" ∧ yX5_meets.cls ≠ "java/lang/invoke/VarHandle" ∧ (parseMethodDescriptor yX5_meets.desc).map (fun d => d.parameters.length) = some 3 := by decide +kernel
theorem kl_L_52 : ∀ w ∈ wsV R_law 52 RX4 yX4_times (.code yX4_times cX4_times 4 (some .int) :: BG), w ∈ BG := kV (BG_in 393 (by decide +kernel) (by decide +kernel)) (BG_in 394 (by decide +kernel) (by decide +kernel)) (BG_in 395 (by decide +kernel) (by decide +kernel)) ki_4 (BG_in 396 (by decide +kernel) (by decide +kernel) : Cond.code yX4_times cX4_times 4 (some .int) ∈ BG)
theorem kd_X4_times : yX4_times.cls = RX4 ∧ yX4_times.cls ≠ "java/lang/invoke/MethodHandle" ∧ yX4_times.cls ≠ "java/lang/invoke/VarHandle" ∧ (parseMethodDescriptor yX4_times.desc).map (fun d => d.parameters.length) = some 3 := by decide +kernel
theorem kl_L_55 : ∀ w ∈ wsV R_law 55 RX5 yX5_times (.code yX5_times cX5_times 4 (some .int) :: BG), w ∈ BG := kV (BG_in 854 (by decide +kernel) (by decide +kernel)) (BG_in 855 (by decide +kernel) (by decide +kernel)) (BG_in 856 (by decide +kernel) (by decide +kernel)) ki_5 (BG_in 857 (by decide +kernel) (by decide +kernel) : Cond.code yX5_times cX5_times 4 (some .int) ∈ BG)
theorem kd_X5_times : yX5_times.cls = RX5 ∧ yX5_times.cls ≠ "java/lang/invoke/MethodHandle" ∧ yX5_times.cls ≠ "java/lang/invoke/VarHandle" ∧ (parseMethodDescriptor yX5_times.desc).map (fun d => d.parameters.length) = some 3 := by decide +kernel
theorem kl_L_56 : ∀ w ∈ wsV R_law 56 RX4 yX4_opposite (.code yX4_opposite cX4_opposite 2 (some .int) :: BG), w ∈ BG := kV (BG_in 397 (by decide +kernel) (by decide +kernel)) (BG_in 398 (by decide +kernel) (by decide +kernel)) (BG_in 399 (by decide +kernel) (by decide +kernel)) ki_4 (BG_in 400 (by decide +kernel) (by decide +kernel) : Cond.code yX4_opposite cX4_opposite 2 (some .int) ∈ BG)
theorem kd_X4_opposite : yX4_opposite.cls = RX4 ∧ yX4_opposite.cls ≠ "java/lang/invoke/MethodHandle" ∧ yX4_opposite.cls ≠ "java/lang/invoke/VarHandle" ∧ (parseMethodDescriptor yX4_opposite.desc).map (fun d => d.parameters.length) = some 1 := by decide +kernel
theorem kl_L_59 : ∀ w ∈ wsV R_law 59 RX5 yX5_opposite (.code yX5_opposite cX5_opposite 2 (some .int) :: BG), w ∈ BG := kV (BG_in 866 (by decide +kernel) (by decide +kernel)) (BG_in 867 (by decide +kernel) (by decide +kernel)) (BG_in 868 (by decide +kernel) (by decide +kernel)) ki_5 (BG_in 869 (by decide +kernel) (by decide +kernel) : Cond.code yX5_opposite cX5_opposite 2 (some .int) ∈ BG)
theorem kd_X5_opposite : yX5_opposite.cls = RX5 ∧ yX5_opposite.cls ≠ "java/lang/invoke/MethodHandle" ∧ yX5_opposite.cls ≠ "java/lang/invoke/VarHandle" ∧ (parseMethodDescriptor yX5_opposite.desc).map (fun d => d.parameters.length) = some 1 := by decide +kernel
theorem kl_L_60 : ∀ w ∈ wsV R_law 60 RX4 yX4_around (.code yX4_around cX4_around 5 (some .int) :: BG), w ∈ BG := kV (BG_in 401 (by decide +kernel) (by decide +kernel)) (BG_in 402 (by decide +kernel) (by decide +kernel)) (BG_in 403 (by decide +kernel) (by decide +kernel)) ki_4 (BG_in 404 (by decide +kernel) (by decide +kernel) : Cond.code yX4_around cX4_around 5 (some .int) ∈ BG)
theorem kd_X4_around : yX4_around.cls = RX4 ∧ yX4_around.cls ≠ "java/lang/invoke/MethodHandle" ∧ yX4_around.cls ≠ "java/lang/invoke/VarHandle" ∧ (parseMethodDescriptor yX4_around.desc).map (fun d => d.parameters.length) = some 2 := by decide +kernel
theorem kl_L_63 : ∀ w ∈ wsV R_law 63 RX5 yX5_around (.code yX5_around cX5_around 5 (some .int) :: BG), w ∈ BG := kV (BG_in 870 (by decide +kernel) (by decide +kernel)) (BG_in 871 (by decide +kernel) (by decide +kernel)) (BG_in 872 (by decide +kernel) (by decide +kernel)) ki_5 (BG_in 873 (by decide +kernel) (by decide +kernel) : Cond.code yX5_around cX5_around 5 (some .int) ∈ BG)
theorem kd_X5_around : yX5_around.cls = RX5 ∧ yX5_around.cls ≠ "java/lang/invoke/MethodHandle" ∧ yX5_around.cls ≠ "java/lang/invoke/VarHandle" ∧ (parseMethodDescriptor yX5_around.desc).map (fun d => d.parameters.length) = some 2 := by decide +kernel
theorem kl_L_64 : ∀ w ∈ wsV R_law 64 RX4 yX4_solved (.code yX4_solved cX4_solved 8 (some .int) :: BG), w ∈ BG := kV (BG_in 405 (by decide +kernel) (by decide +kernel)) (BG_in 406 (by decide +kernel) (by decide +kernel)) (BG_in 407 (by decide +kernel) (by decide +kernel)) ki_4 (BG_in 408 (by decide +kernel) (by decide +kernel) : Cond.code yX4_solved cX4_solved 8 (some .int) ∈ BG)
theorem kd_X4_solved : yX4_solved.cls = RX4 ∧ yX4_solved.cls ≠ "java/lang/invoke/MethodHandle" ∧ yX4_solved.cls ≠ "java/lang/invoke/VarHandle" ∧ (parseMethodDescriptor yX4_solved.desc).map (fun d => d.parameters.length) = some 3 := by decide +kernel
theorem kl_L_67 : ∀ w ∈ wsV R_law 67 RX5 yX5_solved (.code yX5_solved cX5_solved 7 (some .int) :: BG), w ∈ BG := kV (BG_in 874 (by decide +kernel) (by decide +kernel)) (BG_in 875 (by decide +kernel) (by decide +kernel)) (BG_in 876 (by decide +kernel) (by decide +kernel)) ki_5 (BG_in 877 (by decide +kernel) (by decide +kernel) : Cond.code yX5_solved cX5_solved 7 (some .int) ∈ BG)
theorem kd_X5_solved : yX5_solved.cls = RX5 ∧ yX5_solved.cls ≠ "java/lang/invoke/MethodHandle" ∧ yX5_solved.cls ≠ "java/lang/invoke/VarHandle" ∧ (parseMethodDescriptor yX5_solved.desc).map (fun d => d.parameters.length) = some 3 := by decide +kernel
theorem kl_L_68 : ∀ w ∈ wsV R_law 68 RX4 yX4_polynomial (.code yX4_polynomial cX4_polynomial 2 (some .long) :: BG), w ∈ BG := kV (BG_in 413 (by decide +kernel) (by decide +kernel)) (BG_in 414 (by decide +kernel) (by decide +kernel)) (BG_in 415 (by decide +kernel) (by decide +kernel)) ki_4 (BG_in 416 (by decide +kernel) (by decide +kernel) : Cond.code yX4_polynomial cX4_polynomial 2 (some .long) ∈ BG)
theorem kd_X4_polynomial : yX4_polynomial.cls = RX4 ∧ yX4_polynomial.cls ≠ "java/lang/invoke/MethodHandle" ∧ yX4_polynomial.cls ≠ "java/lang/invoke/VarHandle" ∧ (parseMethodDescriptor yX4_polynomial.desc).map (fun d => d.parameters.length) = some 1 := by decide +kernel
theorem kl_L_72 : ∀ w ∈ wsV R_law 72 RX5 yX5_polynomial (.code yX5_polynomial cX5_polynomial 2 (some .long) :: BG), w ∈ BG := kV (BG_in 882 (by decide +kernel) (by decide +kernel)) (BG_in 883 (by decide +kernel) (by decide +kernel)) (BG_in 884 (by decide +kernel) (by decide +kernel)) ki_5 (BG_in 885 (by decide +kernel) (by decide +kernel) : Cond.code yX5_polynomial cX5_polynomial 2 (some .long) ∈ BG)
theorem kd_X5_polynomial : yX5_polynomial.cls = RX5 ∧ yX5_polynomial.cls ≠ "java/lang/invoke/MethodHandle" ∧ yX5_polynomial.cls ≠ "java/lang/invoke/VarHandle" ∧ (parseMethodDescriptor yX5_polynomial.desc).map (fun d => d.parameters.length) = some 1 := by decide +kernel
theorem kl_L_73 : ∀ w ∈ wsV R_law 73 RX4 yX4_roots (.code yX4_roots cX4_roots 7 (some .int) :: BG), w ∈ BG := kV (BG_in 418 (by decide +kernel) (by decide +kernel)) (BG_in 419 (by decide +kernel) (by decide +kernel)) (BG_in 420 (by decide +kernel) (by decide +kernel)) ki_4 (BG_in 421 (by decide +kernel) (by decide +kernel) : Cond.code yX4_roots cX4_roots 7 (some .int) ∈ BG)
theorem kd_X4_roots : yX4_roots.cls = RX4 ∧ yX4_roots.cls ≠ "java/lang/invoke/MethodHandle" ∧ yX4_roots.cls ≠ "java/lang/invoke/VarHandle" ∧ (parseMethodDescriptor yX4_roots.desc).map (fun d => d.parameters.length) = some 1 := by decide +kernel
theorem kl_L_76 : ∀ w ∈ wsV R_law 76 RX5 yX5_roots (.code yX5_roots cX5_roots 7 (some .int) :: BG), w ∈ BG := kV (BG_in 895 (by decide +kernel) (by decide +kernel)) (BG_in 896 (by decide +kernel) (by decide +kernel)) (BG_in 897 (by decide +kernel) (by decide +kernel)) ki_5 (BG_in 898 (by decide +kernel) (by decide +kernel) : Cond.code yX5_roots cX5_roots 7 (some .int) ∈ BG)
theorem kd_X5_roots : yX5_roots.cls = RX5 ∧ yX5_roots.cls ≠ "java/lang/invoke/MethodHandle" ∧ yX5_roots.cls ≠ "java/lang/invoke/VarHandle" ∧ (parseMethodDescriptor yX5_roots.desc).map (fun d => d.parameters.length) = some 1 := by decide +kernel
theorem kl_L_79 : ∀ w ∈ wsV R_law 79 RX4 yX4_put (.code yX4_put cX4_put 5 (some .int) :: BG), w ∈ BG := kV (BG_in 422 (by decide +kernel) (by decide +kernel)) (BG_in 423 (by decide +kernel) (by decide +kernel)) (BG_in 424 (by decide +kernel) (by decide +kernel)) ki_4 (BG_in 425 (by decide +kernel) (by decide +kernel) : Cond.code yX4_put cX4_put 5 (some .int) ∈ BG)
theorem kd_X4_put : yX4_put.cls = RX4 ∧ yX4_put.cls ≠ "java/lang/invoke/MethodHandle" ∧ yX4_put.cls ≠ "java/lang/invoke/VarHandle" ∧ (parseMethodDescriptor yX4_put.desc).map (fun d => d.parameters.length) = some 3 := by decide +kernel
theorem kl_L_83 : ∀ w ∈ wsV R_law 83 RX5 yX5_put (.code yX5_put cX5_put 5 (some .int) :: BG), w ∈ BG := kV (BG_in 901 (by decide +kernel) (by decide +kernel)) (BG_in 902 (by decide +kernel) (by decide +kernel)) (BG_in 903 (by decide +kernel) (by decide +kernel)) ki_5 (BG_in 904 (by decide +kernel) (by decide +kernel) : Cond.code yX5_put cX5_put 5 (some .int) ∈ BG)
theorem kd_X5_put : yX5_put.cls = RX5 ∧ yX5_put.cls ≠ "java/lang/invoke/MethodHandle" ∧ yX5_put.cls ≠ "java/lang/invoke/VarHandle" ∧ (parseMethodDescriptor yX5_put.desc).map (fun d => d.parameters.length) = some 3 := by decide +kernel
theorem kl_L_84 : ∀ w ∈ wsV R_law 84 RX4 yX4_of (.code yX4_of cX4_of 3 (some .long) :: BG), w ∈ BG := kV (BG_in 429 (by decide +kernel) (by decide +kernel)) (BG_in 430 (by decide +kernel) (by decide +kernel)) (BG_in 431 (by decide +kernel) (by decide +kernel)) ki_4 (BG_in 432 (by decide +kernel) (by decide +kernel) : Cond.code yX4_of cX4_of 3 (some .long) ∈ BG)
theorem kd_X4_of : yX4_of.cls = RX4 ∧ yX4_of.cls ≠ "java/lang/invoke/MethodHandle" ∧ yX4_of.cls ≠ "java/lang/invoke/VarHandle" ∧ (parseMethodDescriptor yX4_of.desc).map (fun d => d.parameters.length) = some 2 := by decide +kernel
theorem kl_L_88 : ∀ w ∈ wsV R_law 88 RX5 yX5_of (.code yX5_of cX5_of 3 (some .long) :: BG), w ∈ BG := kV (BG_in 908 (by decide +kernel) (by decide +kernel)) (BG_in 909 (by decide +kernel) (by decide +kernel)) (BG_in 910 (by decide +kernel) (by decide +kernel)) ki_5 (BG_in 911 (by decide +kernel) (by decide +kernel) : Cond.code yX5_of cX5_of 3 (some .long) ∈ BG)
theorem kd_X5_of : yX5_of.cls = RX5 ∧ yX5_of.cls ≠ "java/lang/invoke/MethodHandle" ∧ yX5_of.cls ≠ "java/lang/invoke/VarHandle" ∧ (parseMethodDescriptor yX5_of.desc).map (fun d => d.parameters.length) = some 2 := by decide +kernel
theorem kl_L_89 : ∀ w ∈ wsV R_law 89 RX4 yX4_whole (.code yX4_whole cX4_whole 3 (some .int) :: BG), w ∈ BG := kV (BG_in 433 (by decide +kernel) (by decide +kernel)) (BG_in 434 (by decide +kernel) (by decide +kernel)) (BG_in 435 (by decide +kernel) (by decide +kernel)) ki_4 (BG_in 436 (by decide +kernel) (by decide +kernel) : Cond.code yX4_whole cX4_whole 3 (some .int) ∈ BG)
theorem kd_X4_whole : yX4_whole.cls = RX4 ∧ yX4_whole.cls ≠ "java/lang/invoke/MethodHandle" ∧ yX4_whole.cls ≠ "java/lang/invoke/VarHandle" ∧ (parseMethodDescriptor yX4_whole.desc).map (fun d => d.parameters.length) = some 2 := by decide +kernel
theorem kl_L_92 : ∀ w ∈ wsV R_law 92 RX5 yX5_whole (.code yX5_whole cX5_whole 3 (some .int) :: BG), w ∈ BG := kV (BG_in 912 (by decide +kernel) (by decide +kernel)) (BG_in 913 (by decide +kernel) (by decide +kernel)) (BG_in 914 (by decide +kernel) (by decide +kernel)) ki_5 (BG_in 915 (by decide +kernel) (by decide +kernel) : Cond.code yX5_whole cX5_whole 3 (some .int) ∈ BG)
theorem kd_X5_whole : yX5_whole.cls = RX5 ∧ yX5_whole.cls ≠ "java/lang/invoke/MethodHandle" ∧ yX5_whole.cls ≠ "java/lang/invoke/VarHandle" ∧ (parseMethodDescriptor yX5_whole.desc).map (fun d => d.parameters.length) = some 2 := by decide +kernel
theorem kl_L_93 : ∀ w ∈ wsV R_law 93 RX4 yX4_period (.code yX4_period cX4_period 3 (some .int) :: BG), w ∈ BG := kV (BG_in 437 (by decide +kernel) (by decide +kernel)) (BG_in 438 (by decide +kernel) (by decide +kernel)) (BG_in 439 (by decide +kernel) (by decide +kernel)) ki_4 (BG_in 440 (by decide +kernel) (by decide +kernel) : Cond.code yX4_period cX4_period 3 (some .int) ∈ BG)
theorem kd_X4_period : yX4_period.cls = RX4 ∧ yX4_period.cls ≠ "java/lang/invoke/MethodHandle" ∧ yX4_period.cls ≠ "java/lang/invoke/VarHandle" ∧ (parseMethodDescriptor yX4_period.desc).map (fun d => d.parameters.length) = some 2 := by decide +kernel
theorem kl_L_96 : ∀ w ∈ wsV R_law 96 RX5 yX5_period (.code yX5_period cX5_period 4 (some .int) :: BG), w ∈ BG := kV (BG_in 928 (by decide +kernel) (by decide +kernel)) (BG_in 929 (by decide +kernel) (by decide +kernel)) (BG_in 930 (by decide +kernel) (by decide +kernel)) ki_5 (BG_in 931 (by decide +kernel) (by decide +kernel) : Cond.code yX5_period cX5_period 4 (some .int) ∈ BG)
theorem kd_X5_period : yX5_period.cls = RX5 ∧ yX5_period.cls ≠ "java/lang/invoke/MethodHandle" ∧ yX5_period.cls ≠ "java/lang/invoke/VarHandle" ∧ (parseMethodDescriptor yX5_period.desc).map (fun d => d.parameters.length) = some 2 := by decide +kernel
theorem kl_L_97 : ∀ w ∈ wsV R_law 97 RX4 yX4_add (.code yX4_add cX4_add 4 (some .int) :: BG), w ∈ BG := kV (BG_in 442 (by decide +kernel) (by decide +kernel)) (BG_in 443 (by decide +kernel) (by decide +kernel)) (BG_in 444 (by decide +kernel) (by decide +kernel)) ki_4 (BG_in 445 (by decide +kernel) (by decide +kernel) : Cond.code yX4_add cX4_add 4 (some .int) ∈ BG)
theorem kd_X4_add : yX4_add.cls = RX4 ∧ yX4_add.cls ≠ "java/lang/invoke/MethodHandle" ∧ yX4_add.cls ≠ "java/lang/invoke/VarHandle" ∧ (parseMethodDescriptor yX4_add.desc).map (fun d => d.parameters.length) = some 3 := by decide +kernel
theorem kl_L_100 : ∀ w ∈ wsV R_law 100 RX5 yX5_add (.code yX5_add cX5_add 4 (some .int) :: BG), w ∈ BG := kV (BG_in 932 (by decide +kernel) (by decide +kernel)) (BG_in 933 (by decide +kernel) (by decide +kernel)) (BG_in 934 (by decide +kernel) (by decide +kernel)) ki_5 (BG_in 935 (by decide +kernel) (by decide +kernel) : Cond.code yX5_add cX5_add 4 (some .int) ∈ BG)
theorem kd_X5_add : yX5_add.cls = RX5 ∧ yX5_add.cls ≠ "java/lang/invoke/MethodHandle" ∧ yX5_add.cls ≠ "java/lang/invoke/VarHandle" ∧ (parseMethodDescriptor yX5_add.desc).map (fun d => d.parameters.length) = some 3 := by decide +kernel
theorem kl_L_101 : ∀ w ∈ wsV R_law 101 RX4 yX4_less (.code yX4_less cX4_less 4 (some .int) :: BG), w ∈ BG := kV (BG_in 458 (by decide +kernel) (by decide +kernel)) (BG_in 459 (by decide +kernel) (by decide +kernel)) (BG_in 460 (by decide +kernel) (by decide +kernel)) ki_4 (BG_in 461 (by decide +kernel) (by decide +kernel) : Cond.code yX4_less cX4_less 4 (some .int) ∈ BG)
theorem kd_X4_less : yX4_less.cls = RX4 ∧ yX4_less.cls ≠ "java/lang/invoke/MethodHandle" ∧ yX4_less.cls ≠ "java/lang/invoke/VarHandle" ∧ (parseMethodDescriptor yX4_less.desc).map (fun d => d.parameters.length) = some 3 := by decide +kernel
theorem kl_L_104 : ∀ w ∈ wsV R_law 104 RX5 yX5_less (.code yX5_less cX5_less 4 (some .int) :: BG), w ∈ BG := kV (BG_in 962 (by decide +kernel) (by decide +kernel)) (BG_in 963 (by decide +kernel) (by decide +kernel)) (BG_in 964 (by decide +kernel) (by decide +kernel)) ki_5 (BG_in 965 (by decide +kernel) (by decide +kernel) : Cond.code yX5_less cX5_less 4 (some .int) ∈ BG)
theorem kd_X5_less : yX5_less.cls = RX5 ∧ yX5_less.cls ≠ "java/lang/invoke/MethodHandle" ∧ yX5_less.cls ≠ "java/lang/invoke/VarHandle" ∧ (parseMethodDescriptor yX5_less.desc).map (fun d => d.parameters.length) = some 3 := by decide +kernel
theorem kl_L_105 : ∀ w ∈ wsV R_law 105 RX4 yX4_product (.code yX4_product cX4_product 4 (some .int) :: BG), w ∈ BG := kV (BG_in 469 (by decide +kernel) (by decide +kernel)) (BG_in 470 (by decide +kernel) (by decide +kernel)) (BG_in 471 (by decide +kernel) (by decide +kernel)) ki_4 (BG_in 472 (by decide +kernel) (by decide +kernel) : Cond.code yX4_product cX4_product 4 (some .int) ∈ BG)
theorem kd_X4_product : yX4_product.cls = RX4 ∧ yX4_product.cls ≠ "java/lang/invoke/MethodHandle" ∧ yX4_product.cls ≠ "java/lang/invoke/VarHandle" ∧ (parseMethodDescriptor yX4_product.desc).map (fun d => d.parameters.length) = some 3 := by decide +kernel
theorem kl_L_108 : ∀ w ∈ wsV R_law 108 RX5 yX5_product (.code yX5_product cX5_product 4 (some .int) :: BG), w ∈ BG := kV (BG_in 966 (by decide +kernel) (by decide +kernel)) (BG_in 967 (by decide +kernel) (by decide +kernel)) (BG_in 968 (by decide +kernel) (by decide +kernel)) ki_5 (BG_in 969 (by decide +kernel) (by decide +kernel) : Cond.code yX5_product cX5_product 4 (some .int) ∈ BG)
theorem kd_X5_product : yX5_product.cls = RX5 ∧ yX5_product.cls ≠ "java/lang/invoke/MethodHandle" ∧ yX5_product.cls ≠ "java/lang/invoke/VarHandle" ∧ (parseMethodDescriptor yX5_product.desc).map (fun d => d.parameters.length) = some 3 := by decide +kernel
theorem kl_L_109 : ∀ w ∈ wsV R_law 109 RX4 yX4_raise (.code yX4_raise cX4_raise 4 (some .int) :: BG), w ∈ BG := kV (BG_in 487 (by decide +kernel) (by decide +kernel)) (BG_in 488 (by decide +kernel) (by decide +kernel)) (BG_in 489 (by decide +kernel) (by decide +kernel)) ki_4 (BG_in 490 (by decide +kernel) (by decide +kernel) : Cond.code yX4_raise cX4_raise 4 (some .int) ∈ BG)
theorem kd_X4_raise : yX4_raise.cls = RX4 ∧ yX4_raise.cls ≠ "java/lang/invoke/MethodHandle" ∧ yX4_raise.cls ≠ "java/lang/invoke/VarHandle" ∧ (parseMethodDescriptor yX4_raise.desc).map (fun d => d.parameters.length) = some 3 := by decide +kernel
theorem kl_L_112 : ∀ w ∈ wsV R_law 112 RX5 yX5_raise (.code yX5_raise cX5_raise 5 (some .int) :: BG), w ∈ BG := kV (BG_in 981 (by decide +kernel) (by decide +kernel)) (BG_in 982 (by decide +kernel) (by decide +kernel)) (BG_in 983 (by decide +kernel) (by decide +kernel)) ki_5 (BG_in 984 (by decide +kernel) (by decide +kernel) : Cond.code yX5_raise cX5_raise 5 (some .int) ∈ BG)
theorem kd_X5_raise : yX5_raise.cls = RX5 ∧ yX5_raise.cls ≠ "java/lang/invoke/MethodHandle" ∧ yX5_raise.cls ≠ "java/lang/invoke/VarHandle" ∧ (parseMethodDescriptor yX5_raise.desc).map (fun d => d.parameters.length) = some 3 := by decide +kernel
theorem kl_L_113 : ∀ w ∈ wsV R_law 113 RX4 yX4_turn (.code yX4_turn cX4_turn 4 (some .int) :: BG), w ∈ BG := kV (BG_in 509 (by decide +kernel) (by decide +kernel)) (BG_in 510 (by decide +kernel) (by decide +kernel)) (BG_in 511 (by decide +kernel) (by decide +kernel)) ki_4 (BG_in 512 (by decide +kernel) (by decide +kernel) : Cond.code yX4_turn cX4_turn 4 (some .int) ∈ BG)
theorem kd_X4_turn : yX4_turn.cls = RX4 ∧ yX4_turn.cls ≠ "java/lang/invoke/MethodHandle" ∧ yX4_turn.cls ≠ "java/lang/invoke/VarHandle" ∧ (parseMethodDescriptor yX4_turn.desc).map (fun d => d.parameters.length) = some 3 := by decide +kernel
theorem kl_L_116 : ∀ w ∈ wsV R_law 116 RX5 yX5_turn (.code yX5_turn cX5_turn 4 (some .int) :: BG), w ∈ BG := kV (BG_in 990 (by decide +kernel) (by decide +kernel)) (BG_in 991 (by decide +kernel) (by decide +kernel)) (BG_in 992 (by decide +kernel) (by decide +kernel)) ki_5 (BG_in 993 (by decide +kernel) (by decide +kernel) : Cond.code yX5_turn cX5_turn 4 (some .int) ∈ BG)
theorem kd_X5_turn : yX5_turn.cls = RX5 ∧ yX5_turn.cls ≠ "java/lang/invoke/MethodHandle" ∧ yX5_turn.cls ≠ "java/lang/invoke/VarHandle" ∧ (parseMethodDescriptor yX5_turn.desc).map (fun d => d.parameters.length) = some 3 := by decide +kernel
theorem kl_L_117 : ∀ w ∈ wsV R_law 117 RX4 yX4_norm (.code yX4_norm cX4_norm 2 (some .long) :: BG), w ∈ BG := kV (BG_in 520 (by decide +kernel) (by decide +kernel)) (BG_in 521 (by decide +kernel) (by decide +kernel)) (BG_in 522 (by decide +kernel) (by decide +kernel)) ki_4 (BG_in 523 (by decide +kernel) (by decide +kernel) : Cond.code yX4_norm cX4_norm 2 (some .long) ∈ BG)
theorem kd_X4_norm : yX4_norm.cls = RX4 ∧ yX4_norm.cls ≠ "java/lang/invoke/MethodHandle" ∧ yX4_norm.cls ≠ "java/lang/invoke/VarHandle" ∧ (parseMethodDescriptor yX4_norm.desc).map (fun d => d.parameters.length) = some 1 := by decide +kernel
theorem kl_L_120 : ∀ w ∈ wsV R_law 120 RX5 yX5_norm (.code yX5_norm cX5_norm 3 (some .long) :: BG), w ∈ BG := kV (BG_in 998 (by decide +kernel) (by decide +kernel)) (BG_in 999 (by decide +kernel) (by decide +kernel)) (BG_in 1000 (by decide +kernel) (by decide +kernel)) ki_5 (BG_in 1001 (by decide +kernel) (by decide +kernel) : Cond.code yX5_norm cX5_norm 3 (some .long) ∈ BG)
theorem kd_X5_norm : yX5_norm.cls = RX5 ∧ yX5_norm.cls ≠ "java/lang/invoke/MethodHandle" ∧ yX5_norm.cls ≠ "java/lang/invoke/VarHandle" ∧ (parseMethodDescriptor yX5_norm.desc).map (fun d => d.parameters.length) = some 1 := by decide +kernel
theorem kl_L_121 : ∀ w ∈ wsV R_law 121 RX4 yX4_trace (.code yX4_trace cX4_trace 2 (some .long) :: BG), w ∈ BG := kV (BG_in 533 (by decide +kernel) (by decide +kernel)) (BG_in 534 (by decide +kernel) (by decide +kernel)) (BG_in 535 (by decide +kernel) (by decide +kernel)) ki_4 (BG_in 536 (by decide +kernel) (by decide +kernel) : Cond.code yX4_trace cX4_trace 2 (some .long) ∈ BG)
theorem kd_X4_trace : yX4_trace.cls = RX4 ∧ yX4_trace.cls ≠ "java/lang/invoke/MethodHandle" ∧ yX4_trace.cls ≠ "java/lang/invoke/VarHandle" ∧ (parseMethodDescriptor yX4_trace.desc).map (fun d => d.parameters.length) = some 1 := by decide +kernel
theorem kl_L_124 : ∀ w ∈ wsV R_law 124 RX5 yX5_trace (.code yX5_trace cX5_trace 7 (some .long) :: BG), w ∈ BG := kV (BG_in 1002 (by decide +kernel) (by decide +kernel)) (BG_in 1003 (by decide +kernel) (by decide +kernel)) (BG_in 1004 (by decide +kernel) (by decide +kernel)) ki_5 (BG_in 1005 (by decide +kernel) (by decide +kernel) : Cond.code yX5_trace cX5_trace 7 (some .long) ∈ BG)
theorem kd_X5_trace : yX5_trace.cls = RX5 ∧ yX5_trace.cls ≠ "java/lang/invoke/MethodHandle" ∧ yX5_trace.cls ≠ "java/lang/invoke/VarHandle" ∧ (parseMethodDescriptor yX5_trace.desc).map (fun d => d.parameters.length) = some 1 := by decide +kernel
theorem kl_L_125 : ∀ w ∈ wsV R_law 125 RX4 yX4_isWhole (.code yX4_isWhole cX4_isWhole 3 (some .int) :: BG), w ∈ BG := kV (BG_in 541 (by decide +kernel) (by decide +kernel)) (BG_in 542 (by decide +kernel) (by decide +kernel)) (BG_in 543 (by decide +kernel) (by decide +kernel)) ki_4 (BG_in 544 (by decide +kernel) (by decide +kernel) : Cond.code yX4_isWhole cX4_isWhole 3 (some .int) ∈ BG)
theorem kd_X4_isWhole : yX4_isWhole.cls = RX4 ∧ yX4_isWhole.cls ≠ "java/lang/invoke/MethodHandle" ∧ yX4_isWhole.cls ≠ "java/lang/invoke/VarHandle" ∧ (parseMethodDescriptor yX4_isWhole.desc).map (fun d => d.parameters.length) = some 1 := by decide +kernel
theorem kl_L_128 : ∀ w ∈ wsV R_law 128 RX5 yX5_isWhole (.code yX5_isWhole cX5_isWhole 4 (some .int) :: BG), w ∈ BG := kV (BG_in 1006 (by decide +kernel) (by decide +kernel)) (BG_in 1007 (by decide +kernel) (by decide +kernel)) (BG_in 1008 (by decide +kernel) (by decide +kernel)) ki_5 (BG_in 1009 (by decide +kernel) (by decide +kernel) : Cond.code yX5_isWhole cX5_isWhole 4 (some .int) ∈ BG)
theorem kd_X5_isWhole : yX5_isWhole.cls = RX5 ∧ yX5_isWhole.cls ≠ "java/lang/invoke/MethodHandle" ∧ yX5_isWhole.cls ≠ "java/lang/invoke/VarHandle" ∧ (parseMethodDescriptor yX5_isWhole.desc).map (fun d => d.parameters.length) = some 1 := by decide +kernel
theorem kl_L_129 : ∀ w ∈ wsV R_law 129 RX4 yX4_alike (.code yX4_alike cX4_alike 4 (some .int) :: BG), w ∈ BG := kV (BG_in 545 (by decide +kernel) (by decide +kernel)) (BG_in 546 (by decide +kernel) (by decide +kernel)) (BG_in 547 (by decide +kernel) (by decide +kernel)) ki_4 (BG_in 548 (by decide +kernel) (by decide +kernel) : Cond.code yX4_alike cX4_alike 4 (some .int) ∈ BG)
theorem kd_X4_alike : yX4_alike.cls = RX4 ∧ yX4_alike.cls ≠ "java/lang/invoke/MethodHandle" ∧ yX4_alike.cls ≠ "java/lang/invoke/VarHandle" ∧ (parseMethodDescriptor yX4_alike.desc).map (fun d => d.parameters.length) = some 2 := by decide +kernel
theorem kl_L_132 : ∀ w ∈ wsV R_law 132 RX5 yX5_alike (.code yX5_alike cX5_alike 6 (some .int) :: BG), w ∈ BG := kV (BG_in 1010 (by decide +kernel) (by decide +kernel)) (BG_in 1011 (by decide +kernel) (by decide +kernel)) (BG_in 1012 (by decide +kernel) (by decide +kernel)) ki_5 (BG_in 1013 (by decide +kernel) (by decide +kernel) : Cond.code yX5_alike cX5_alike 6 (some .int) ∈ BG)
theorem kd_X5_alike : yX5_alike.cls = RX5 ∧ yX5_alike.cls ≠ "java/lang/invoke/MethodHandle" ∧ yX5_alike.cls ≠ "java/lang/invoke/VarHandle" ∧ (parseMethodDescriptor yX5_alike.desc).map (fun d => d.parameters.length) = some 2 := by decide +kernel
theorem kl_L_133 : ∀ w ∈ wsV R_law 133 RX4 yX4_why (.code yX4_why cX4_why 3 (some .int) :: BG), w ∈ BG := kV (BG_in 553 (by decide +kernel) (by decide +kernel)) (BG_in 554 (by decide +kernel) (by decide +kernel)) (BG_in 555 (by decide +kernel) (by decide +kernel)) ki_4 (BG_in 556 (by decide +kernel) (by decide +kernel) : Cond.code yX4_why cX4_why 3 (some .int) ∈ BG)
theorem kd_X4_why : yX4_why.cls = RX4 ∧ yX4_why.cls ≠ "java/lang/invoke/MethodHandle" ∧ yX4_why.cls ≠ "java/lang/invoke/VarHandle" ∧ (parseMethodDescriptor yX4_why.desc).map (fun d => d.parameters.length) = some 2 := by decide +kernel
theorem kl_L_136 : ∀ w ∈ wsV R_law 136 RX5 yX5_why (.code yX5_why cX5_why 3 (some .int) :: BG), w ∈ BG := kV (BG_in 1014 (by decide +kernel) (by decide +kernel)) (BG_in 1015 (by decide +kernel) (by decide +kernel)) (BG_in 1016 (by decide +kernel) (by decide +kernel)) ki_5 (BG_in 1017 (by decide +kernel) (by decide +kernel) : Cond.code yX5_why cX5_why 3 (some .int) ∈ BG)
theorem kd_X5_why : yX5_why.cls = RX5 ∧ yX5_why.cls ≠ "java/lang/invoke/MethodHandle" ∧ yX5_why.cls ≠ "java/lang/invoke/VarHandle" ∧ (parseMethodDescriptor yX5_why.desc).map (fun d => d.parameters.length) = some 2 := by decide +kernel
theorem kl_L_137 : ∀ w ∈ wsV R_law 137 RX4 yX4_feed (.code yX4_feed cX4_feed 2 (some .int) :: BG), w ∈ BG := kV (BG_in 557 (by decide +kernel) (by decide +kernel)) (BG_in 558 (by decide +kernel) (by decide +kernel)) (BG_in 559 (by decide +kernel) (by decide +kernel)) ki_4 (BG_in 560 (by decide +kernel) (by decide +kernel) : Cond.code yX4_feed cX4_feed 2 (some .int) ∈ BG)
theorem kd_X4_feed : yX4_feed.cls = RX4 ∧ yX4_feed.cls ≠ "java/lang/invoke/MethodHandle" ∧ yX4_feed.cls ≠ "java/lang/invoke/VarHandle" ∧ (parseMethodDescriptor yX4_feed.desc).map (fun d => d.parameters.length) = some 1 := by decide +kernel
theorem kl_L_140 : ∀ w ∈ wsV R_law 140 RX5 yX5_feed (.code yX5_feed cX5_feed 2 (some .int) :: BG), w ∈ BG := kV (BG_in 1018 (by decide +kernel) (by decide +kernel)) (BG_in 1019 (by decide +kernel) (by decide +kernel)) (BG_in 1020 (by decide +kernel) (by decide +kernel)) ki_5 (BG_in 1021 (by decide +kernel) (by decide +kernel) : Cond.code yX5_feed cX5_feed 2 (some .int) ∈ BG)
theorem kd_X5_feed : yX5_feed.cls = RX5 ∧ yX5_feed.cls ≠ "java/lang/invoke/MethodHandle" ∧ yX5_feed.cls ≠ "java/lang/invoke/VarHandle" ∧ (parseMethodDescriptor yX5_feed.desc).map (fun d => d.parameters.length) = some 1 := by decide +kernel
theorem kl_L_141 : ∀ w ∈ wsV R_law 141 RX4 yX4_wipe (.code yX4_wipe cX4_wipe 2 (some .int) :: BG), w ∈ BG := kV (BG_in 565 (by decide +kernel) (by decide +kernel)) (BG_in 566 (by decide +kernel) (by decide +kernel)) (BG_in 567 (by decide +kernel) (by decide +kernel)) ki_4 (BG_in 568 (by decide +kernel) (by decide +kernel) : Cond.code yX4_wipe cX4_wipe 2 (some .int) ∈ BG)
theorem kd_X4_wipe : yX4_wipe.cls = RX4 ∧ yX4_wipe.cls ≠ "java/lang/invoke/MethodHandle" ∧ yX4_wipe.cls ≠ "java/lang/invoke/VarHandle" ∧ (parseMethodDescriptor yX4_wipe.desc).map (fun d => d.parameters.length) = some 0 := by decide +kernel
theorem kl_L_145 : ∀ w ∈ wsV R_law 145 RX5 yX5_wipe (.code yX5_wipe cX5_wipe 2 (some .int) :: BG), w ∈ BG := kV (BG_in 1024 (by decide +kernel) (by decide +kernel)) (BG_in 1025 (by decide +kernel) (by decide +kernel)) (BG_in 1026 (by decide +kernel) (by decide +kernel)) ki_5 (BG_in 1027 (by decide +kernel) (by decide +kernel) : Cond.code yX5_wipe cX5_wipe 2 (some .int) ∈ BG)
theorem kd_X5_wipe : yX5_wipe.cls = RX5 ∧ yX5_wipe.cls ≠ "java/lang/invoke/MethodHandle" ∧ yX5_wipe.cls ≠ "java/lang/invoke/VarHandle" ∧ (parseMethodDescriptor yX5_wipe.desc).map (fun d => d.parameters.length) = some 0 := by decide +kernel
theorem kl_L_146 : ∀ w ∈ wsV R_law 146 RX4 yX4_read (.code yX4_read cX4_read 3 (some .int) :: BG), w ∈ BG := kV (BG_in 569 (by decide +kernel) (by decide +kernel)) (BG_in 570 (by decide +kernel) (by decide +kernel)) (BG_in 571 (by decide +kernel) (by decide +kernel)) ki_4 (BG_in 572 (by decide +kernel) (by decide +kernel) : Cond.code yX4_read cX4_read 3 (some .int) ∈ BG)
theorem kd_X4_read : yX4_read.cls = RX4 ∧ yX4_read.cls ≠ "java/lang/invoke/MethodHandle" ∧ yX4_read.cls ≠ "java/lang/invoke/VarHandle" ∧ (parseMethodDescriptor yX4_read.desc).map (fun d => d.parameters.length) = some 1 := by decide +kernel
theorem kl_L_149 : ∀ w ∈ wsV R_law 149 RX5 yX5_read (.code yX5_read cX5_read 2 (some .int) :: BG), w ∈ BG := kV (BG_in 1028 (by decide +kernel) (by decide +kernel)) (BG_in 1029 (by decide +kernel) (by decide +kernel)) (BG_in 1030 (by decide +kernel) (by decide +kernel)) ki_5 (BG_in 1031 (by decide +kernel) (by decide +kernel) : Cond.code yX5_read cX5_read 2 (some .int) ∈ BG)
theorem kd_X5_read : yX5_read.cls = RX5 ∧ yX5_read.cls ≠ "java/lang/invoke/MethodHandle" ∧ yX5_read.cls ≠ "java/lang/invoke/VarHandle" ∧ (parseMethodDescriptor yX5_read.desc).map (fun d => d.parameters.length) = some 1 := by decide +kernel
theorem kl_L_150 : ∀ w ∈ wsV R_law 150 RX4 yX4_list (.code yX4_list cX4_list 4 (some .int) :: BG), w ∈ BG := kV (BG_in 628 (by decide +kernel) (by decide +kernel)) (BG_in 629 (by decide +kernel) (by decide +kernel)) (BG_in 630 (by decide +kernel) (by decide +kernel)) ki_4 (BG_in 631 (by decide +kernel) (by decide +kernel) : Cond.code yX4_list cX4_list 4 (some .int) ∈ BG)
theorem kd_X4_list : yX4_list.cls = RX4 ∧ yX4_list.cls ≠ "java/lang/invoke/MethodHandle" ∧ yX4_list.cls ≠ "java/lang/invoke/VarHandle" ∧ (parseMethodDescriptor yX4_list.desc).map (fun d => d.parameters.length) = some 2 := by decide +kernel
theorem kl_L_153 : ∀ w ∈ wsV R_law 153 RX5 yX5_list (.code yX5_list cX5_list 3 (some .int) :: BG), w ∈ BG := kV (BG_in 1062 (by decide +kernel) (by decide +kernel)) (BG_in 1063 (by decide +kernel) (by decide +kernel)) (BG_in 1064 (by decide +kernel) (by decide +kernel)) ki_5 (BG_in 1065 (by decide +kernel) (by decide +kernel) : Cond.code yX5_list cX5_list 3 (some .int) ∈ BG)
theorem kd_X5_list : yX5_list.cls = RX5 ∧ yX5_list.cls ≠ "java/lang/invoke/MethodHandle" ∧ yX5_list.cls ≠ "java/lang/invoke/VarHandle" ∧ (parseMethodDescriptor yX5_list.desc).map (fun d => d.parameters.length) = some 2 := by decide +kernel
theorem kl_L_154 : ∀ w ∈ wsV R_law 154 RX4 yX4_lay (.code yX4_lay cX4_lay 5 (some .int) :: BG), w ∈ BG := kV (BG_in 635 (by decide +kernel) (by decide +kernel)) (BG_in 636 (by decide +kernel) (by decide +kernel)) (BG_in 637 (by decide +kernel) (by decide +kernel)) ki_4 (BG_in 638 (by decide +kernel) (by decide +kernel) : Cond.code yX4_lay cX4_lay 5 (some .int) ∈ BG)
theorem kd_X4_lay : yX4_lay.cls = RX4 ∧ yX4_lay.cls ≠ "java/lang/invoke/MethodHandle" ∧ yX4_lay.cls ≠ "java/lang/invoke/VarHandle" ∧ (parseMethodDescriptor yX4_lay.desc).map (fun d => d.parameters.length) = some 3 := by decide +kernel
theorem kl_L_157 : ∀ w ∈ wsV R_law 157 RX5 yX5_lay (.code yX5_lay cX5_lay 5 (some .int) :: BG), w ∈ BG := kV (BG_in 1073 (by decide +kernel) (by decide +kernel)) (BG_in 1074 (by decide +kernel) (by decide +kernel)) (BG_in 1075 (by decide +kernel) (by decide +kernel)) ki_5 (BG_in 1076 (by decide +kernel) (by decide +kernel) : Cond.code yX5_lay cX5_lay 5 (some .int) ∈ BG)
theorem kd_X5_lay : yX5_lay.cls = RX5 ∧ yX5_lay.cls ≠ "java/lang/invoke/MethodHandle" ∧ yX5_lay.cls ≠ "java/lang/invoke/VarHandle" ∧ (parseMethodDescriptor yX5_lay.desc).map (fun d => d.parameters.length) = some 3 := by decide +kernel
theorem kl_L_158 : ∀ w ∈ wsV R_law 158 RX4 yX4_get (.code yX4_get cX4_get 3 (some .long) :: BG), w ∈ BG := kV (BG_in 639 (by decide +kernel) (by decide +kernel)) (BG_in 640 (by decide +kernel) (by decide +kernel)) (BG_in 641 (by decide +kernel) (by decide +kernel)) ki_4 (BG_in 642 (by decide +kernel) (by decide +kernel) : Cond.code yX4_get cX4_get 3 (some .long) ∈ BG)
theorem kd_X4_get : yX4_get.cls = RX4 ∧ yX4_get.cls ≠ "java/lang/invoke/MethodHandle" ∧ yX4_get.cls ≠ "java/lang/invoke/VarHandle" ∧ (parseMethodDescriptor yX4_get.desc).map (fun d => d.parameters.length) = some 2 := by decide +kernel
theorem kl_L_161 : ∀ w ∈ wsV R_law 161 RX5 yX5_get (.code yX5_get cX5_get 3 (some .long) :: BG), w ∈ BG := kV (BG_in 1077 (by decide +kernel) (by decide +kernel)) (BG_in 1078 (by decide +kernel) (by decide +kernel)) (BG_in 1079 (by decide +kernel) (by decide +kernel)) ki_5 (BG_in 1080 (by decide +kernel) (by decide +kernel) : Cond.code yX5_get cX5_get 3 (some .long) ∈ BG)
theorem kd_X5_get : yX5_get.cls = RX5 ∧ yX5_get.cls ≠ "java/lang/invoke/MethodHandle" ∧ yX5_get.cls ≠ "java/lang/invoke/VarHandle" ∧ (parseMethodDescriptor yX5_get.desc).map (fun d => d.parameters.length) = some 2 := by decide +kernel
theorem kl_L_162 : ∀ w ∈ wsV R_law 162 RX4 yX4_film (.code yX4_film cX4_film 3 (some .int) :: BG), w ∈ BG := kV (BG_in 643 (by decide +kernel) (by decide +kernel)) (BG_in 644 (by decide +kernel) (by decide +kernel)) (BG_in 645 (by decide +kernel) (by decide +kernel)) ki_4 (BG_in 646 (by decide +kernel) (by decide +kernel) : Cond.code yX4_film cX4_film 3 (some .int) ∈ BG)
theorem kd_X4_film : yX4_film.cls = RX4 ∧ yX4_film.cls ≠ "java/lang/invoke/MethodHandle" ∧ yX4_film.cls ≠ "java/lang/invoke/VarHandle" ∧ (parseMethodDescriptor yX4_film.desc).map (fun d => d.parameters.length) = some 2 := by decide +kernel
theorem kl_L_165 : ∀ w ∈ wsV R_law 165 RX5 yX5_film (.code yX5_film cX5_film 3 (some .int) :: BG), w ∈ BG := kV (BG_in 1081 (by decide +kernel) (by decide +kernel)) (BG_in 1082 (by decide +kernel) (by decide +kernel)) (BG_in 1083 (by decide +kernel) (by decide +kernel)) ki_5 (BG_in 1084 (by decide +kernel) (by decide +kernel) : Cond.code yX5_film cX5_film 3 (some .int) ∈ BG)
theorem kd_X5_film : yX5_film.cls = RX5 ∧ yX5_film.cls ≠ "java/lang/invoke/MethodHandle" ∧ yX5_film.cls ≠ "java/lang/invoke/VarHandle" ∧ (parseMethodDescriptor yX5_film.desc).map (fun d => d.parameters.length) = some 2 := by decide +kernel
theorem kl_L_166 : ∀ w ∈ wsV R_law 166 RX4 yX4_judge (.code yX4_judge cX4_judge 5 (some .int) :: BG), w ∈ BG := kV (BG_in 648 (by decide +kernel) (by decide +kernel)) (BG_in 649 (by decide +kernel) (by decide +kernel)) (BG_in 650 (by decide +kernel) (by decide +kernel)) ki_4 (BG_in 651 (by decide +kernel) (by decide +kernel) : Cond.code yX4_judge cX4_judge 5 (some .int) ∈ BG)
theorem kd_X4_judge : yX4_judge.cls = RX4 ∧ yX4_judge.cls ≠ "java/lang/invoke/MethodHandle" ∧ yX4_judge.cls ≠ "java/lang/invoke/VarHandle" ∧ (parseMethodDescriptor yX4_judge.desc).map (fun d => d.parameters.length) = some 2 := by decide +kernel
theorem kl_L_169 : ∀ w ∈ wsV R_law 169 RX5 yX5_judge (.code yX5_judge cX5_judge 4 (some .int) :: BG), w ∈ BG := kV (BG_in 1085 (by decide +kernel) (by decide +kernel)) (BG_in 1086 (by decide +kernel) (by decide +kernel)) (BG_in 1087 (by decide +kernel) (by decide +kernel)) ki_5 (BG_in 1088 (by decide +kernel) (by decide +kernel) : Cond.code yX5_judge cX5_judge 4 (some .int) ∈ BG)
theorem kd_X5_judge : yX5_judge.cls = RX5 ∧ yX5_judge.cls ≠ "java/lang/invoke/MethodHandle" ∧ yX5_judge.cls ≠ "java/lang/invoke/VarHandle" ∧ (parseMethodDescriptor yX5_judge.desc).map (fun d => d.parameters.length) = some 2 := by decide +kernel
theorem kl_L_170 : ∀ w ∈ wsV R_law 170 RX4 yX4_image (.code yX4_image cX4_image 2 (some .int) :: BG), w ∈ BG := kV (BG_in 652 (by decide +kernel) (by decide +kernel)) (BG_in 653 (by decide +kernel) (by decide +kernel)) (BG_in 654 (by decide +kernel) (by decide +kernel)) ki_4 (BG_in 655 (by decide +kernel) (by decide +kernel) : Cond.code yX4_image cX4_image 2 (some .int) ∈ BG)
theorem kd_X4_image : yX4_image.cls = RX4 ∧ yX4_image.cls ≠ "java/lang/invoke/MethodHandle" ∧ yX4_image.cls ≠ "java/lang/invoke/VarHandle" ∧ (parseMethodDescriptor yX4_image.desc).map (fun d => d.parameters.length) = some 0 := by decide +kernel
theorem kl_L_173 : ∀ w ∈ wsV R_law 173 RX5 yX5_image (.code yX5_image cX5_image 1 (some .int) :: BG), w ∈ BG := kV (BG_in 1089 (by decide +kernel) (by decide +kernel)) (BG_in 1090 (by decide +kernel) (by decide +kernel)) (BG_in 1091 (by decide +kernel) (by decide +kernel)) ki_5 (BG_in 1092 (by decide +kernel) (by decide +kernel) : Cond.code yX5_image cX5_image 1 (some .int) ∈ BG)
theorem kd_X5_image : yX5_image.cls = RX5 ∧ yX5_image.cls ≠ "java/lang/invoke/MethodHandle" ∧ yX5_image.cls ≠ "java/lang/invoke/VarHandle" ∧ (parseMethodDescriptor yX5_image.desc).map (fun d => d.parameters.length) = some 0 := by decide +kernel
theorem kl_L_174 : ∀ w ∈ wsV R_law 174 RX4 yX4_undo (.code yX4_undo cX4_undo 2 (some .int) :: BG), w ∈ BG := kV (BG_in 656 (by decide +kernel) (by decide +kernel)) (BG_in 657 (by decide +kernel) (by decide +kernel)) (BG_in 658 (by decide +kernel) (by decide +kernel)) ki_4 (BG_in 659 (by decide +kernel) (by decide +kernel) : Cond.code yX4_undo cX4_undo 2 (some .int) ∈ BG)
theorem kd_X4_undo : yX4_undo.cls = RX4 ∧ yX4_undo.cls ≠ "java/lang/invoke/MethodHandle" ∧ yX4_undo.cls ≠ "java/lang/invoke/VarHandle" ∧ (parseMethodDescriptor yX4_undo.desc).map (fun d => d.parameters.length) = some 0 := by decide +kernel
theorem kl_L_177 : ∀ w ∈ wsV R_law 177 RX5 yX5_undo (.code yX5_undo cX5_undo 1 (some .int) :: BG), w ∈ BG := kV (BG_in 1093 (by decide +kernel) (by decide +kernel)) (BG_in 1094 (by decide +kernel) (by decide +kernel)) (BG_in 1095 (by decide +kernel) (by decide +kernel)) ki_5 (BG_in 1096 (by decide +kernel) (by decide +kernel) : Cond.code yX5_undo cX5_undo 1 (some .int) ∈ BG)
theorem kd_X5_undo : yX5_undo.cls = RX5 ∧ yX5_undo.cls ≠ "java/lang/invoke/MethodHandle" ∧ yX5_undo.cls ≠ "java/lang/invoke/VarHandle" ∧ (parseMethodDescriptor yX5_undo.desc).map (fun d => d.parameters.length) = some 0 := by decide +kernel
theorem kl_L_178 : ∀ w ∈ wsV R_law 178 RX4 yX4_count (.code yX4_count cX4_count 2 (some .int) :: BG), w ∈ BG := kV (BG_in 660 (by decide +kernel) (by decide +kernel)) (BG_in 661 (by decide +kernel) (by decide +kernel)) (BG_in 662 (by decide +kernel) (by decide +kernel)) ki_4 (BG_in 663 (by decide +kernel) (by decide +kernel) : Cond.code yX4_count cX4_count 2 (some .int) ∈ BG)
theorem kd_X4_count : yX4_count.cls = RX4 ∧ yX4_count.cls ≠ "java/lang/invoke/MethodHandle" ∧ yX4_count.cls ≠ "java/lang/invoke/VarHandle" ∧ (parseMethodDescriptor yX4_count.desc).map (fun d => d.parameters.length) = some 1 := by decide +kernel
theorem kl_L_181 : ∀ w ∈ wsV R_law 181 RX5 yX5_count (.code yX5_count cX5_count 6 (some .int) :: BG), w ∈ BG := kV (BG_in 1097 (by decide +kernel) (by decide +kernel)) (BG_in 1098 (by decide +kernel) (by decide +kernel)) (BG_in 1099 (by decide +kernel) (by decide +kernel)) ki_5 (BG_in 1100 (by decide +kernel) (by decide +kernel) : Cond.code yX5_count cX5_count 6 (some .int) ∈ BG)
theorem kd_X5_count : yX5_count.cls = RX5 ∧ yX5_count.cls ≠ "java/lang/invoke/MethodHandle" ∧ yX5_count.cls ≠ "java/lang/invoke/VarHandle" ∧ (parseMethodDescriptor yX5_count.desc).map (fun d => d.parameters.length) = some 1 := by decide +kernel
theorem kc_L_77 : Cond.constantLong R_law 77 (4294967295) ∈ BG := BG_in 1101 (by decide +kernel) (by decide +kernel)
theorem dL_law_0 : decode cL_law 0 = .ok (.new 7, 3) := by decide +kernel
theorem dL_law_3 : decode cL_law 3 = .ok (.dup, 1) := by decide +kernel
theorem dL_law_4 : decode cL_law 4 = .ok (.invokespecial 9, 3) := by decide +kernel
theorem dL_law_7 : decode cL_law 7 = .ok (.astore_n 1, 1) := by decide +kernel
theorem dL_law_8 : decode cL_law 8 = .ok (.new 10, 3) := by decide +kernel
theorem dL_law_11 : decode cL_law 11 = .ok (.dup, 1) := by decide +kernel
theorem dL_law_12 : decode cL_law 12 = .ok (.invokespecial 12, 3) := by decide +kernel
theorem dL_law_15 : decode cL_law 15 = .ok (.astore_n 2, 1) := by decide +kernel
theorem dL_law_16 : decode cL_law 16 = .ok (.iconst 0, 1) := by decide +kernel
theorem dL_law_17 : decode cL_law 17 = .ok (.istore_n 3, 1) := by decide +kernel
theorem dL_law_18 : decode cL_law 18 = .ok (.iload_n 3, 1) := by decide +kernel
theorem dL_law_19 : decode cL_law 19 = .ok (.aload_n 0, 1) := by decide +kernel
theorem dL_law_20 : decode cL_law 20 = .ok (.arraylength, 1) := by decide +kernel
theorem dL_law_21 : decode cL_law 21 = .ok (.iconst 5, 1) := by decide +kernel
theorem dL_law_22 : decode cL_law 22 = .ok (.isub, 1) := by decide +kernel
theorem dL_law_23 : decode cL_law 23 = .ok (.if_icmp .gt 1476, 3) := by decide +kernel
theorem dL_law_26 : decode cL_law 26 = .ok (.aload_n 0, 1) := by decide +kernel
theorem dL_law_27 : decode cL_law 27 = .ok (.iload_n 3, 1) := by decide +kernel
theorem dL_law_28 : decode cL_law 28 = .ok (.iaload, 1) := by decide +kernel
theorem dL_law_29 : decode cL_law 29 = .ok (.bipush 63, 2) := by decide +kernel
theorem dL_law_31 : decode cL_law 31 = .ok (.iand, 1) := by decide +kernel
theorem dL_law_32 : decode cL_law 32 = .ok (.tableswitch 1461 0 39 #[176, 209, 232, 255, 278, 301, 324, 357, 390, 433, 476, 499, 532, 575, 599, 622, 695, 729, 762, 795, 838, 881, 924, 967, 1010, 1034, 1058, 1081, 1114, 1147, 1170, 1183, 1206, 1239, 1312, 1346, 1379, 1412, 1425, 1438], 176) := by decide +kernel
theorem dL_law_208 : decode cL_law 208 = .ok (.aload_n 1, 1) := by decide +kernel
theorem dL_law_209 : decode cL_law 209 = .ok (.aload_n 0, 1) := by decide +kernel
theorem dL_law_210 : decode cL_law 210 = .ok (.iload_n 3, 1) := by decide +kernel
theorem dL_law_211 : decode cL_law 211 = .ok (.iconst 1, 1) := by decide +kernel
theorem dL_law_212 : decode cL_law 212 = .ok (.iadd, 1) := by decide +kernel
theorem dL_law_213 : decode cL_law 213 = .ok (.iaload, 1) := by decide +kernel
theorem dL_law_214 : decode cL_law 214 = .ok (.aload_n 0, 1) := by decide +kernel
theorem dL_law_215 : decode cL_law 215 = .ok (.iload_n 3, 1) := by decide +kernel
theorem dL_law_216 : decode cL_law 216 = .ok (.iconst 2, 1) := by decide +kernel
theorem dL_law_217 : decode cL_law 217 = .ok (.iadd, 1) := by decide +kernel
theorem dL_law_218 : decode cL_law 218 = .ok (.iaload, 1) := by decide +kernel
theorem dL_law_219 : decode cL_law 219 = .ok (.invokevirtual 13, 3) := by decide +kernel
theorem dL_law_222 : decode cL_law 222 = .ok (.aload_n 2, 1) := by decide +kernel
theorem dL_law_223 : decode cL_law 223 = .ok (.aload_n 0, 1) := by decide +kernel
theorem dL_law_224 : decode cL_law 224 = .ok (.iload_n 3, 1) := by decide +kernel
theorem dL_law_225 : decode cL_law 225 = .ok (.iconst 1, 1) := by decide +kernel
theorem dL_law_226 : decode cL_law 226 = .ok (.iadd, 1) := by decide +kernel
theorem dL_law_227 : decode cL_law 227 = .ok (.iaload, 1) := by decide +kernel
theorem dL_law_228 : decode cL_law 228 = .ok (.aload_n 0, 1) := by decide +kernel
theorem dL_law_229 : decode cL_law 229 = .ok (.iload_n 3, 1) := by decide +kernel
theorem dL_law_230 : decode cL_law 230 = .ok (.iconst 2, 1) := by decide +kernel
theorem dL_law_231 : decode cL_law 231 = .ok (.iadd, 1) := by decide +kernel
theorem dL_law_232 : decode cL_law 232 = .ok (.iaload, 1) := by decide +kernel
theorem dL_law_233 : decode cL_law 233 = .ok (.invokevirtual 17, 3) := by decide +kernel
theorem dL_law_236 : decode cL_law 236 = .ok (.if_icmp .eq 1257, 3) := by decide +kernel
theorem dL_law_239 : decode cL_law 239 = .ok (.iconst 0, 1) := by decide +kernel
theorem dL_law_240 : decode cL_law 240 = .ok (.ireturn, 1) := by decide +kernel
theorem dL_law_241 : decode cL_law 241 = .ok (.aload_n 1, 1) := by decide +kernel
theorem dL_law_242 : decode cL_law 242 = .ok (.aload_n 0, 1) := by decide +kernel
theorem dL_law_243 : decode cL_law 243 = .ok (.iload_n 3, 1) := by decide +kernel
theorem dL_law_244 : decode cL_law 244 = .ok (.iconst 1, 1) := by decide +kernel
theorem dL_law_245 : decode cL_law 245 = .ok (.iadd, 1) := by decide +kernel
theorem dL_law_246 : decode cL_law 246 = .ok (.iaload, 1) := by decide +kernel
theorem dL_law_247 : decode cL_law 247 = .ok (.invokevirtual 18, 3) := by decide +kernel
theorem dL_law_250 : decode cL_law 250 = .ok (.aload_n 2, 1) := by decide +kernel
theorem dL_law_251 : decode cL_law 251 = .ok (.aload_n 0, 1) := by decide +kernel
theorem dL_law_252 : decode cL_law 252 = .ok (.iload_n 3, 1) := by decide +kernel
theorem dL_law_253 : decode cL_law 253 = .ok (.iconst 1, 1) := by decide +kernel
theorem dL_law_254 : decode cL_law 254 = .ok (.iadd, 1) := by decide +kernel
theorem dL_law_255 : decode cL_law 255 = .ok (.iaload, 1) := by decide +kernel
theorem dL_law_256 : decode cL_law 256 = .ok (.invokevirtual 22, 3) := by decide +kernel
theorem dL_law_259 : decode cL_law 259 = .ok (.if_icmp .eq 1234, 3) := by decide +kernel
theorem dL_law_262 : decode cL_law 262 = .ok (.iconst 0, 1) := by decide +kernel
theorem dL_law_263 : decode cL_law 263 = .ok (.ireturn, 1) := by decide +kernel
theorem dL_law_264 : decode cL_law 264 = .ok (.aload_n 1, 1) := by decide +kernel
theorem dL_law_265 : decode cL_law 265 = .ok (.aload_n 0, 1) := by decide +kernel
theorem dL_law_266 : decode cL_law 266 = .ok (.iload_n 3, 1) := by decide +kernel
theorem dL_law_267 : decode cL_law 267 = .ok (.iconst 1, 1) := by decide +kernel
theorem dL_law_268 : decode cL_law 268 = .ok (.iadd, 1) := by decide +kernel
theorem dL_law_269 : decode cL_law 269 = .ok (.iaload, 1) := by decide +kernel
theorem dL_law_270 : decode cL_law 270 = .ok (.invokevirtual 23, 3) := by decide +kernel
theorem dL_law_273 : decode cL_law 273 = .ok (.aload_n 2, 1) := by decide +kernel
theorem dL_law_274 : decode cL_law 274 = .ok (.aload_n 0, 1) := by decide +kernel
theorem dL_law_275 : decode cL_law 275 = .ok (.iload_n 3, 1) := by decide +kernel
theorem dL_law_276 : decode cL_law 276 = .ok (.iconst 1, 1) := by decide +kernel
theorem dL_law_277 : decode cL_law 277 = .ok (.iadd, 1) := by decide +kernel
theorem dL_law_278 : decode cL_law 278 = .ok (.iaload, 1) := by decide +kernel
theorem dL_law_279 : decode cL_law 279 = .ok (.invokevirtual 26, 3) := by decide +kernel
theorem dL_law_282 : decode cL_law 282 = .ok (.if_icmp .eq 1211, 3) := by decide +kernel
theorem dL_law_285 : decode cL_law 285 = .ok (.iconst 0, 1) := by decide +kernel
theorem dL_law_286 : decode cL_law 286 = .ok (.ireturn, 1) := by decide +kernel
theorem dL_law_287 : decode cL_law 287 = .ok (.aload_n 1, 1) := by decide +kernel
theorem dL_law_288 : decode cL_law 288 = .ok (.aload_n 0, 1) := by decide +kernel
theorem dL_law_289 : decode cL_law 289 = .ok (.iload_n 3, 1) := by decide +kernel
theorem dL_law_290 : decode cL_law 290 = .ok (.iconst 1, 1) := by decide +kernel
theorem dL_law_291 : decode cL_law 291 = .ok (.iadd, 1) := by decide +kernel
theorem dL_law_292 : decode cL_law 292 = .ok (.iaload, 1) := by decide +kernel
theorem dL_law_293 : decode cL_law 293 = .ok (.invokevirtual 27, 3) := by decide +kernel
theorem dL_law_296 : decode cL_law 296 = .ok (.aload_n 2, 1) := by decide +kernel
theorem dL_law_297 : decode cL_law 297 = .ok (.aload_n 0, 1) := by decide +kernel
theorem dL_law_298 : decode cL_law 298 = .ok (.iload_n 3, 1) := by decide +kernel
theorem dL_law_299 : decode cL_law 299 = .ok (.iconst 1, 1) := by decide +kernel
theorem dL_law_300 : decode cL_law 300 = .ok (.iadd, 1) := by decide +kernel
theorem dL_law_301 : decode cL_law 301 = .ok (.iaload, 1) := by decide +kernel
theorem dL_law_302 : decode cL_law 302 = .ok (.invokevirtual 30, 3) := by decide +kernel
theorem dL_law_305 : decode cL_law 305 = .ok (.if_icmp .eq 1188, 3) := by decide +kernel
theorem dL_law_308 : decode cL_law 308 = .ok (.iconst 0, 1) := by decide +kernel
theorem dL_law_309 : decode cL_law 309 = .ok (.ireturn, 1) := by decide +kernel
theorem dL_law_310 : decode cL_law 310 = .ok (.aload_n 1, 1) := by decide +kernel
theorem dL_law_311 : decode cL_law 311 = .ok (.aload_n 0, 1) := by decide +kernel
theorem dL_law_312 : decode cL_law 312 = .ok (.iload_n 3, 1) := by decide +kernel
theorem dL_law_313 : decode cL_law 313 = .ok (.iconst 1, 1) := by decide +kernel
theorem dL_law_314 : decode cL_law 314 = .ok (.iadd, 1) := by decide +kernel
theorem dL_law_315 : decode cL_law 315 = .ok (.iaload, 1) := by decide +kernel
theorem dL_law_316 : decode cL_law 316 = .ok (.invokevirtual 31, 3) := by decide +kernel
theorem dL_law_319 : decode cL_law 319 = .ok (.aload_n 2, 1) := by decide +kernel
theorem dL_law_320 : decode cL_law 320 = .ok (.aload_n 0, 1) := by decide +kernel
theorem dL_law_321 : decode cL_law 321 = .ok (.iload_n 3, 1) := by decide +kernel
theorem dL_law_322 : decode cL_law 322 = .ok (.iconst 1, 1) := by decide +kernel
theorem dL_law_323 : decode cL_law 323 = .ok (.iadd, 1) := by decide +kernel
theorem dL_law_324 : decode cL_law 324 = .ok (.iaload, 1) := by decide +kernel
theorem dL_law_325 : decode cL_law 325 = .ok (.invokevirtual 34, 3) := by decide +kernel
theorem dL_law_328 : decode cL_law 328 = .ok (.if_icmp .eq 1165, 3) := by decide +kernel
theorem dL_law_331 : decode cL_law 331 = .ok (.iconst 0, 1) := by decide +kernel
theorem dL_law_332 : decode cL_law 332 = .ok (.ireturn, 1) := by decide +kernel
theorem dL_law_333 : decode cL_law 333 = .ok (.aload_n 1, 1) := by decide +kernel
theorem dL_law_334 : decode cL_law 334 = .ok (.aload_n 0, 1) := by decide +kernel
theorem dL_law_335 : decode cL_law 335 = .ok (.iload_n 3, 1) := by decide +kernel
theorem dL_law_336 : decode cL_law 336 = .ok (.iconst 1, 1) := by decide +kernel
theorem dL_law_337 : decode cL_law 337 = .ok (.iadd, 1) := by decide +kernel
theorem dL_law_338 : decode cL_law 338 = .ok (.iaload, 1) := by decide +kernel
theorem dL_law_339 : decode cL_law 339 = .ok (.invokevirtual 35, 3) := by decide +kernel
theorem dL_law_342 : decode cL_law 342 = .ok (.aload_n 2, 1) := by decide +kernel
theorem dL_law_343 : decode cL_law 343 = .ok (.aload_n 0, 1) := by decide +kernel
theorem dL_law_344 : decode cL_law 344 = .ok (.iload_n 3, 1) := by decide +kernel
theorem dL_law_345 : decode cL_law 345 = .ok (.iconst 1, 1) := by decide +kernel
theorem dL_law_346 : decode cL_law 346 = .ok (.iadd, 1) := by decide +kernel
theorem dL_law_347 : decode cL_law 347 = .ok (.iaload, 1) := by decide +kernel
theorem dL_law_348 : decode cL_law 348 = .ok (.invokevirtual 38, 3) := by decide +kernel
theorem dL_law_351 : decode cL_law 351 = .ok (.if_icmp .eq 1142, 3) := by decide +kernel
theorem dL_law_354 : decode cL_law 354 = .ok (.iconst 0, 1) := by decide +kernel
theorem dL_law_355 : decode cL_law 355 = .ok (.ireturn, 1) := by decide +kernel
theorem dL_law_356 : decode cL_law 356 = .ok (.aload_n 1, 1) := by decide +kernel
theorem dL_law_357 : decode cL_law 357 = .ok (.aload_n 0, 1) := by decide +kernel
theorem dL_law_358 : decode cL_law 358 = .ok (.iload_n 3, 1) := by decide +kernel
theorem dL_law_359 : decode cL_law 359 = .ok (.iconst 1, 1) := by decide +kernel
theorem dL_law_360 : decode cL_law 360 = .ok (.iadd, 1) := by decide +kernel
theorem dL_law_361 : decode cL_law 361 = .ok (.iaload, 1) := by decide +kernel
theorem dL_law_362 : decode cL_law 362 = .ok (.aload_n 0, 1) := by decide +kernel
theorem dL_law_363 : decode cL_law 363 = .ok (.iload_n 3, 1) := by decide +kernel
theorem dL_law_364 : decode cL_law 364 = .ok (.iconst 2, 1) := by decide +kernel
theorem dL_law_365 : decode cL_law 365 = .ok (.iadd, 1) := by decide +kernel
theorem dL_law_366 : decode cL_law 366 = .ok (.iaload, 1) := by decide +kernel
theorem dL_law_367 : decode cL_law 367 = .ok (.invokevirtual 39, 3) := by decide +kernel
theorem dL_law_370 : decode cL_law 370 = .ok (.aload_n 2, 1) := by decide +kernel
theorem dL_law_371 : decode cL_law 371 = .ok (.aload_n 0, 1) := by decide +kernel
theorem dL_law_372 : decode cL_law 372 = .ok (.iload_n 3, 1) := by decide +kernel
theorem dL_law_373 : decode cL_law 373 = .ok (.iconst 1, 1) := by decide +kernel
theorem dL_law_374 : decode cL_law 374 = .ok (.iadd, 1) := by decide +kernel
theorem dL_law_375 : decode cL_law 375 = .ok (.iaload, 1) := by decide +kernel
theorem dL_law_376 : decode cL_law 376 = .ok (.aload_n 0, 1) := by decide +kernel
theorem dL_law_377 : decode cL_law 377 = .ok (.iload_n 3, 1) := by decide +kernel
theorem dL_law_378 : decode cL_law 378 = .ok (.iconst 2, 1) := by decide +kernel
theorem dL_law_379 : decode cL_law 379 = .ok (.iadd, 1) := by decide +kernel
theorem dL_law_380 : decode cL_law 380 = .ok (.iaload, 1) := by decide +kernel
theorem dL_law_381 : decode cL_law 381 = .ok (.invokevirtual 42, 3) := by decide +kernel
theorem dL_law_384 : decode cL_law 384 = .ok (.if_icmp .eq 1109, 3) := by decide +kernel
theorem dL_law_387 : decode cL_law 387 = .ok (.iconst 0, 1) := by decide +kernel
theorem dL_law_388 : decode cL_law 388 = .ok (.ireturn, 1) := by decide +kernel
theorem dL_law_389 : decode cL_law 389 = .ok (.aload_n 1, 1) := by decide +kernel
theorem dL_law_390 : decode cL_law 390 = .ok (.aload_n 0, 1) := by decide +kernel
theorem dL_law_391 : decode cL_law 391 = .ok (.iload_n 3, 1) := by decide +kernel
theorem dL_law_392 : decode cL_law 392 = .ok (.iconst 1, 1) := by decide +kernel
theorem dL_law_393 : decode cL_law 393 = .ok (.iadd, 1) := by decide +kernel
theorem dL_law_394 : decode cL_law 394 = .ok (.iaload, 1) := by decide +kernel
theorem dL_law_395 : decode cL_law 395 = .ok (.aload_n 0, 1) := by decide +kernel
theorem dL_law_396 : decode cL_law 396 = .ok (.iload_n 3, 1) := by decide +kernel
theorem dL_law_397 : decode cL_law 397 = .ok (.iconst 2, 1) := by decide +kernel
theorem dL_law_398 : decode cL_law 398 = .ok (.iadd, 1) := by decide +kernel
theorem dL_law_399 : decode cL_law 399 = .ok (.iaload, 1) := by decide +kernel
theorem dL_law_400 : decode cL_law 400 = .ok (.invokevirtual 43, 3) := by decide +kernel
theorem dL_law_403 : decode cL_law 403 = .ok (.aload_n 2, 1) := by decide +kernel
theorem dL_law_404 : decode cL_law 404 = .ok (.aload_n 0, 1) := by decide +kernel
theorem dL_law_405 : decode cL_law 405 = .ok (.iload_n 3, 1) := by decide +kernel
theorem dL_law_406 : decode cL_law 406 = .ok (.iconst 1, 1) := by decide +kernel
theorem dL_law_407 : decode cL_law 407 = .ok (.iadd, 1) := by decide +kernel
theorem dL_law_408 : decode cL_law 408 = .ok (.iaload, 1) := by decide +kernel
theorem dL_law_409 : decode cL_law 409 = .ok (.aload_n 0, 1) := by decide +kernel
theorem dL_law_410 : decode cL_law 410 = .ok (.iload_n 3, 1) := by decide +kernel
theorem dL_law_411 : decode cL_law 411 = .ok (.iconst 2, 1) := by decide +kernel
theorem dL_law_412 : decode cL_law 412 = .ok (.iadd, 1) := by decide +kernel
theorem dL_law_413 : decode cL_law 413 = .ok (.iaload, 1) := by decide +kernel
theorem dL_law_414 : decode cL_law 414 = .ok (.invokevirtual 46, 3) := by decide +kernel
theorem dL_law_417 : decode cL_law 417 = .ok (.if_icmp .eq 1076, 3) := by decide +kernel
theorem dL_law_420 : decode cL_law 420 = .ok (.iconst 0, 1) := by decide +kernel
theorem dL_law_421 : decode cL_law 421 = .ok (.ireturn, 1) := by decide +kernel
theorem dL_law_422 : decode cL_law 422 = .ok (.aload_n 1, 1) := by decide +kernel
theorem dL_law_423 : decode cL_law 423 = .ok (.aload_n 0, 1) := by decide +kernel
theorem dL_law_424 : decode cL_law 424 = .ok (.iload_n 3, 1) := by decide +kernel
theorem dL_law_425 : decode cL_law 425 = .ok (.iconst 1, 1) := by decide +kernel
theorem dL_law_426 : decode cL_law 426 = .ok (.iadd, 1) := by decide +kernel
theorem dL_law_427 : decode cL_law 427 = .ok (.iaload, 1) := by decide +kernel
theorem dL_law_428 : decode cL_law 428 = .ok (.aload_n 0, 1) := by decide +kernel
theorem dL_law_429 : decode cL_law 429 = .ok (.iload_n 3, 1) := by decide +kernel
theorem dL_law_430 : decode cL_law 430 = .ok (.iconst 2, 1) := by decide +kernel
theorem dL_law_431 : decode cL_law 431 = .ok (.iadd, 1) := by decide +kernel
theorem dL_law_432 : decode cL_law 432 = .ok (.iaload, 1) := by decide +kernel
theorem dL_law_433 : decode cL_law 433 = .ok (.aload_n 0, 1) := by decide +kernel
theorem dL_law_434 : decode cL_law 434 = .ok (.iload_n 3, 1) := by decide +kernel
theorem dL_law_435 : decode cL_law 435 = .ok (.iconst 3, 1) := by decide +kernel
theorem dL_law_436 : decode cL_law 436 = .ok (.iadd, 1) := by decide +kernel
theorem dL_law_437 : decode cL_law 437 = .ok (.iaload, 1) := by decide +kernel
theorem dL_law_438 : decode cL_law 438 = .ok (.invokevirtual 47, 3) := by decide +kernel
theorem dL_law_441 : decode cL_law 441 = .ok (.aload_n 2, 1) := by decide +kernel
theorem dL_law_442 : decode cL_law 442 = .ok (.aload_n 0, 1) := by decide +kernel
theorem dL_law_443 : decode cL_law 443 = .ok (.iload_n 3, 1) := by decide +kernel
theorem dL_law_444 : decode cL_law 444 = .ok (.iconst 1, 1) := by decide +kernel
theorem dL_law_445 : decode cL_law 445 = .ok (.iadd, 1) := by decide +kernel
theorem dL_law_446 : decode cL_law 446 = .ok (.iaload, 1) := by decide +kernel
theorem dL_law_447 : decode cL_law 447 = .ok (.aload_n 0, 1) := by decide +kernel
theorem dL_law_448 : decode cL_law 448 = .ok (.iload_n 3, 1) := by decide +kernel
theorem dL_law_449 : decode cL_law 449 = .ok (.iconst 2, 1) := by decide +kernel
theorem dL_law_450 : decode cL_law 450 = .ok (.iadd, 1) := by decide +kernel
theorem dL_law_451 : decode cL_law 451 = .ok (.iaload, 1) := by decide +kernel
theorem dL_law_452 : decode cL_law 452 = .ok (.aload_n 0, 1) := by decide +kernel
theorem dL_law_453 : decode cL_law 453 = .ok (.iload_n 3, 1) := by decide +kernel
theorem dL_law_454 : decode cL_law 454 = .ok (.iconst 3, 1) := by decide +kernel
theorem dL_law_455 : decode cL_law 455 = .ok (.iadd, 1) := by decide +kernel
theorem dL_law_456 : decode cL_law 456 = .ok (.iaload, 1) := by decide +kernel
theorem dL_law_457 : decode cL_law 457 = .ok (.invokevirtual 51, 3) := by decide +kernel
theorem dL_law_460 : decode cL_law 460 = .ok (.if_icmp .eq 1033, 3) := by decide +kernel
theorem dL_law_463 : decode cL_law 463 = .ok (.iconst 0, 1) := by decide +kernel
theorem dL_law_464 : decode cL_law 464 = .ok (.ireturn, 1) := by decide +kernel
theorem dL_law_465 : decode cL_law 465 = .ok (.aload_n 1, 1) := by decide +kernel
theorem dL_law_466 : decode cL_law 466 = .ok (.aload_n 0, 1) := by decide +kernel
theorem dL_law_467 : decode cL_law 467 = .ok (.iload_n 3, 1) := by decide +kernel
theorem dL_law_468 : decode cL_law 468 = .ok (.iconst 1, 1) := by decide +kernel
theorem dL_law_469 : decode cL_law 469 = .ok (.iadd, 1) := by decide +kernel
theorem dL_law_470 : decode cL_law 470 = .ok (.iaload, 1) := by decide +kernel
theorem dL_law_471 : decode cL_law 471 = .ok (.aload_n 0, 1) := by decide +kernel
theorem dL_law_472 : decode cL_law 472 = .ok (.iload_n 3, 1) := by decide +kernel
theorem dL_law_473 : decode cL_law 473 = .ok (.iconst 2, 1) := by decide +kernel
theorem dL_law_474 : decode cL_law 474 = .ok (.iadd, 1) := by decide +kernel
theorem dL_law_475 : decode cL_law 475 = .ok (.iaload, 1) := by decide +kernel
theorem dL_law_476 : decode cL_law 476 = .ok (.aload_n 0, 1) := by decide +kernel
theorem dL_law_477 : decode cL_law 477 = .ok (.iload_n 3, 1) := by decide +kernel
theorem dL_law_478 : decode cL_law 478 = .ok (.iconst 3, 1) := by decide +kernel
theorem dL_law_479 : decode cL_law 479 = .ok (.iadd, 1) := by decide +kernel
theorem dL_law_480 : decode cL_law 480 = .ok (.iaload, 1) := by decide +kernel
theorem dL_law_481 : decode cL_law 481 = .ok (.invokevirtual 52, 3) := by decide +kernel
theorem dL_law_484 : decode cL_law 484 = .ok (.aload_n 2, 1) := by decide +kernel
theorem dL_law_485 : decode cL_law 485 = .ok (.aload_n 0, 1) := by decide +kernel
theorem dL_law_486 : decode cL_law 486 = .ok (.iload_n 3, 1) := by decide +kernel
theorem dL_law_487 : decode cL_law 487 = .ok (.iconst 1, 1) := by decide +kernel
theorem dL_law_488 : decode cL_law 488 = .ok (.iadd, 1) := by decide +kernel
theorem dL_law_489 : decode cL_law 489 = .ok (.iaload, 1) := by decide +kernel
theorem dL_law_490 : decode cL_law 490 = .ok (.aload_n 0, 1) := by decide +kernel
theorem dL_law_491 : decode cL_law 491 = .ok (.iload_n 3, 1) := by decide +kernel
theorem dL_law_492 : decode cL_law 492 = .ok (.iconst 2, 1) := by decide +kernel
theorem dL_law_493 : decode cL_law 493 = .ok (.iadd, 1) := by decide +kernel
theorem dL_law_494 : decode cL_law 494 = .ok (.iaload, 1) := by decide +kernel
theorem dL_law_495 : decode cL_law 495 = .ok (.aload_n 0, 1) := by decide +kernel
theorem dL_law_496 : decode cL_law 496 = .ok (.iload_n 3, 1) := by decide +kernel
theorem dL_law_497 : decode cL_law 497 = .ok (.iconst 3, 1) := by decide +kernel
theorem dL_law_498 : decode cL_law 498 = .ok (.iadd, 1) := by decide +kernel
theorem dL_law_499 : decode cL_law 499 = .ok (.iaload, 1) := by decide +kernel
theorem dL_law_500 : decode cL_law 500 = .ok (.invokevirtual 55, 3) := by decide +kernel
theorem dL_law_503 : decode cL_law 503 = .ok (.if_icmp .eq 990, 3) := by decide +kernel
theorem dL_law_506 : decode cL_law 506 = .ok (.iconst 0, 1) := by decide +kernel
theorem dL_law_507 : decode cL_law 507 = .ok (.ireturn, 1) := by decide +kernel
theorem dL_law_508 : decode cL_law 508 = .ok (.aload_n 1, 1) := by decide +kernel
theorem dL_law_509 : decode cL_law 509 = .ok (.aload_n 0, 1) := by decide +kernel
theorem dL_law_510 : decode cL_law 510 = .ok (.iload_n 3, 1) := by decide +kernel
theorem dL_law_511 : decode cL_law 511 = .ok (.iconst 1, 1) := by decide +kernel
theorem dL_law_512 : decode cL_law 512 = .ok (.iadd, 1) := by decide +kernel
theorem dL_law_513 : decode cL_law 513 = .ok (.iaload, 1) := by decide +kernel
theorem dL_law_514 : decode cL_law 514 = .ok (.invokevirtual 56, 3) := by decide +kernel
theorem dL_law_517 : decode cL_law 517 = .ok (.aload_n 2, 1) := by decide +kernel
theorem dL_law_518 : decode cL_law 518 = .ok (.aload_n 0, 1) := by decide +kernel
theorem dL_law_519 : decode cL_law 519 = .ok (.iload_n 3, 1) := by decide +kernel
theorem dL_law_520 : decode cL_law 520 = .ok (.iconst 1, 1) := by decide +kernel
theorem dL_law_521 : decode cL_law 521 = .ok (.iadd, 1) := by decide +kernel
theorem dL_law_522 : decode cL_law 522 = .ok (.iaload, 1) := by decide +kernel
theorem dL_law_523 : decode cL_law 523 = .ok (.invokevirtual 59, 3) := by decide +kernel
theorem dL_law_526 : decode cL_law 526 = .ok (.if_icmp .eq 967, 3) := by decide +kernel
theorem dL_law_529 : decode cL_law 529 = .ok (.iconst 0, 1) := by decide +kernel
theorem dL_law_530 : decode cL_law 530 = .ok (.ireturn, 1) := by decide +kernel
theorem dL_law_531 : decode cL_law 531 = .ok (.aload_n 1, 1) := by decide +kernel
theorem dL_law_532 : decode cL_law 532 = .ok (.aload_n 0, 1) := by decide +kernel
theorem dL_law_533 : decode cL_law 533 = .ok (.iload_n 3, 1) := by decide +kernel
theorem dL_law_534 : decode cL_law 534 = .ok (.iconst 1, 1) := by decide +kernel
theorem dL_law_535 : decode cL_law 535 = .ok (.iadd, 1) := by decide +kernel
theorem dL_law_536 : decode cL_law 536 = .ok (.iaload, 1) := by decide +kernel
theorem dL_law_537 : decode cL_law 537 = .ok (.aload_n 0, 1) := by decide +kernel
theorem dL_law_538 : decode cL_law 538 = .ok (.iload_n 3, 1) := by decide +kernel
theorem dL_law_539 : decode cL_law 539 = .ok (.iconst 2, 1) := by decide +kernel
theorem dL_law_540 : decode cL_law 540 = .ok (.iadd, 1) := by decide +kernel
theorem dL_law_541 : decode cL_law 541 = .ok (.iaload, 1) := by decide +kernel
theorem dL_law_542 : decode cL_law 542 = .ok (.invokevirtual 60, 3) := by decide +kernel
theorem dL_law_545 : decode cL_law 545 = .ok (.aload_n 2, 1) := by decide +kernel
theorem dL_law_546 : decode cL_law 546 = .ok (.aload_n 0, 1) := by decide +kernel
theorem dL_law_547 : decode cL_law 547 = .ok (.iload_n 3, 1) := by decide +kernel
theorem dL_law_548 : decode cL_law 548 = .ok (.iconst 1, 1) := by decide +kernel
theorem dL_law_549 : decode cL_law 549 = .ok (.iadd, 1) := by decide +kernel
theorem dL_law_550 : decode cL_law 550 = .ok (.iaload, 1) := by decide +kernel
theorem dL_law_551 : decode cL_law 551 = .ok (.aload_n 0, 1) := by decide +kernel
theorem dL_law_552 : decode cL_law 552 = .ok (.iload_n 3, 1) := by decide +kernel
theorem dL_law_553 : decode cL_law 553 = .ok (.iconst 2, 1) := by decide +kernel
theorem dL_law_554 : decode cL_law 554 = .ok (.iadd, 1) := by decide +kernel
theorem dL_law_555 : decode cL_law 555 = .ok (.iaload, 1) := by decide +kernel
theorem dL_law_556 : decode cL_law 556 = .ok (.invokevirtual 63, 3) := by decide +kernel
theorem dL_law_559 : decode cL_law 559 = .ok (.if_icmp .eq 934, 3) := by decide +kernel
theorem dL_law_562 : decode cL_law 562 = .ok (.iconst 0, 1) := by decide +kernel
theorem dL_law_563 : decode cL_law 563 = .ok (.ireturn, 1) := by decide +kernel
theorem dL_law_564 : decode cL_law 564 = .ok (.aload_n 1, 1) := by decide +kernel
theorem dL_law_565 : decode cL_law 565 = .ok (.aload_n 0, 1) := by decide +kernel
theorem dL_law_566 : decode cL_law 566 = .ok (.iload_n 3, 1) := by decide +kernel
theorem dL_law_567 : decode cL_law 567 = .ok (.iconst 1, 1) := by decide +kernel
theorem dL_law_568 : decode cL_law 568 = .ok (.iadd, 1) := by decide +kernel
theorem dL_law_569 : decode cL_law 569 = .ok (.iaload, 1) := by decide +kernel
theorem dL_law_570 : decode cL_law 570 = .ok (.aload_n 0, 1) := by decide +kernel
theorem dL_law_571 : decode cL_law 571 = .ok (.iload_n 3, 1) := by decide +kernel
theorem dL_law_572 : decode cL_law 572 = .ok (.iconst 2, 1) := by decide +kernel
theorem dL_law_573 : decode cL_law 573 = .ok (.iadd, 1) := by decide +kernel
theorem dL_law_574 : decode cL_law 574 = .ok (.iaload, 1) := by decide +kernel
theorem dL_law_575 : decode cL_law 575 = .ok (.aload_n 0, 1) := by decide +kernel
theorem dL_law_576 : decode cL_law 576 = .ok (.iload_n 3, 1) := by decide +kernel
theorem dL_law_577 : decode cL_law 577 = .ok (.iconst 3, 1) := by decide +kernel
theorem dL_law_578 : decode cL_law 578 = .ok (.iadd, 1) := by decide +kernel
theorem dL_law_579 : decode cL_law 579 = .ok (.iaload, 1) := by decide +kernel
theorem dL_law_580 : decode cL_law 580 = .ok (.invokevirtual 64, 3) := by decide +kernel
theorem dL_law_583 : decode cL_law 583 = .ok (.aload_n 2, 1) := by decide +kernel
theorem dL_law_584 : decode cL_law 584 = .ok (.aload_n 0, 1) := by decide +kernel
theorem dL_law_585 : decode cL_law 585 = .ok (.iload_n 3, 1) := by decide +kernel
theorem dL_law_586 : decode cL_law 586 = .ok (.iconst 1, 1) := by decide +kernel
theorem dL_law_587 : decode cL_law 587 = .ok (.iadd, 1) := by decide +kernel
theorem dL_law_588 : decode cL_law 588 = .ok (.iaload, 1) := by decide +kernel
theorem dL_law_589 : decode cL_law 589 = .ok (.aload_n 0, 1) := by decide +kernel
theorem dL_law_590 : decode cL_law 590 = .ok (.iload_n 3, 1) := by decide +kernel
theorem dL_law_591 : decode cL_law 591 = .ok (.iconst 2, 1) := by decide +kernel
theorem dL_law_592 : decode cL_law 592 = .ok (.iadd, 1) := by decide +kernel
theorem dL_law_593 : decode cL_law 593 = .ok (.iaload, 1) := by decide +kernel
theorem dL_law_594 : decode cL_law 594 = .ok (.aload_n 0, 1) := by decide +kernel
theorem dL_law_595 : decode cL_law 595 = .ok (.iload_n 3, 1) := by decide +kernel
theorem dL_law_596 : decode cL_law 596 = .ok (.iconst 3, 1) := by decide +kernel
theorem dL_law_597 : decode cL_law 597 = .ok (.iadd, 1) := by decide +kernel
theorem dL_law_598 : decode cL_law 598 = .ok (.iaload, 1) := by decide +kernel
theorem dL_law_599 : decode cL_law 599 = .ok (.invokevirtual 67, 3) := by decide +kernel
theorem dL_law_602 : decode cL_law 602 = .ok (.if_icmp .eq 891, 3) := by decide +kernel
theorem dL_law_605 : decode cL_law 605 = .ok (.iconst 0, 1) := by decide +kernel
theorem dL_law_606 : decode cL_law 606 = .ok (.ireturn, 1) := by decide +kernel
theorem dL_law_607 : decode cL_law 607 = .ok (.aload_n 1, 1) := by decide +kernel
theorem dL_law_608 : decode cL_law 608 = .ok (.aload_n 0, 1) := by decide +kernel
theorem dL_law_609 : decode cL_law 609 = .ok (.iload_n 3, 1) := by decide +kernel
theorem dL_law_610 : decode cL_law 610 = .ok (.iconst 1, 1) := by decide +kernel
theorem dL_law_611 : decode cL_law 611 = .ok (.iadd, 1) := by decide +kernel
theorem dL_law_612 : decode cL_law 612 = .ok (.iaload, 1) := by decide +kernel
theorem dL_law_613 : decode cL_law 613 = .ok (.invokevirtual 68, 3) := by decide +kernel
theorem dL_law_616 : decode cL_law 616 = .ok (.aload_n 2, 1) := by decide +kernel
theorem dL_law_617 : decode cL_law 617 = .ok (.aload_n 0, 1) := by decide +kernel
theorem dL_law_618 : decode cL_law 618 = .ok (.iload_n 3, 1) := by decide +kernel
theorem dL_law_619 : decode cL_law 619 = .ok (.iconst 1, 1) := by decide +kernel
theorem dL_law_620 : decode cL_law 620 = .ok (.iadd, 1) := by decide +kernel
theorem dL_law_621 : decode cL_law 621 = .ok (.iaload, 1) := by decide +kernel
theorem dL_law_622 : decode cL_law 622 = .ok (.invokevirtual 72, 3) := by decide +kernel
theorem dL_law_625 : decode cL_law 625 = .ok (.lcmp, 1) := by decide +kernel
theorem dL_law_626 : decode cL_law 626 = .ok (.ifCond .eq 867, 3) := by decide +kernel
theorem dL_law_629 : decode cL_law 629 = .ok (.iconst 0, 1) := by decide +kernel
theorem dL_law_630 : decode cL_law 630 = .ok (.ireturn, 1) := by decide +kernel
theorem dL_law_631 : decode cL_law 631 = .ok (.aload_n 1, 1) := by decide +kernel
theorem dL_law_632 : decode cL_law 632 = .ok (.aload_n 0, 1) := by decide +kernel
theorem dL_law_633 : decode cL_law 633 = .ok (.iload_n 3, 1) := by decide +kernel
theorem dL_law_634 : decode cL_law 634 = .ok (.iconst 1, 1) := by decide +kernel
theorem dL_law_635 : decode cL_law 635 = .ok (.iadd, 1) := by decide +kernel
theorem dL_law_636 : decode cL_law 636 = .ok (.iaload, 1) := by decide +kernel
theorem dL_law_637 : decode cL_law 637 = .ok (.invokevirtual 73, 3) := by decide +kernel
theorem dL_law_640 : decode cL_law 640 = .ok (.aload_n 2, 1) := by decide +kernel
theorem dL_law_641 : decode cL_law 641 = .ok (.aload_n 0, 1) := by decide +kernel
theorem dL_law_642 : decode cL_law 642 = .ok (.iload_n 3, 1) := by decide +kernel
theorem dL_law_643 : decode cL_law 643 = .ok (.iconst 1, 1) := by decide +kernel
theorem dL_law_644 : decode cL_law 644 = .ok (.iadd, 1) := by decide +kernel
theorem dL_law_645 : decode cL_law 645 = .ok (.iaload, 1) := by decide +kernel
theorem dL_law_646 : decode cL_law 646 = .ok (.invokevirtual 76, 3) := by decide +kernel
theorem dL_law_649 : decode cL_law 649 = .ok (.if_icmp .eq 844, 3) := by decide +kernel
theorem dL_law_652 : decode cL_law 652 = .ok (.iconst 0, 1) := by decide +kernel
theorem dL_law_653 : decode cL_law 653 = .ok (.ireturn, 1) := by decide +kernel
theorem dL_law_654 : decode cL_law 654 = .ok (.aload_n 1, 1) := by decide +kernel
theorem dL_law_655 : decode cL_law 655 = .ok (.aload_n 0, 1) := by decide +kernel
theorem dL_law_656 : decode cL_law 656 = .ok (.iload_n 3, 1) := by decide +kernel
theorem dL_law_657 : decode cL_law 657 = .ok (.iconst 1, 1) := by decide +kernel
theorem dL_law_658 : decode cL_law 658 = .ok (.iadd, 1) := by decide +kernel
theorem dL_law_659 : decode cL_law 659 = .ok (.iaload, 1) := by decide +kernel
theorem dL_law_660 : decode cL_law 660 = .ok (.aload_n 0, 1) := by decide +kernel
theorem dL_law_661 : decode cL_law 661 = .ok (.iload_n 3, 1) := by decide +kernel
theorem dL_law_662 : decode cL_law 662 = .ok (.iconst 2, 1) := by decide +kernel
theorem dL_law_663 : decode cL_law 663 = .ok (.iadd, 1) := by decide +kernel
theorem dL_law_664 : decode cL_law 664 = .ok (.iaload, 1) := by decide +kernel
theorem dL_law_665 : decode cL_law 665 = .ok (.aload_n 0, 1) := by decide +kernel
theorem dL_law_666 : decode cL_law 666 = .ok (.iload_n 3, 1) := by decide +kernel
theorem dL_law_667 : decode cL_law 667 = .ok (.iconst 3, 1) := by decide +kernel
theorem dL_law_668 : decode cL_law 668 = .ok (.iadd, 1) := by decide +kernel
theorem dL_law_669 : decode cL_law 669 = .ok (.iaload, 1) := by decide +kernel
theorem dL_law_670 : decode cL_law 670 = .ok (.i2l, 1) := by decide +kernel
theorem dL_law_671 : decode cL_law 671 = .ok (.bipush 32, 2) := by decide +kernel
theorem dL_law_673 : decode cL_law 673 = .ok (.lshl, 1) := by decide +kernel
theorem dL_law_674 : decode cL_law 674 = .ok (.aload_n 0, 1) := by decide +kernel
theorem dL_law_675 : decode cL_law 675 = .ok (.iload_n 3, 1) := by decide +kernel
theorem dL_law_676 : decode cL_law 676 = .ok (.iconst 4, 1) := by decide +kernel
theorem dL_law_677 : decode cL_law 677 = .ok (.iadd, 1) := by decide +kernel
theorem dL_law_678 : decode cL_law 678 = .ok (.iaload, 1) := by decide +kernel
theorem dL_law_679 : decode cL_law 679 = .ok (.i2l, 1) := by decide +kernel
theorem dL_law_680 : decode cL_law 680 = .ok (.ldc2_w 77, 3) := by decide +kernel
theorem dL_law_683 : decode cL_law 683 = .ok (.land, 1) := by decide +kernel
theorem dL_law_684 : decode cL_law 684 = .ok (.lor, 1) := by decide +kernel
theorem dL_law_685 : decode cL_law 685 = .ok (.invokevirtual 79, 3) := by decide +kernel
theorem dL_law_688 : decode cL_law 688 = .ok (.aload_n 2, 1) := by decide +kernel
theorem dL_law_689 : decode cL_law 689 = .ok (.aload_n 0, 1) := by decide +kernel
theorem dL_law_690 : decode cL_law 690 = .ok (.iload_n 3, 1) := by decide +kernel
theorem dL_law_691 : decode cL_law 691 = .ok (.iconst 1, 1) := by decide +kernel
theorem dL_law_692 : decode cL_law 692 = .ok (.iadd, 1) := by decide +kernel
theorem dL_law_693 : decode cL_law 693 = .ok (.iaload, 1) := by decide +kernel
theorem dL_law_694 : decode cL_law 694 = .ok (.aload_n 0, 1) := by decide +kernel
theorem dL_law_695 : decode cL_law 695 = .ok (.iload_n 3, 1) := by decide +kernel
theorem dL_law_696 : decode cL_law 696 = .ok (.iconst 2, 1) := by decide +kernel
theorem dL_law_697 : decode cL_law 697 = .ok (.iadd, 1) := by decide +kernel
theorem dL_law_698 : decode cL_law 698 = .ok (.iaload, 1) := by decide +kernel
theorem dL_law_699 : decode cL_law 699 = .ok (.aload_n 0, 1) := by decide +kernel
theorem dL_law_700 : decode cL_law 700 = .ok (.iload_n 3, 1) := by decide +kernel
theorem dL_law_701 : decode cL_law 701 = .ok (.iconst 3, 1) := by decide +kernel
theorem dL_law_702 : decode cL_law 702 = .ok (.iadd, 1) := by decide +kernel
theorem dL_law_703 : decode cL_law 703 = .ok (.iaload, 1) := by decide +kernel
theorem dL_law_704 : decode cL_law 704 = .ok (.i2l, 1) := by decide +kernel
theorem dL_law_705 : decode cL_law 705 = .ok (.bipush 32, 2) := by decide +kernel
theorem dL_law_707 : decode cL_law 707 = .ok (.lshl, 1) := by decide +kernel
theorem dL_law_708 : decode cL_law 708 = .ok (.aload_n 0, 1) := by decide +kernel
theorem dL_law_709 : decode cL_law 709 = .ok (.iload_n 3, 1) := by decide +kernel
theorem dL_law_710 : decode cL_law 710 = .ok (.iconst 4, 1) := by decide +kernel
theorem dL_law_711 : decode cL_law 711 = .ok (.iadd, 1) := by decide +kernel
theorem dL_law_712 : decode cL_law 712 = .ok (.iaload, 1) := by decide +kernel
theorem dL_law_713 : decode cL_law 713 = .ok (.i2l, 1) := by decide +kernel
theorem dL_law_714 : decode cL_law 714 = .ok (.ldc2_w 77, 3) := by decide +kernel
theorem dL_law_717 : decode cL_law 717 = .ok (.land, 1) := by decide +kernel
theorem dL_law_718 : decode cL_law 718 = .ok (.lor, 1) := by decide +kernel
theorem dL_law_719 : decode cL_law 719 = .ok (.invokevirtual 83, 3) := by decide +kernel
theorem dL_law_722 : decode cL_law 722 = .ok (.if_icmp .eq 771, 3) := by decide +kernel
theorem dL_law_725 : decode cL_law 725 = .ok (.iconst 0, 1) := by decide +kernel
theorem dL_law_726 : decode cL_law 726 = .ok (.ireturn, 1) := by decide +kernel
theorem dL_law_727 : decode cL_law 727 = .ok (.aload_n 1, 1) := by decide +kernel
theorem dL_law_728 : decode cL_law 728 = .ok (.aload_n 0, 1) := by decide +kernel
theorem dL_law_729 : decode cL_law 729 = .ok (.iload_n 3, 1) := by decide +kernel
theorem dL_law_730 : decode cL_law 730 = .ok (.iconst 1, 1) := by decide +kernel
theorem dL_law_731 : decode cL_law 731 = .ok (.iadd, 1) := by decide +kernel
theorem dL_law_732 : decode cL_law 732 = .ok (.iaload, 1) := by decide +kernel
theorem dL_law_733 : decode cL_law 733 = .ok (.aload_n 0, 1) := by decide +kernel
theorem dL_law_734 : decode cL_law 734 = .ok (.iload_n 3, 1) := by decide +kernel
theorem dL_law_735 : decode cL_law 735 = .ok (.iconst 2, 1) := by decide +kernel
theorem dL_law_736 : decode cL_law 736 = .ok (.iadd, 1) := by decide +kernel
theorem dL_law_737 : decode cL_law 737 = .ok (.iaload, 1) := by decide +kernel
theorem dL_law_738 : decode cL_law 738 = .ok (.invokevirtual 84, 3) := by decide +kernel
theorem dL_law_741 : decode cL_law 741 = .ok (.aload_n 2, 1) := by decide +kernel
theorem dL_law_742 : decode cL_law 742 = .ok (.aload_n 0, 1) := by decide +kernel
theorem dL_law_743 : decode cL_law 743 = .ok (.iload_n 3, 1) := by decide +kernel
theorem dL_law_744 : decode cL_law 744 = .ok (.iconst 1, 1) := by decide +kernel
theorem dL_law_745 : decode cL_law 745 = .ok (.iadd, 1) := by decide +kernel
theorem dL_law_746 : decode cL_law 746 = .ok (.iaload, 1) := by decide +kernel
theorem dL_law_747 : decode cL_law 747 = .ok (.aload_n 0, 1) := by decide +kernel
theorem dL_law_748 : decode cL_law 748 = .ok (.iload_n 3, 1) := by decide +kernel
theorem dL_law_749 : decode cL_law 749 = .ok (.iconst 2, 1) := by decide +kernel
theorem dL_law_750 : decode cL_law 750 = .ok (.iadd, 1) := by decide +kernel
theorem dL_law_751 : decode cL_law 751 = .ok (.iaload, 1) := by decide +kernel
theorem dL_law_752 : decode cL_law 752 = .ok (.invokevirtual 88, 3) := by decide +kernel
theorem dL_law_755 : decode cL_law 755 = .ok (.lcmp, 1) := by decide +kernel
theorem dL_law_756 : decode cL_law 756 = .ok (.ifCond .eq 737, 3) := by decide +kernel
theorem dL_law_759 : decode cL_law 759 = .ok (.iconst 0, 1) := by decide +kernel
theorem dL_law_760 : decode cL_law 760 = .ok (.ireturn, 1) := by decide +kernel
theorem dL_law_761 : decode cL_law 761 = .ok (.aload_n 1, 1) := by decide +kernel
theorem dL_law_762 : decode cL_law 762 = .ok (.aload_n 0, 1) := by decide +kernel
theorem dL_law_763 : decode cL_law 763 = .ok (.iload_n 3, 1) := by decide +kernel
theorem dL_law_764 : decode cL_law 764 = .ok (.iconst 1, 1) := by decide +kernel
theorem dL_law_765 : decode cL_law 765 = .ok (.iadd, 1) := by decide +kernel
theorem dL_law_766 : decode cL_law 766 = .ok (.iaload, 1) := by decide +kernel
theorem dL_law_767 : decode cL_law 767 = .ok (.aload_n 0, 1) := by decide +kernel
theorem dL_law_768 : decode cL_law 768 = .ok (.iload_n 3, 1) := by decide +kernel
theorem dL_law_769 : decode cL_law 769 = .ok (.iconst 2, 1) := by decide +kernel
theorem dL_law_770 : decode cL_law 770 = .ok (.iadd, 1) := by decide +kernel
theorem dL_law_771 : decode cL_law 771 = .ok (.iaload, 1) := by decide +kernel
theorem dL_law_772 : decode cL_law 772 = .ok (.invokevirtual 89, 3) := by decide +kernel
theorem dL_law_775 : decode cL_law 775 = .ok (.aload_n 2, 1) := by decide +kernel
theorem dL_law_776 : decode cL_law 776 = .ok (.aload_n 0, 1) := by decide +kernel
theorem dL_law_777 : decode cL_law 777 = .ok (.iload_n 3, 1) := by decide +kernel
theorem dL_law_778 : decode cL_law 778 = .ok (.iconst 1, 1) := by decide +kernel
theorem dL_law_779 : decode cL_law 779 = .ok (.iadd, 1) := by decide +kernel
theorem dL_law_780 : decode cL_law 780 = .ok (.iaload, 1) := by decide +kernel
theorem dL_law_781 : decode cL_law 781 = .ok (.aload_n 0, 1) := by decide +kernel
theorem dL_law_782 : decode cL_law 782 = .ok (.iload_n 3, 1) := by decide +kernel
theorem dL_law_783 : decode cL_law 783 = .ok (.iconst 2, 1) := by decide +kernel
theorem dL_law_784 : decode cL_law 784 = .ok (.iadd, 1) := by decide +kernel
theorem dL_law_785 : decode cL_law 785 = .ok (.iaload, 1) := by decide +kernel
theorem dL_law_786 : decode cL_law 786 = .ok (.invokevirtual 92, 3) := by decide +kernel
theorem dL_law_789 : decode cL_law 789 = .ok (.if_icmp .eq 704, 3) := by decide +kernel
theorem dL_law_792 : decode cL_law 792 = .ok (.iconst 0, 1) := by decide +kernel
theorem dL_law_793 : decode cL_law 793 = .ok (.ireturn, 1) := by decide +kernel
theorem dL_law_794 : decode cL_law 794 = .ok (.aload_n 1, 1) := by decide +kernel
theorem dL_law_795 : decode cL_law 795 = .ok (.aload_n 0, 1) := by decide +kernel
theorem dL_law_796 : decode cL_law 796 = .ok (.iload_n 3, 1) := by decide +kernel
theorem dL_law_797 : decode cL_law 797 = .ok (.iconst 1, 1) := by decide +kernel
theorem dL_law_798 : decode cL_law 798 = .ok (.iadd, 1) := by decide +kernel
theorem dL_law_799 : decode cL_law 799 = .ok (.iaload, 1) := by decide +kernel
theorem dL_law_800 : decode cL_law 800 = .ok (.aload_n 0, 1) := by decide +kernel
theorem dL_law_801 : decode cL_law 801 = .ok (.iload_n 3, 1) := by decide +kernel
theorem dL_law_802 : decode cL_law 802 = .ok (.iconst 2, 1) := by decide +kernel
theorem dL_law_803 : decode cL_law 803 = .ok (.iadd, 1) := by decide +kernel
theorem dL_law_804 : decode cL_law 804 = .ok (.iaload, 1) := by decide +kernel
theorem dL_law_805 : decode cL_law 805 = .ok (.invokevirtual 93, 3) := by decide +kernel
theorem dL_law_808 : decode cL_law 808 = .ok (.aload_n 2, 1) := by decide +kernel
theorem dL_law_809 : decode cL_law 809 = .ok (.aload_n 0, 1) := by decide +kernel
theorem dL_law_810 : decode cL_law 810 = .ok (.iload_n 3, 1) := by decide +kernel
theorem dL_law_811 : decode cL_law 811 = .ok (.iconst 1, 1) := by decide +kernel
theorem dL_law_812 : decode cL_law 812 = .ok (.iadd, 1) := by decide +kernel
theorem dL_law_813 : decode cL_law 813 = .ok (.iaload, 1) := by decide +kernel
theorem dL_law_814 : decode cL_law 814 = .ok (.aload_n 0, 1) := by decide +kernel
theorem dL_law_815 : decode cL_law 815 = .ok (.iload_n 3, 1) := by decide +kernel
theorem dL_law_816 : decode cL_law 816 = .ok (.iconst 2, 1) := by decide +kernel
theorem dL_law_817 : decode cL_law 817 = .ok (.iadd, 1) := by decide +kernel
theorem dL_law_818 : decode cL_law 818 = .ok (.iaload, 1) := by decide +kernel
theorem dL_law_819 : decode cL_law 819 = .ok (.invokevirtual 96, 3) := by decide +kernel
theorem dL_law_822 : decode cL_law 822 = .ok (.if_icmp .eq 671, 3) := by decide +kernel
theorem dL_law_825 : decode cL_law 825 = .ok (.iconst 0, 1) := by decide +kernel
theorem dL_law_826 : decode cL_law 826 = .ok (.ireturn, 1) := by decide +kernel
theorem dL_law_827 : decode cL_law 827 = .ok (.aload_n 1, 1) := by decide +kernel
theorem dL_law_828 : decode cL_law 828 = .ok (.aload_n 0, 1) := by decide +kernel
theorem dL_law_829 : decode cL_law 829 = .ok (.iload_n 3, 1) := by decide +kernel
theorem dL_law_830 : decode cL_law 830 = .ok (.iconst 1, 1) := by decide +kernel
theorem dL_law_831 : decode cL_law 831 = .ok (.iadd, 1) := by decide +kernel
theorem dL_law_832 : decode cL_law 832 = .ok (.iaload, 1) := by decide +kernel
theorem dL_law_833 : decode cL_law 833 = .ok (.aload_n 0, 1) := by decide +kernel
theorem dL_law_834 : decode cL_law 834 = .ok (.iload_n 3, 1) := by decide +kernel
theorem dL_law_835 : decode cL_law 835 = .ok (.iconst 2, 1) := by decide +kernel
theorem dL_law_836 : decode cL_law 836 = .ok (.iadd, 1) := by decide +kernel
theorem dL_law_837 : decode cL_law 837 = .ok (.iaload, 1) := by decide +kernel
theorem dL_law_838 : decode cL_law 838 = .ok (.aload_n 0, 1) := by decide +kernel
theorem dL_law_839 : decode cL_law 839 = .ok (.iload_n 3, 1) := by decide +kernel
theorem dL_law_840 : decode cL_law 840 = .ok (.iconst 3, 1) := by decide +kernel
theorem dL_law_841 : decode cL_law 841 = .ok (.iadd, 1) := by decide +kernel
theorem dL_law_842 : decode cL_law 842 = .ok (.iaload, 1) := by decide +kernel
theorem dL_law_843 : decode cL_law 843 = .ok (.invokevirtual 97, 3) := by decide +kernel
theorem dL_law_846 : decode cL_law 846 = .ok (.aload_n 2, 1) := by decide +kernel
theorem dL_law_847 : decode cL_law 847 = .ok (.aload_n 0, 1) := by decide +kernel
theorem dL_law_848 : decode cL_law 848 = .ok (.iload_n 3, 1) := by decide +kernel
theorem dL_law_849 : decode cL_law 849 = .ok (.iconst 1, 1) := by decide +kernel
theorem dL_law_850 : decode cL_law 850 = .ok (.iadd, 1) := by decide +kernel
theorem dL_law_851 : decode cL_law 851 = .ok (.iaload, 1) := by decide +kernel
theorem dL_law_852 : decode cL_law 852 = .ok (.aload_n 0, 1) := by decide +kernel
theorem dL_law_853 : decode cL_law 853 = .ok (.iload_n 3, 1) := by decide +kernel
theorem dL_law_854 : decode cL_law 854 = .ok (.iconst 2, 1) := by decide +kernel
theorem dL_law_855 : decode cL_law 855 = .ok (.iadd, 1) := by decide +kernel
theorem dL_law_856 : decode cL_law 856 = .ok (.iaload, 1) := by decide +kernel
theorem dL_law_857 : decode cL_law 857 = .ok (.aload_n 0, 1) := by decide +kernel
theorem dL_law_858 : decode cL_law 858 = .ok (.iload_n 3, 1) := by decide +kernel
theorem dL_law_859 : decode cL_law 859 = .ok (.iconst 3, 1) := by decide +kernel
theorem dL_law_860 : decode cL_law 860 = .ok (.iadd, 1) := by decide +kernel
theorem dL_law_861 : decode cL_law 861 = .ok (.iaload, 1) := by decide +kernel
theorem dL_law_862 : decode cL_law 862 = .ok (.invokevirtual 100, 3) := by decide +kernel
theorem dL_law_865 : decode cL_law 865 = .ok (.if_icmp .eq 628, 3) := by decide +kernel
theorem dL_law_868 : decode cL_law 868 = .ok (.iconst 0, 1) := by decide +kernel
theorem dL_law_869 : decode cL_law 869 = .ok (.ireturn, 1) := by decide +kernel
theorem dL_law_870 : decode cL_law 870 = .ok (.aload_n 1, 1) := by decide +kernel
theorem dL_law_871 : decode cL_law 871 = .ok (.aload_n 0, 1) := by decide +kernel
theorem dL_law_872 : decode cL_law 872 = .ok (.iload_n 3, 1) := by decide +kernel
theorem dL_law_873 : decode cL_law 873 = .ok (.iconst 1, 1) := by decide +kernel
theorem dL_law_874 : decode cL_law 874 = .ok (.iadd, 1) := by decide +kernel
theorem dL_law_875 : decode cL_law 875 = .ok (.iaload, 1) := by decide +kernel
theorem dL_law_876 : decode cL_law 876 = .ok (.aload_n 0, 1) := by decide +kernel
theorem dL_law_877 : decode cL_law 877 = .ok (.iload_n 3, 1) := by decide +kernel
theorem dL_law_878 : decode cL_law 878 = .ok (.iconst 2, 1) := by decide +kernel
theorem dL_law_879 : decode cL_law 879 = .ok (.iadd, 1) := by decide +kernel
theorem dL_law_880 : decode cL_law 880 = .ok (.iaload, 1) := by decide +kernel
theorem dL_law_881 : decode cL_law 881 = .ok (.aload_n 0, 1) := by decide +kernel
theorem dL_law_882 : decode cL_law 882 = .ok (.iload_n 3, 1) := by decide +kernel
theorem dL_law_883 : decode cL_law 883 = .ok (.iconst 3, 1) := by decide +kernel
theorem dL_law_884 : decode cL_law 884 = .ok (.iadd, 1) := by decide +kernel
theorem dL_law_885 : decode cL_law 885 = .ok (.iaload, 1) := by decide +kernel
theorem dL_law_886 : decode cL_law 886 = .ok (.invokevirtual 101, 3) := by decide +kernel
theorem dL_law_889 : decode cL_law 889 = .ok (.aload_n 2, 1) := by decide +kernel
theorem dL_law_890 : decode cL_law 890 = .ok (.aload_n 0, 1) := by decide +kernel
theorem dL_law_891 : decode cL_law 891 = .ok (.iload_n 3, 1) := by decide +kernel
theorem dL_law_892 : decode cL_law 892 = .ok (.iconst 1, 1) := by decide +kernel
theorem dL_law_893 : decode cL_law 893 = .ok (.iadd, 1) := by decide +kernel
theorem dL_law_894 : decode cL_law 894 = .ok (.iaload, 1) := by decide +kernel
theorem dL_law_895 : decode cL_law 895 = .ok (.aload_n 0, 1) := by decide +kernel
theorem dL_law_896 : decode cL_law 896 = .ok (.iload_n 3, 1) := by decide +kernel
theorem dL_law_897 : decode cL_law 897 = .ok (.iconst 2, 1) := by decide +kernel
theorem dL_law_898 : decode cL_law 898 = .ok (.iadd, 1) := by decide +kernel
theorem dL_law_899 : decode cL_law 899 = .ok (.iaload, 1) := by decide +kernel
theorem dL_law_900 : decode cL_law 900 = .ok (.aload_n 0, 1) := by decide +kernel
theorem dL_law_901 : decode cL_law 901 = .ok (.iload_n 3, 1) := by decide +kernel
theorem dL_law_902 : decode cL_law 902 = .ok (.iconst 3, 1) := by decide +kernel
theorem dL_law_903 : decode cL_law 903 = .ok (.iadd, 1) := by decide +kernel
theorem dL_law_904 : decode cL_law 904 = .ok (.iaload, 1) := by decide +kernel
theorem dL_law_905 : decode cL_law 905 = .ok (.invokevirtual 104, 3) := by decide +kernel
theorem dL_law_908 : decode cL_law 908 = .ok (.if_icmp .eq 585, 3) := by decide +kernel
theorem dL_law_911 : decode cL_law 911 = .ok (.iconst 0, 1) := by decide +kernel
theorem dL_law_912 : decode cL_law 912 = .ok (.ireturn, 1) := by decide +kernel
theorem dL_law_913 : decode cL_law 913 = .ok (.aload_n 1, 1) := by decide +kernel
theorem dL_law_914 : decode cL_law 914 = .ok (.aload_n 0, 1) := by decide +kernel
theorem dL_law_915 : decode cL_law 915 = .ok (.iload_n 3, 1) := by decide +kernel
theorem dL_law_916 : decode cL_law 916 = .ok (.iconst 1, 1) := by decide +kernel
theorem dL_law_917 : decode cL_law 917 = .ok (.iadd, 1) := by decide +kernel
theorem dL_law_918 : decode cL_law 918 = .ok (.iaload, 1) := by decide +kernel
theorem dL_law_919 : decode cL_law 919 = .ok (.aload_n 0, 1) := by decide +kernel
theorem dL_law_920 : decode cL_law 920 = .ok (.iload_n 3, 1) := by decide +kernel
theorem dL_law_921 : decode cL_law 921 = .ok (.iconst 2, 1) := by decide +kernel
theorem dL_law_922 : decode cL_law 922 = .ok (.iadd, 1) := by decide +kernel
theorem dL_law_923 : decode cL_law 923 = .ok (.iaload, 1) := by decide +kernel
theorem dL_law_924 : decode cL_law 924 = .ok (.aload_n 0, 1) := by decide +kernel
theorem dL_law_925 : decode cL_law 925 = .ok (.iload_n 3, 1) := by decide +kernel
theorem dL_law_926 : decode cL_law 926 = .ok (.iconst 3, 1) := by decide +kernel
theorem dL_law_927 : decode cL_law 927 = .ok (.iadd, 1) := by decide +kernel
theorem dL_law_928 : decode cL_law 928 = .ok (.iaload, 1) := by decide +kernel
theorem dL_law_929 : decode cL_law 929 = .ok (.invokevirtual 105, 3) := by decide +kernel
theorem dL_law_932 : decode cL_law 932 = .ok (.aload_n 2, 1) := by decide +kernel
theorem dL_law_933 : decode cL_law 933 = .ok (.aload_n 0, 1) := by decide +kernel
theorem dL_law_934 : decode cL_law 934 = .ok (.iload_n 3, 1) := by decide +kernel
theorem dL_law_935 : decode cL_law 935 = .ok (.iconst 1, 1) := by decide +kernel
theorem dL_law_936 : decode cL_law 936 = .ok (.iadd, 1) := by decide +kernel
theorem dL_law_937 : decode cL_law 937 = .ok (.iaload, 1) := by decide +kernel
theorem dL_law_938 : decode cL_law 938 = .ok (.aload_n 0, 1) := by decide +kernel
theorem dL_law_939 : decode cL_law 939 = .ok (.iload_n 3, 1) := by decide +kernel
theorem dL_law_940 : decode cL_law 940 = .ok (.iconst 2, 1) := by decide +kernel
theorem dL_law_941 : decode cL_law 941 = .ok (.iadd, 1) := by decide +kernel
theorem dL_law_942 : decode cL_law 942 = .ok (.iaload, 1) := by decide +kernel
theorem dL_law_943 : decode cL_law 943 = .ok (.aload_n 0, 1) := by decide +kernel
theorem dL_law_944 : decode cL_law 944 = .ok (.iload_n 3, 1) := by decide +kernel
theorem dL_law_945 : decode cL_law 945 = .ok (.iconst 3, 1) := by decide +kernel
theorem dL_law_946 : decode cL_law 946 = .ok (.iadd, 1) := by decide +kernel
theorem dL_law_947 : decode cL_law 947 = .ok (.iaload, 1) := by decide +kernel
theorem dL_law_948 : decode cL_law 948 = .ok (.invokevirtual 108, 3) := by decide +kernel
theorem dL_law_951 : decode cL_law 951 = .ok (.if_icmp .eq 542, 3) := by decide +kernel
theorem dL_law_954 : decode cL_law 954 = .ok (.iconst 0, 1) := by decide +kernel
theorem dL_law_955 : decode cL_law 955 = .ok (.ireturn, 1) := by decide +kernel
theorem dL_law_956 : decode cL_law 956 = .ok (.aload_n 1, 1) := by decide +kernel
theorem dL_law_957 : decode cL_law 957 = .ok (.aload_n 0, 1) := by decide +kernel
theorem dL_law_958 : decode cL_law 958 = .ok (.iload_n 3, 1) := by decide +kernel
theorem dL_law_959 : decode cL_law 959 = .ok (.iconst 1, 1) := by decide +kernel
theorem dL_law_960 : decode cL_law 960 = .ok (.iadd, 1) := by decide +kernel
theorem dL_law_961 : decode cL_law 961 = .ok (.iaload, 1) := by decide +kernel
theorem dL_law_962 : decode cL_law 962 = .ok (.aload_n 0, 1) := by decide +kernel
theorem dL_law_963 : decode cL_law 963 = .ok (.iload_n 3, 1) := by decide +kernel
theorem dL_law_964 : decode cL_law 964 = .ok (.iconst 2, 1) := by decide +kernel
theorem dL_law_965 : decode cL_law 965 = .ok (.iadd, 1) := by decide +kernel
theorem dL_law_966 : decode cL_law 966 = .ok (.iaload, 1) := by decide +kernel
theorem dL_law_967 : decode cL_law 967 = .ok (.aload_n 0, 1) := by decide +kernel
theorem dL_law_968 : decode cL_law 968 = .ok (.iload_n 3, 1) := by decide +kernel
theorem dL_law_969 : decode cL_law 969 = .ok (.iconst 3, 1) := by decide +kernel
theorem dL_law_970 : decode cL_law 970 = .ok (.iadd, 1) := by decide +kernel
theorem dL_law_971 : decode cL_law 971 = .ok (.iaload, 1) := by decide +kernel
theorem dL_law_972 : decode cL_law 972 = .ok (.invokevirtual 109, 3) := by decide +kernel
theorem dL_law_975 : decode cL_law 975 = .ok (.aload_n 2, 1) := by decide +kernel
theorem dL_law_976 : decode cL_law 976 = .ok (.aload_n 0, 1) := by decide +kernel
theorem dL_law_977 : decode cL_law 977 = .ok (.iload_n 3, 1) := by decide +kernel
theorem dL_law_978 : decode cL_law 978 = .ok (.iconst 1, 1) := by decide +kernel
theorem dL_law_979 : decode cL_law 979 = .ok (.iadd, 1) := by decide +kernel
theorem dL_law_980 : decode cL_law 980 = .ok (.iaload, 1) := by decide +kernel
theorem dL_law_981 : decode cL_law 981 = .ok (.aload_n 0, 1) := by decide +kernel
theorem dL_law_982 : decode cL_law 982 = .ok (.iload_n 3, 1) := by decide +kernel
theorem dL_law_983 : decode cL_law 983 = .ok (.iconst 2, 1) := by decide +kernel
theorem dL_law_984 : decode cL_law 984 = .ok (.iadd, 1) := by decide +kernel
theorem dL_law_985 : decode cL_law 985 = .ok (.iaload, 1) := by decide +kernel
theorem dL_law_986 : decode cL_law 986 = .ok (.aload_n 0, 1) := by decide +kernel
theorem dL_law_987 : decode cL_law 987 = .ok (.iload_n 3, 1) := by decide +kernel
theorem dL_law_988 : decode cL_law 988 = .ok (.iconst 3, 1) := by decide +kernel
theorem dL_law_989 : decode cL_law 989 = .ok (.iadd, 1) := by decide +kernel
theorem dL_law_990 : decode cL_law 990 = .ok (.iaload, 1) := by decide +kernel
theorem dL_law_991 : decode cL_law 991 = .ok (.invokevirtual 112, 3) := by decide +kernel
theorem dL_law_994 : decode cL_law 994 = .ok (.if_icmp .eq 499, 3) := by decide +kernel
theorem dL_law_997 : decode cL_law 997 = .ok (.iconst 0, 1) := by decide +kernel
theorem dL_law_998 : decode cL_law 998 = .ok (.ireturn, 1) := by decide +kernel
theorem dL_law_999 : decode cL_law 999 = .ok (.aload_n 1, 1) := by decide +kernel
theorem dL_law_1000 : decode cL_law 1000 = .ok (.aload_n 0, 1) := by decide +kernel
theorem dL_law_1001 : decode cL_law 1001 = .ok (.iload_n 3, 1) := by decide +kernel
theorem dL_law_1002 : decode cL_law 1002 = .ok (.iconst 1, 1) := by decide +kernel
theorem dL_law_1003 : decode cL_law 1003 = .ok (.iadd, 1) := by decide +kernel
theorem dL_law_1004 : decode cL_law 1004 = .ok (.iaload, 1) := by decide +kernel
theorem dL_law_1005 : decode cL_law 1005 = .ok (.aload_n 0, 1) := by decide +kernel
theorem dL_law_1006 : decode cL_law 1006 = .ok (.iload_n 3, 1) := by decide +kernel
theorem dL_law_1007 : decode cL_law 1007 = .ok (.iconst 2, 1) := by decide +kernel
theorem dL_law_1008 : decode cL_law 1008 = .ok (.iadd, 1) := by decide +kernel
theorem dL_law_1009 : decode cL_law 1009 = .ok (.iaload, 1) := by decide +kernel
theorem dL_law_1010 : decode cL_law 1010 = .ok (.aload_n 0, 1) := by decide +kernel
theorem dL_law_1011 : decode cL_law 1011 = .ok (.iload_n 3, 1) := by decide +kernel
theorem dL_law_1012 : decode cL_law 1012 = .ok (.iconst 3, 1) := by decide +kernel
theorem dL_law_1013 : decode cL_law 1013 = .ok (.iadd, 1) := by decide +kernel
theorem dL_law_1014 : decode cL_law 1014 = .ok (.iaload, 1) := by decide +kernel
theorem dL_law_1015 : decode cL_law 1015 = .ok (.invokevirtual 113, 3) := by decide +kernel
theorem dL_law_1018 : decode cL_law 1018 = .ok (.aload_n 2, 1) := by decide +kernel
theorem dL_law_1019 : decode cL_law 1019 = .ok (.aload_n 0, 1) := by decide +kernel
theorem dL_law_1020 : decode cL_law 1020 = .ok (.iload_n 3, 1) := by decide +kernel
theorem dL_law_1021 : decode cL_law 1021 = .ok (.iconst 1, 1) := by decide +kernel
theorem dL_law_1022 : decode cL_law 1022 = .ok (.iadd, 1) := by decide +kernel
theorem dL_law_1023 : decode cL_law 1023 = .ok (.iaload, 1) := by decide +kernel
theorem dL_law_1024 : decode cL_law 1024 = .ok (.aload_n 0, 1) := by decide +kernel
theorem dL_law_1025 : decode cL_law 1025 = .ok (.iload_n 3, 1) := by decide +kernel
theorem dL_law_1026 : decode cL_law 1026 = .ok (.iconst 2, 1) := by decide +kernel
theorem dL_law_1027 : decode cL_law 1027 = .ok (.iadd, 1) := by decide +kernel
theorem dL_law_1028 : decode cL_law 1028 = .ok (.iaload, 1) := by decide +kernel
theorem dL_law_1029 : decode cL_law 1029 = .ok (.aload_n 0, 1) := by decide +kernel
theorem dL_law_1030 : decode cL_law 1030 = .ok (.iload_n 3, 1) := by decide +kernel
theorem dL_law_1031 : decode cL_law 1031 = .ok (.iconst 3, 1) := by decide +kernel
theorem dL_law_1032 : decode cL_law 1032 = .ok (.iadd, 1) := by decide +kernel
theorem dL_law_1033 : decode cL_law 1033 = .ok (.iaload, 1) := by decide +kernel
theorem dL_law_1034 : decode cL_law 1034 = .ok (.invokevirtual 116, 3) := by decide +kernel
theorem dL_law_1037 : decode cL_law 1037 = .ok (.if_icmp .eq 456, 3) := by decide +kernel
theorem dL_law_1040 : decode cL_law 1040 = .ok (.iconst 0, 1) := by decide +kernel
theorem dL_law_1041 : decode cL_law 1041 = .ok (.ireturn, 1) := by decide +kernel
theorem dL_law_1042 : decode cL_law 1042 = .ok (.aload_n 1, 1) := by decide +kernel
theorem dL_law_1043 : decode cL_law 1043 = .ok (.aload_n 0, 1) := by decide +kernel
theorem dL_law_1044 : decode cL_law 1044 = .ok (.iload_n 3, 1) := by decide +kernel
theorem dL_law_1045 : decode cL_law 1045 = .ok (.iconst 1, 1) := by decide +kernel
theorem dL_law_1046 : decode cL_law 1046 = .ok (.iadd, 1) := by decide +kernel
theorem dL_law_1047 : decode cL_law 1047 = .ok (.iaload, 1) := by decide +kernel
theorem dL_law_1048 : decode cL_law 1048 = .ok (.invokevirtual 117, 3) := by decide +kernel
theorem dL_law_1051 : decode cL_law 1051 = .ok (.aload_n 2, 1) := by decide +kernel
theorem dL_law_1052 : decode cL_law 1052 = .ok (.aload_n 0, 1) := by decide +kernel
theorem dL_law_1053 : decode cL_law 1053 = .ok (.iload_n 3, 1) := by decide +kernel
theorem dL_law_1054 : decode cL_law 1054 = .ok (.iconst 1, 1) := by decide +kernel
theorem dL_law_1055 : decode cL_law 1055 = .ok (.iadd, 1) := by decide +kernel
theorem dL_law_1056 : decode cL_law 1056 = .ok (.iaload, 1) := by decide +kernel
theorem dL_law_1057 : decode cL_law 1057 = .ok (.invokevirtual 120, 3) := by decide +kernel
theorem dL_law_1060 : decode cL_law 1060 = .ok (.lcmp, 1) := by decide +kernel
theorem dL_law_1061 : decode cL_law 1061 = .ok (.ifCond .eq 432, 3) := by decide +kernel
theorem dL_law_1064 : decode cL_law 1064 = .ok (.iconst 0, 1) := by decide +kernel
theorem dL_law_1065 : decode cL_law 1065 = .ok (.ireturn, 1) := by decide +kernel
theorem dL_law_1066 : decode cL_law 1066 = .ok (.aload_n 1, 1) := by decide +kernel
theorem dL_law_1067 : decode cL_law 1067 = .ok (.aload_n 0, 1) := by decide +kernel
theorem dL_law_1068 : decode cL_law 1068 = .ok (.iload_n 3, 1) := by decide +kernel
theorem dL_law_1069 : decode cL_law 1069 = .ok (.iconst 1, 1) := by decide +kernel
theorem dL_law_1070 : decode cL_law 1070 = .ok (.iadd, 1) := by decide +kernel
theorem dL_law_1071 : decode cL_law 1071 = .ok (.iaload, 1) := by decide +kernel
theorem dL_law_1072 : decode cL_law 1072 = .ok (.invokevirtual 121, 3) := by decide +kernel
theorem dL_law_1075 : decode cL_law 1075 = .ok (.aload_n 2, 1) := by decide +kernel
theorem dL_law_1076 : decode cL_law 1076 = .ok (.aload_n 0, 1) := by decide +kernel
theorem dL_law_1077 : decode cL_law 1077 = .ok (.iload_n 3, 1) := by decide +kernel
theorem dL_law_1078 : decode cL_law 1078 = .ok (.iconst 1, 1) := by decide +kernel
theorem dL_law_1079 : decode cL_law 1079 = .ok (.iadd, 1) := by decide +kernel
theorem dL_law_1080 : decode cL_law 1080 = .ok (.iaload, 1) := by decide +kernel
theorem dL_law_1081 : decode cL_law 1081 = .ok (.invokevirtual 124, 3) := by decide +kernel
theorem dL_law_1084 : decode cL_law 1084 = .ok (.lcmp, 1) := by decide +kernel
theorem dL_law_1085 : decode cL_law 1085 = .ok (.ifCond .eq 408, 3) := by decide +kernel
theorem dL_law_1088 : decode cL_law 1088 = .ok (.iconst 0, 1) := by decide +kernel
theorem dL_law_1089 : decode cL_law 1089 = .ok (.ireturn, 1) := by decide +kernel
theorem dL_law_1090 : decode cL_law 1090 = .ok (.aload_n 1, 1) := by decide +kernel
theorem dL_law_1091 : decode cL_law 1091 = .ok (.aload_n 0, 1) := by decide +kernel
theorem dL_law_1092 : decode cL_law 1092 = .ok (.iload_n 3, 1) := by decide +kernel
theorem dL_law_1093 : decode cL_law 1093 = .ok (.iconst 1, 1) := by decide +kernel
theorem dL_law_1094 : decode cL_law 1094 = .ok (.iadd, 1) := by decide +kernel
theorem dL_law_1095 : decode cL_law 1095 = .ok (.iaload, 1) := by decide +kernel
theorem dL_law_1096 : decode cL_law 1096 = .ok (.invokevirtual 125, 3) := by decide +kernel
theorem dL_law_1099 : decode cL_law 1099 = .ok (.aload_n 2, 1) := by decide +kernel
theorem dL_law_1100 : decode cL_law 1100 = .ok (.aload_n 0, 1) := by decide +kernel
theorem dL_law_1101 : decode cL_law 1101 = .ok (.iload_n 3, 1) := by decide +kernel
theorem dL_law_1102 : decode cL_law 1102 = .ok (.iconst 1, 1) := by decide +kernel
theorem dL_law_1103 : decode cL_law 1103 = .ok (.iadd, 1) := by decide +kernel
theorem dL_law_1104 : decode cL_law 1104 = .ok (.iaload, 1) := by decide +kernel
theorem dL_law_1105 : decode cL_law 1105 = .ok (.invokevirtual 128, 3) := by decide +kernel
theorem dL_law_1108 : decode cL_law 1108 = .ok (.if_icmp .eq 385, 3) := by decide +kernel
theorem dL_law_1111 : decode cL_law 1111 = .ok (.iconst 0, 1) := by decide +kernel
theorem dL_law_1112 : decode cL_law 1112 = .ok (.ireturn, 1) := by decide +kernel
theorem dL_law_1113 : decode cL_law 1113 = .ok (.aload_n 1, 1) := by decide +kernel
theorem dL_law_1114 : decode cL_law 1114 = .ok (.aload_n 0, 1) := by decide +kernel
theorem dL_law_1115 : decode cL_law 1115 = .ok (.iload_n 3, 1) := by decide +kernel
theorem dL_law_1116 : decode cL_law 1116 = .ok (.iconst 1, 1) := by decide +kernel
theorem dL_law_1117 : decode cL_law 1117 = .ok (.iadd, 1) := by decide +kernel
theorem dL_law_1118 : decode cL_law 1118 = .ok (.iaload, 1) := by decide +kernel
theorem dL_law_1119 : decode cL_law 1119 = .ok (.aload_n 0, 1) := by decide +kernel
theorem dL_law_1120 : decode cL_law 1120 = .ok (.iload_n 3, 1) := by decide +kernel
theorem dL_law_1121 : decode cL_law 1121 = .ok (.iconst 2, 1) := by decide +kernel
theorem dL_law_1122 : decode cL_law 1122 = .ok (.iadd, 1) := by decide +kernel
theorem dL_law_1123 : decode cL_law 1123 = .ok (.iaload, 1) := by decide +kernel
theorem dL_law_1124 : decode cL_law 1124 = .ok (.invokevirtual 129, 3) := by decide +kernel
theorem dL_law_1127 : decode cL_law 1127 = .ok (.aload_n 2, 1) := by decide +kernel
theorem dL_law_1128 : decode cL_law 1128 = .ok (.aload_n 0, 1) := by decide +kernel
theorem dL_law_1129 : decode cL_law 1129 = .ok (.iload_n 3, 1) := by decide +kernel
theorem dL_law_1130 : decode cL_law 1130 = .ok (.iconst 1, 1) := by decide +kernel
theorem dL_law_1131 : decode cL_law 1131 = .ok (.iadd, 1) := by decide +kernel
theorem dL_law_1132 : decode cL_law 1132 = .ok (.iaload, 1) := by decide +kernel
theorem dL_law_1133 : decode cL_law 1133 = .ok (.aload_n 0, 1) := by decide +kernel
theorem dL_law_1134 : decode cL_law 1134 = .ok (.iload_n 3, 1) := by decide +kernel
theorem dL_law_1135 : decode cL_law 1135 = .ok (.iconst 2, 1) := by decide +kernel
theorem dL_law_1136 : decode cL_law 1136 = .ok (.iadd, 1) := by decide +kernel
theorem dL_law_1137 : decode cL_law 1137 = .ok (.iaload, 1) := by decide +kernel
theorem dL_law_1138 : decode cL_law 1138 = .ok (.invokevirtual 132, 3) := by decide +kernel
theorem dL_law_1141 : decode cL_law 1141 = .ok (.if_icmp .eq 352, 3) := by decide +kernel
theorem dL_law_1144 : decode cL_law 1144 = .ok (.iconst 0, 1) := by decide +kernel
theorem dL_law_1145 : decode cL_law 1145 = .ok (.ireturn, 1) := by decide +kernel
theorem dL_law_1146 : decode cL_law 1146 = .ok (.aload_n 1, 1) := by decide +kernel
theorem dL_law_1147 : decode cL_law 1147 = .ok (.aload_n 0, 1) := by decide +kernel
theorem dL_law_1148 : decode cL_law 1148 = .ok (.iload_n 3, 1) := by decide +kernel
theorem dL_law_1149 : decode cL_law 1149 = .ok (.iconst 1, 1) := by decide +kernel
theorem dL_law_1150 : decode cL_law 1150 = .ok (.iadd, 1) := by decide +kernel
theorem dL_law_1151 : decode cL_law 1151 = .ok (.iaload, 1) := by decide +kernel
theorem dL_law_1152 : decode cL_law 1152 = .ok (.aload_n 0, 1) := by decide +kernel
theorem dL_law_1153 : decode cL_law 1153 = .ok (.iload_n 3, 1) := by decide +kernel
theorem dL_law_1154 : decode cL_law 1154 = .ok (.iconst 2, 1) := by decide +kernel
theorem dL_law_1155 : decode cL_law 1155 = .ok (.iadd, 1) := by decide +kernel
theorem dL_law_1156 : decode cL_law 1156 = .ok (.iaload, 1) := by decide +kernel
theorem dL_law_1157 : decode cL_law 1157 = .ok (.invokevirtual 133, 3) := by decide +kernel
theorem dL_law_1160 : decode cL_law 1160 = .ok (.aload_n 2, 1) := by decide +kernel
theorem dL_law_1161 : decode cL_law 1161 = .ok (.aload_n 0, 1) := by decide +kernel
theorem dL_law_1162 : decode cL_law 1162 = .ok (.iload_n 3, 1) := by decide +kernel
theorem dL_law_1163 : decode cL_law 1163 = .ok (.iconst 1, 1) := by decide +kernel
theorem dL_law_1164 : decode cL_law 1164 = .ok (.iadd, 1) := by decide +kernel
theorem dL_law_1165 : decode cL_law 1165 = .ok (.iaload, 1) := by decide +kernel
theorem dL_law_1166 : decode cL_law 1166 = .ok (.aload_n 0, 1) := by decide +kernel
theorem dL_law_1167 : decode cL_law 1167 = .ok (.iload_n 3, 1) := by decide +kernel
theorem dL_law_1168 : decode cL_law 1168 = .ok (.iconst 2, 1) := by decide +kernel
theorem dL_law_1169 : decode cL_law 1169 = .ok (.iadd, 1) := by decide +kernel
theorem dL_law_1170 : decode cL_law 1170 = .ok (.iaload, 1) := by decide +kernel
theorem dL_law_1171 : decode cL_law 1171 = .ok (.invokevirtual 136, 3) := by decide +kernel
theorem dL_law_1174 : decode cL_law 1174 = .ok (.if_icmp .eq 319, 3) := by decide +kernel
theorem dL_law_1177 : decode cL_law 1177 = .ok (.iconst 0, 1) := by decide +kernel
theorem dL_law_1178 : decode cL_law 1178 = .ok (.ireturn, 1) := by decide +kernel
theorem dL_law_1179 : decode cL_law 1179 = .ok (.aload_n 1, 1) := by decide +kernel
theorem dL_law_1180 : decode cL_law 1180 = .ok (.aload_n 0, 1) := by decide +kernel
theorem dL_law_1181 : decode cL_law 1181 = .ok (.iload_n 3, 1) := by decide +kernel
theorem dL_law_1182 : decode cL_law 1182 = .ok (.iconst 1, 1) := by decide +kernel
theorem dL_law_1183 : decode cL_law 1183 = .ok (.iadd, 1) := by decide +kernel
theorem dL_law_1184 : decode cL_law 1184 = .ok (.iaload, 1) := by decide +kernel
theorem dL_law_1185 : decode cL_law 1185 = .ok (.invokevirtual 137, 3) := by decide +kernel
theorem dL_law_1188 : decode cL_law 1188 = .ok (.aload_n 2, 1) := by decide +kernel
theorem dL_law_1189 : decode cL_law 1189 = .ok (.aload_n 0, 1) := by decide +kernel
theorem dL_law_1190 : decode cL_law 1190 = .ok (.iload_n 3, 1) := by decide +kernel
theorem dL_law_1191 : decode cL_law 1191 = .ok (.iconst 1, 1) := by decide +kernel
theorem dL_law_1192 : decode cL_law 1192 = .ok (.iadd, 1) := by decide +kernel
theorem dL_law_1193 : decode cL_law 1193 = .ok (.iaload, 1) := by decide +kernel
theorem dL_law_1194 : decode cL_law 1194 = .ok (.invokevirtual 140, 3) := by decide +kernel
theorem dL_law_1197 : decode cL_law 1197 = .ok (.if_icmp .eq 296, 3) := by decide +kernel
theorem dL_law_1200 : decode cL_law 1200 = .ok (.iconst 0, 1) := by decide +kernel
theorem dL_law_1201 : decode cL_law 1201 = .ok (.ireturn, 1) := by decide +kernel
theorem dL_law_1202 : decode cL_law 1202 = .ok (.aload_n 1, 1) := by decide +kernel
theorem dL_law_1203 : decode cL_law 1203 = .ok (.invokevirtual 141, 3) := by decide +kernel
theorem dL_law_1206 : decode cL_law 1206 = .ok (.aload_n 2, 1) := by decide +kernel
theorem dL_law_1207 : decode cL_law 1207 = .ok (.invokevirtual 145, 3) := by decide +kernel
theorem dL_law_1210 : decode cL_law 1210 = .ok (.if_icmp .eq 283, 3) := by decide +kernel
theorem dL_law_1213 : decode cL_law 1213 = .ok (.iconst 0, 1) := by decide +kernel
theorem dL_law_1214 : decode cL_law 1214 = .ok (.ireturn, 1) := by decide +kernel
theorem dL_law_1215 : decode cL_law 1215 = .ok (.aload_n 1, 1) := by decide +kernel
theorem dL_law_1216 : decode cL_law 1216 = .ok (.aload_n 0, 1) := by decide +kernel
theorem dL_law_1217 : decode cL_law 1217 = .ok (.iload_n 3, 1) := by decide +kernel
theorem dL_law_1218 : decode cL_law 1218 = .ok (.iconst 1, 1) := by decide +kernel
theorem dL_law_1219 : decode cL_law 1219 = .ok (.iadd, 1) := by decide +kernel
theorem dL_law_1220 : decode cL_law 1220 = .ok (.iaload, 1) := by decide +kernel
theorem dL_law_1221 : decode cL_law 1221 = .ok (.invokevirtual 146, 3) := by decide +kernel
theorem dL_law_1224 : decode cL_law 1224 = .ok (.aload_n 2, 1) := by decide +kernel
theorem dL_law_1225 : decode cL_law 1225 = .ok (.aload_n 0, 1) := by decide +kernel
theorem dL_law_1226 : decode cL_law 1226 = .ok (.iload_n 3, 1) := by decide +kernel
theorem dL_law_1227 : decode cL_law 1227 = .ok (.iconst 1, 1) := by decide +kernel
theorem dL_law_1228 : decode cL_law 1228 = .ok (.iadd, 1) := by decide +kernel
theorem dL_law_1229 : decode cL_law 1229 = .ok (.iaload, 1) := by decide +kernel
theorem dL_law_1230 : decode cL_law 1230 = .ok (.invokevirtual 149, 3) := by decide +kernel
theorem dL_law_1233 : decode cL_law 1233 = .ok (.if_icmp .eq 260, 3) := by decide +kernel
theorem dL_law_1236 : decode cL_law 1236 = .ok (.iconst 0, 1) := by decide +kernel
theorem dL_law_1237 : decode cL_law 1237 = .ok (.ireturn, 1) := by decide +kernel
theorem dL_law_1238 : decode cL_law 1238 = .ok (.aload_n 1, 1) := by decide +kernel
theorem dL_law_1239 : decode cL_law 1239 = .ok (.aload_n 0, 1) := by decide +kernel
theorem dL_law_1240 : decode cL_law 1240 = .ok (.iload_n 3, 1) := by decide +kernel
theorem dL_law_1241 : decode cL_law 1241 = .ok (.iconst 1, 1) := by decide +kernel
theorem dL_law_1242 : decode cL_law 1242 = .ok (.iadd, 1) := by decide +kernel
theorem dL_law_1243 : decode cL_law 1243 = .ok (.iaload, 1) := by decide +kernel
theorem dL_law_1244 : decode cL_law 1244 = .ok (.aload_n 0, 1) := by decide +kernel
theorem dL_law_1245 : decode cL_law 1245 = .ok (.iload_n 3, 1) := by decide +kernel
theorem dL_law_1246 : decode cL_law 1246 = .ok (.iconst 2, 1) := by decide +kernel
theorem dL_law_1247 : decode cL_law 1247 = .ok (.iadd, 1) := by decide +kernel
theorem dL_law_1248 : decode cL_law 1248 = .ok (.iaload, 1) := by decide +kernel
theorem dL_law_1249 : decode cL_law 1249 = .ok (.invokevirtual 150, 3) := by decide +kernel
theorem dL_law_1252 : decode cL_law 1252 = .ok (.aload_n 2, 1) := by decide +kernel
theorem dL_law_1253 : decode cL_law 1253 = .ok (.aload_n 0, 1) := by decide +kernel
theorem dL_law_1254 : decode cL_law 1254 = .ok (.iload_n 3, 1) := by decide +kernel
theorem dL_law_1255 : decode cL_law 1255 = .ok (.iconst 1, 1) := by decide +kernel
theorem dL_law_1256 : decode cL_law 1256 = .ok (.iadd, 1) := by decide +kernel
theorem dL_law_1257 : decode cL_law 1257 = .ok (.iaload, 1) := by decide +kernel
theorem dL_law_1258 : decode cL_law 1258 = .ok (.aload_n 0, 1) := by decide +kernel
theorem dL_law_1259 : decode cL_law 1259 = .ok (.iload_n 3, 1) := by decide +kernel
theorem dL_law_1260 : decode cL_law 1260 = .ok (.iconst 2, 1) := by decide +kernel
theorem dL_law_1261 : decode cL_law 1261 = .ok (.iadd, 1) := by decide +kernel
theorem dL_law_1262 : decode cL_law 1262 = .ok (.iaload, 1) := by decide +kernel
theorem dL_law_1263 : decode cL_law 1263 = .ok (.invokevirtual 153, 3) := by decide +kernel
theorem dL_law_1266 : decode cL_law 1266 = .ok (.if_icmp .eq 227, 3) := by decide +kernel
theorem dL_law_1269 : decode cL_law 1269 = .ok (.iconst 0, 1) := by decide +kernel
theorem dL_law_1270 : decode cL_law 1270 = .ok (.ireturn, 1) := by decide +kernel
theorem dL_law_1271 : decode cL_law 1271 = .ok (.aload_n 1, 1) := by decide +kernel
theorem dL_law_1272 : decode cL_law 1272 = .ok (.aload_n 0, 1) := by decide +kernel
theorem dL_law_1273 : decode cL_law 1273 = .ok (.iload_n 3, 1) := by decide +kernel
theorem dL_law_1274 : decode cL_law 1274 = .ok (.iconst 1, 1) := by decide +kernel
theorem dL_law_1275 : decode cL_law 1275 = .ok (.iadd, 1) := by decide +kernel
theorem dL_law_1276 : decode cL_law 1276 = .ok (.iaload, 1) := by decide +kernel
theorem dL_law_1277 : decode cL_law 1277 = .ok (.aload_n 0, 1) := by decide +kernel
theorem dL_law_1278 : decode cL_law 1278 = .ok (.iload_n 3, 1) := by decide +kernel
theorem dL_law_1279 : decode cL_law 1279 = .ok (.iconst 2, 1) := by decide +kernel
theorem dL_law_1280 : decode cL_law 1280 = .ok (.iadd, 1) := by decide +kernel
theorem dL_law_1281 : decode cL_law 1281 = .ok (.iaload, 1) := by decide +kernel
theorem dL_law_1282 : decode cL_law 1282 = .ok (.aload_n 0, 1) := by decide +kernel
theorem dL_law_1283 : decode cL_law 1283 = .ok (.iload_n 3, 1) := by decide +kernel
theorem dL_law_1284 : decode cL_law 1284 = .ok (.iconst 3, 1) := by decide +kernel
theorem dL_law_1285 : decode cL_law 1285 = .ok (.iadd, 1) := by decide +kernel
theorem dL_law_1286 : decode cL_law 1286 = .ok (.iaload, 1) := by decide +kernel
theorem dL_law_1287 : decode cL_law 1287 = .ok (.i2l, 1) := by decide +kernel
theorem dL_law_1288 : decode cL_law 1288 = .ok (.bipush 32, 2) := by decide +kernel
theorem dL_law_1290 : decode cL_law 1290 = .ok (.lshl, 1) := by decide +kernel
theorem dL_law_1291 : decode cL_law 1291 = .ok (.aload_n 0, 1) := by decide +kernel
theorem dL_law_1292 : decode cL_law 1292 = .ok (.iload_n 3, 1) := by decide +kernel
theorem dL_law_1293 : decode cL_law 1293 = .ok (.iconst 4, 1) := by decide +kernel
theorem dL_law_1294 : decode cL_law 1294 = .ok (.iadd, 1) := by decide +kernel
theorem dL_law_1295 : decode cL_law 1295 = .ok (.iaload, 1) := by decide +kernel
theorem dL_law_1296 : decode cL_law 1296 = .ok (.i2l, 1) := by decide +kernel
theorem dL_law_1297 : decode cL_law 1297 = .ok (.ldc2_w 77, 3) := by decide +kernel
theorem dL_law_1300 : decode cL_law 1300 = .ok (.land, 1) := by decide +kernel
theorem dL_law_1301 : decode cL_law 1301 = .ok (.lor, 1) := by decide +kernel
theorem dL_law_1302 : decode cL_law 1302 = .ok (.invokevirtual 154, 3) := by decide +kernel
theorem dL_law_1305 : decode cL_law 1305 = .ok (.aload_n 2, 1) := by decide +kernel
theorem dL_law_1306 : decode cL_law 1306 = .ok (.aload_n 0, 1) := by decide +kernel
theorem dL_law_1307 : decode cL_law 1307 = .ok (.iload_n 3, 1) := by decide +kernel
theorem dL_law_1308 : decode cL_law 1308 = .ok (.iconst 1, 1) := by decide +kernel
theorem dL_law_1309 : decode cL_law 1309 = .ok (.iadd, 1) := by decide +kernel
theorem dL_law_1310 : decode cL_law 1310 = .ok (.iaload, 1) := by decide +kernel
theorem dL_law_1311 : decode cL_law 1311 = .ok (.aload_n 0, 1) := by decide +kernel
theorem dL_law_1312 : decode cL_law 1312 = .ok (.iload_n 3, 1) := by decide +kernel
theorem dL_law_1313 : decode cL_law 1313 = .ok (.iconst 2, 1) := by decide +kernel
theorem dL_law_1314 : decode cL_law 1314 = .ok (.iadd, 1) := by decide +kernel
theorem dL_law_1315 : decode cL_law 1315 = .ok (.iaload, 1) := by decide +kernel
theorem dL_law_1316 : decode cL_law 1316 = .ok (.aload_n 0, 1) := by decide +kernel
theorem dL_law_1317 : decode cL_law 1317 = .ok (.iload_n 3, 1) := by decide +kernel
theorem dL_law_1318 : decode cL_law 1318 = .ok (.iconst 3, 1) := by decide +kernel
theorem dL_law_1319 : decode cL_law 1319 = .ok (.iadd, 1) := by decide +kernel
theorem dL_law_1320 : decode cL_law 1320 = .ok (.iaload, 1) := by decide +kernel
theorem dL_law_1321 : decode cL_law 1321 = .ok (.i2l, 1) := by decide +kernel
theorem dL_law_1322 : decode cL_law 1322 = .ok (.bipush 32, 2) := by decide +kernel
theorem dL_law_1324 : decode cL_law 1324 = .ok (.lshl, 1) := by decide +kernel
theorem dL_law_1325 : decode cL_law 1325 = .ok (.aload_n 0, 1) := by decide +kernel
theorem dL_law_1326 : decode cL_law 1326 = .ok (.iload_n 3, 1) := by decide +kernel
theorem dL_law_1327 : decode cL_law 1327 = .ok (.iconst 4, 1) := by decide +kernel
theorem dL_law_1328 : decode cL_law 1328 = .ok (.iadd, 1) := by decide +kernel
theorem dL_law_1329 : decode cL_law 1329 = .ok (.iaload, 1) := by decide +kernel
theorem dL_law_1330 : decode cL_law 1330 = .ok (.i2l, 1) := by decide +kernel
theorem dL_law_1331 : decode cL_law 1331 = .ok (.ldc2_w 77, 3) := by decide +kernel
theorem dL_law_1334 : decode cL_law 1334 = .ok (.land, 1) := by decide +kernel
theorem dL_law_1335 : decode cL_law 1335 = .ok (.lor, 1) := by decide +kernel
theorem dL_law_1336 : decode cL_law 1336 = .ok (.invokevirtual 157, 3) := by decide +kernel
theorem dL_law_1339 : decode cL_law 1339 = .ok (.if_icmp .eq 154, 3) := by decide +kernel
theorem dL_law_1342 : decode cL_law 1342 = .ok (.iconst 0, 1) := by decide +kernel
theorem dL_law_1343 : decode cL_law 1343 = .ok (.ireturn, 1) := by decide +kernel
theorem dL_law_1344 : decode cL_law 1344 = .ok (.aload_n 1, 1) := by decide +kernel
theorem dL_law_1345 : decode cL_law 1345 = .ok (.aload_n 0, 1) := by decide +kernel
theorem dL_law_1346 : decode cL_law 1346 = .ok (.iload_n 3, 1) := by decide +kernel
theorem dL_law_1347 : decode cL_law 1347 = .ok (.iconst 1, 1) := by decide +kernel
theorem dL_law_1348 : decode cL_law 1348 = .ok (.iadd, 1) := by decide +kernel
theorem dL_law_1349 : decode cL_law 1349 = .ok (.iaload, 1) := by decide +kernel
theorem dL_law_1350 : decode cL_law 1350 = .ok (.aload_n 0, 1) := by decide +kernel
theorem dL_law_1351 : decode cL_law 1351 = .ok (.iload_n 3, 1) := by decide +kernel
theorem dL_law_1352 : decode cL_law 1352 = .ok (.iconst 2, 1) := by decide +kernel
theorem dL_law_1353 : decode cL_law 1353 = .ok (.iadd, 1) := by decide +kernel
theorem dL_law_1354 : decode cL_law 1354 = .ok (.iaload, 1) := by decide +kernel
theorem dL_law_1355 : decode cL_law 1355 = .ok (.invokevirtual 158, 3) := by decide +kernel
theorem dL_law_1358 : decode cL_law 1358 = .ok (.aload_n 2, 1) := by decide +kernel
theorem dL_law_1359 : decode cL_law 1359 = .ok (.aload_n 0, 1) := by decide +kernel
theorem dL_law_1360 : decode cL_law 1360 = .ok (.iload_n 3, 1) := by decide +kernel
theorem dL_law_1361 : decode cL_law 1361 = .ok (.iconst 1, 1) := by decide +kernel
theorem dL_law_1362 : decode cL_law 1362 = .ok (.iadd, 1) := by decide +kernel
theorem dL_law_1363 : decode cL_law 1363 = .ok (.iaload, 1) := by decide +kernel
theorem dL_law_1364 : decode cL_law 1364 = .ok (.aload_n 0, 1) := by decide +kernel
theorem dL_law_1365 : decode cL_law 1365 = .ok (.iload_n 3, 1) := by decide +kernel
theorem dL_law_1366 : decode cL_law 1366 = .ok (.iconst 2, 1) := by decide +kernel
theorem dL_law_1367 : decode cL_law 1367 = .ok (.iadd, 1) := by decide +kernel
theorem dL_law_1368 : decode cL_law 1368 = .ok (.iaload, 1) := by decide +kernel
theorem dL_law_1369 : decode cL_law 1369 = .ok (.invokevirtual 161, 3) := by decide +kernel
theorem dL_law_1372 : decode cL_law 1372 = .ok (.lcmp, 1) := by decide +kernel
theorem dL_law_1373 : decode cL_law 1373 = .ok (.ifCond .eq 120, 3) := by decide +kernel
theorem dL_law_1376 : decode cL_law 1376 = .ok (.iconst 0, 1) := by decide +kernel
theorem dL_law_1377 : decode cL_law 1377 = .ok (.ireturn, 1) := by decide +kernel
theorem dL_law_1378 : decode cL_law 1378 = .ok (.aload_n 1, 1) := by decide +kernel
theorem dL_law_1379 : decode cL_law 1379 = .ok (.aload_n 0, 1) := by decide +kernel
theorem dL_law_1380 : decode cL_law 1380 = .ok (.iload_n 3, 1) := by decide +kernel
theorem dL_law_1381 : decode cL_law 1381 = .ok (.iconst 1, 1) := by decide +kernel
theorem dL_law_1382 : decode cL_law 1382 = .ok (.iadd, 1) := by decide +kernel
theorem dL_law_1383 : decode cL_law 1383 = .ok (.iaload, 1) := by decide +kernel
theorem dL_law_1384 : decode cL_law 1384 = .ok (.aload_n 0, 1) := by decide +kernel
theorem dL_law_1385 : decode cL_law 1385 = .ok (.iload_n 3, 1) := by decide +kernel
theorem dL_law_1386 : decode cL_law 1386 = .ok (.iconst 2, 1) := by decide +kernel
theorem dL_law_1387 : decode cL_law 1387 = .ok (.iadd, 1) := by decide +kernel
theorem dL_law_1388 : decode cL_law 1388 = .ok (.iaload, 1) := by decide +kernel
theorem dL_law_1389 : decode cL_law 1389 = .ok (.invokevirtual 162, 3) := by decide +kernel
theorem dL_law_1392 : decode cL_law 1392 = .ok (.aload_n 2, 1) := by decide +kernel
theorem dL_law_1393 : decode cL_law 1393 = .ok (.aload_n 0, 1) := by decide +kernel
theorem dL_law_1394 : decode cL_law 1394 = .ok (.iload_n 3, 1) := by decide +kernel
theorem dL_law_1395 : decode cL_law 1395 = .ok (.iconst 1, 1) := by decide +kernel
theorem dL_law_1396 : decode cL_law 1396 = .ok (.iadd, 1) := by decide +kernel
theorem dL_law_1397 : decode cL_law 1397 = .ok (.iaload, 1) := by decide +kernel
theorem dL_law_1398 : decode cL_law 1398 = .ok (.aload_n 0, 1) := by decide +kernel
theorem dL_law_1399 : decode cL_law 1399 = .ok (.iload_n 3, 1) := by decide +kernel
theorem dL_law_1400 : decode cL_law 1400 = .ok (.iconst 2, 1) := by decide +kernel
theorem dL_law_1401 : decode cL_law 1401 = .ok (.iadd, 1) := by decide +kernel
theorem dL_law_1402 : decode cL_law 1402 = .ok (.iaload, 1) := by decide +kernel
theorem dL_law_1403 : decode cL_law 1403 = .ok (.invokevirtual 165, 3) := by decide +kernel
theorem dL_law_1406 : decode cL_law 1406 = .ok (.if_icmp .eq 87, 3) := by decide +kernel
theorem dL_law_1409 : decode cL_law 1409 = .ok (.iconst 0, 1) := by decide +kernel
theorem dL_law_1410 : decode cL_law 1410 = .ok (.ireturn, 1) := by decide +kernel
theorem dL_law_1411 : decode cL_law 1411 = .ok (.aload_n 1, 1) := by decide +kernel
theorem dL_law_1412 : decode cL_law 1412 = .ok (.aload_n 0, 1) := by decide +kernel
theorem dL_law_1413 : decode cL_law 1413 = .ok (.iload_n 3, 1) := by decide +kernel
theorem dL_law_1414 : decode cL_law 1414 = .ok (.iconst 1, 1) := by decide +kernel
theorem dL_law_1415 : decode cL_law 1415 = .ok (.iadd, 1) := by decide +kernel
theorem dL_law_1416 : decode cL_law 1416 = .ok (.iaload, 1) := by decide +kernel
theorem dL_law_1417 : decode cL_law 1417 = .ok (.aload_n 0, 1) := by decide +kernel
theorem dL_law_1418 : decode cL_law 1418 = .ok (.iload_n 3, 1) := by decide +kernel
theorem dL_law_1419 : decode cL_law 1419 = .ok (.iconst 2, 1) := by decide +kernel
theorem dL_law_1420 : decode cL_law 1420 = .ok (.iadd, 1) := by decide +kernel
theorem dL_law_1421 : decode cL_law 1421 = .ok (.iaload, 1) := by decide +kernel
theorem dL_law_1422 : decode cL_law 1422 = .ok (.invokevirtual 166, 3) := by decide +kernel
theorem dL_law_1425 : decode cL_law 1425 = .ok (.aload_n 2, 1) := by decide +kernel
theorem dL_law_1426 : decode cL_law 1426 = .ok (.aload_n 0, 1) := by decide +kernel
theorem dL_law_1427 : decode cL_law 1427 = .ok (.iload_n 3, 1) := by decide +kernel
theorem dL_law_1428 : decode cL_law 1428 = .ok (.iconst 1, 1) := by decide +kernel
theorem dL_law_1429 : decode cL_law 1429 = .ok (.iadd, 1) := by decide +kernel
theorem dL_law_1430 : decode cL_law 1430 = .ok (.iaload, 1) := by decide +kernel
theorem dL_law_1431 : decode cL_law 1431 = .ok (.aload_n 0, 1) := by decide +kernel
theorem dL_law_1432 : decode cL_law 1432 = .ok (.iload_n 3, 1) := by decide +kernel
theorem dL_law_1433 : decode cL_law 1433 = .ok (.iconst 2, 1) := by decide +kernel
theorem dL_law_1434 : decode cL_law 1434 = .ok (.iadd, 1) := by decide +kernel
theorem dL_law_1435 : decode cL_law 1435 = .ok (.iaload, 1) := by decide +kernel
theorem dL_law_1436 : decode cL_law 1436 = .ok (.invokevirtual 169, 3) := by decide +kernel
theorem dL_law_1439 : decode cL_law 1439 = .ok (.if_icmp .eq 54, 3) := by decide +kernel
theorem dL_law_1442 : decode cL_law 1442 = .ok (.iconst 0, 1) := by decide +kernel
theorem dL_law_1443 : decode cL_law 1443 = .ok (.ireturn, 1) := by decide +kernel
theorem dL_law_1444 : decode cL_law 1444 = .ok (.aload_n 1, 1) := by decide +kernel
theorem dL_law_1445 : decode cL_law 1445 = .ok (.invokevirtual 170, 3) := by decide +kernel
theorem dL_law_1448 : decode cL_law 1448 = .ok (.aload_n 2, 1) := by decide +kernel
theorem dL_law_1449 : decode cL_law 1449 = .ok (.invokevirtual 173, 3) := by decide +kernel
theorem dL_law_1452 : decode cL_law 1452 = .ok (.if_icmp .eq 41, 3) := by decide +kernel
theorem dL_law_1455 : decode cL_law 1455 = .ok (.iconst 0, 1) := by decide +kernel
theorem dL_law_1456 : decode cL_law 1456 = .ok (.ireturn, 1) := by decide +kernel
theorem dL_law_1457 : decode cL_law 1457 = .ok (.aload_n 1, 1) := by decide +kernel
theorem dL_law_1458 : decode cL_law 1458 = .ok (.invokevirtual 174, 3) := by decide +kernel
theorem dL_law_1461 : decode cL_law 1461 = .ok (.aload_n 2, 1) := by decide +kernel
theorem dL_law_1462 : decode cL_law 1462 = .ok (.invokevirtual 177, 3) := by decide +kernel
theorem dL_law_1465 : decode cL_law 1465 = .ok (.if_icmp .eq 28, 3) := by decide +kernel
theorem dL_law_1468 : decode cL_law 1468 = .ok (.iconst 0, 1) := by decide +kernel
theorem dL_law_1469 : decode cL_law 1469 = .ok (.ireturn, 1) := by decide +kernel
theorem dL_law_1470 : decode cL_law 1470 = .ok (.aload_n 1, 1) := by decide +kernel
theorem dL_law_1471 : decode cL_law 1471 = .ok (.aload_n 0, 1) := by decide +kernel
theorem dL_law_1472 : decode cL_law 1472 = .ok (.iload_n 3, 1) := by decide +kernel
theorem dL_law_1473 : decode cL_law 1473 = .ok (.iconst 1, 1) := by decide +kernel
theorem dL_law_1474 : decode cL_law 1474 = .ok (.iadd, 1) := by decide +kernel
theorem dL_law_1475 : decode cL_law 1475 = .ok (.iaload, 1) := by decide +kernel
theorem dL_law_1476 : decode cL_law 1476 = .ok (.invokevirtual 178, 3) := by decide +kernel
theorem dL_law_1479 : decode cL_law 1479 = .ok (.aload_n 2, 1) := by decide +kernel
theorem dL_law_1480 : decode cL_law 1480 = .ok (.aload_n 0, 1) := by decide +kernel
theorem dL_law_1481 : decode cL_law 1481 = .ok (.iload_n 3, 1) := by decide +kernel
theorem dL_law_1482 : decode cL_law 1482 = .ok (.iconst 1, 1) := by decide +kernel
theorem dL_law_1483 : decode cL_law 1483 = .ok (.iadd, 1) := by decide +kernel
theorem dL_law_1484 : decode cL_law 1484 = .ok (.iaload, 1) := by decide +kernel
theorem dL_law_1485 : decode cL_law 1485 = .ok (.invokevirtual 181, 3) := by decide +kernel
theorem dL_law_1488 : decode cL_law 1488 = .ok (.if_icmp .eq 5, 3) := by decide +kernel
theorem dL_law_1491 : decode cL_law 1491 = .ok (.iconst 0, 1) := by decide +kernel
theorem dL_law_1492 : decode cL_law 1492 = .ok (.ireturn, 1) := by decide +kernel
theorem dL_law_1493 : decode cL_law 1493 = .ok (.iinc 3 5, 3) := by decide +kernel
theorem dL_law_1496 : decode cL_law 1496 = .ok (.goto (-1478), 3) := by decide +kernel
theorem dL_law_1499 : decode cL_law 1499 = .ok (.iconst 1, 1) := by decide +kernel
theorem dL_law_1500 : decode cL_law 1500 = .ok (.ireturn, 1) := by decide +kernel
section LW
variable {p : Program} {l : Launch} {e : Env} {s : State} {m : MethodId} {below : List Frame} {meth : Method} {c : Code} {b L : Nat} {xs : Nat → Int32} {G : GG} {A : Nat → Prop} {q q2 : Nat → Nat}
abbrev lwW (p : Program) (l : Launch) (e : Env) (s : State) (m : MethodId) (below : List Frame) (meth : Method) (c : Code) (b : Nat) (H : Heap) (locs : List Loc) (g : JFrame) : Prop := W p l e room_1 s m #[Value.ref b] below meth c H locs 600000 7302250 (lw_Z below #[Value.ref b] s) g
def LwN (p : Program) (l : Launch) (e : Env) (s : State) (m : MethodId) (below : List Frame) (meth : Method) (c : Code) (b n : Nat) (G : GG) (A : Nat → Prop) (q q2 : Nat → Nat) : Prop := ∀ (zp : Int32) (ze : Int32) (zf : Int32) (zg : Int32) (zn : Int32) (aG : Nat → Int32) (aW : Nat → Int32) (aR : Nat → Int32) (aN : Nat → Int32) (aF : Nat → Int32) (lC : Nat → Int64) (lS : Nat → Int64) (lP : Nat → Int64) (lX : Nat → Int64) (ztc : Int32) (aTs : Nat → Int32) (aTn : Nat → Int32) (zoc : Int32) (aOs : Nat → Int32) (aOn : Nat → Int32) (aTp : Nat → Int32) (zln : Int32) (zpl : Int32) (zfa : Int32) (aSz : Nat → Int32) (zit : Int32) (zip : Int32) (zic : Int32) (zig : Int32) (M : Nat → Nat → Int64) (yp : Int32) (ye : Int32) (yg : Int32) (bPo : Nat → Int32) (bTb : Nat → Int32) (wSh : Nat → Int64) (wTe : Nat → Int64) (wNx : Nat → Int64) (bOs : Nat → Int32) (bOn : Nat → Int32) (yop : Int32) (bSo : Nat → Int32) (bNu : Nat → Int32) (ytr : Int32) (yiw : Int32) (wMa : Nat → Int64) (wPr : Nat → Int64) (bTp : Nat → Int32) (yln : Int32) (ypl : Int32) (yfa : Int32) (wLi : Nat → Int64) (bSi : Nat → Int32) (yhp : Int32) (yhe : Int32) (yhg : Int32) (wHs : Nat → Int64) (yhi : Int32), Rel zp ze zf zg zn aG aW aR aN aF lC lS lP lX ztc aTs aTn zoc aOs aOn aTp zln zpl zfa aSz zit zip zic zig M yp ye yg bPo bTb wSh wTe wNx bOs bOn yop bSo bNu ytr yiw wMa wPr bTp yln ypl yfa wLi bSi yhp yhe yhg wHs yhi → ∀ (H : Heap) (locs : List Loc) (ls : Array Slot), Wd G s A (kW G q zp ze zf zg zn aG aW aR aN aF lC lS lP lX ++ (oW G q ztc aTs aTn zoc aOs aOn aTp zln zpl zfa aSz zit zip zic zig M ++ (mW G q2 yp ye yg bPo bTb wSh wTe wNx bOs bOn yop bSo bNu ytr yiw wMa wPr bTp yln ypl yfa wLi bSi yhp yhe yhg wHs yhi ++ []))) H locs → lv_has ls 4 [(0, .ref b), (1, .ref (q 21)), (2, .ref (q2 0)), (3, .int (nI n))] → lwW p l e s m below meth c b H locs (F0 m 1493 ls [])
set_option maxHeartbeats 4000000 in
set_option maxRecDepth 100000 in
theorem law_c0 (F : Fx p s m #[Value.ref b] meth c code 4 R_law ret) (hX : va_X b L xs s s.heap) (hbl : b < s.heap.size) (hbA : ¬ A b) (hA : ∀ x, s.heap.size ≤ x → A x) {n : Nat} (hn : n + 5 ≤ L) (hL : L ≤ 2560) {zp : Int32} {ze : Int32} {zf : Int32} {zg : Int32} {zn : Int32} {aG : Nat → Int32} {aW : Nat → Int32} {aR : Nat → Int32} {aN : Nat → Int32} {aF : Nat → Int32} {lC : Nat → Int64} {lS : Nat → Int64} {lP : Nat → Int64} {lX : Nat → Int64} {ztc : Int32} {aTs : Nat → Int32} {aTn : Nat → Int32} {zoc : Int32} {aOs : Nat → Int32} {aOn : Nat → Int32} {aTp : Nat → Int32} {zln : Int32} {zpl : Int32} {zfa : Int32} {aSz : Nat → Int32} {zit : Int32} {zip : Int32} {zic : Int32} {zig : Int32} {M : Nat → Nat → Int64} {yp : Int32} {ye : Int32} {yg : Int32} {bPo : Nat → Int32} {bTb : Nat → Int32} {wSh : Nat → Int64} {wTe : Nat → Int64} {wNx : Nat → Int64} {bOs : Nat → Int32} {bOn : Nat → Int32} {yop : Int32} {bSo : Nat → Int32} {bNu : Nat → Int32} {ytr : Int32} {yiw : Int32} {wMa : Nat → Int64} {wPr : Nat → Int64} {bTp : Nat → Int32} {yln : Int32} {ypl : Int32} {yfa : Int32} {wLi : Nat → Int64} {bSi : Nat → Int32} {yhp : Int32} {yhe : Int32} {yhg : Int32} {wHs : Nat → Int64} {yhi : Int32} (hR : Rel zp ze zf zg zn aG aW aR aN aF lC lS lP lX ztc aTs aTn zoc aOs aOn aTp zln zpl zfa aSz zit zip zic zig M yp ye yg bPo bTb wSh wTe wNx bOs bOn yop bSo bNu ytr yiw wMa wPr bTp yln ypl yfa wLi bSi yhp yhe yhg wHs yhi) (hN : LwN p l e s m below meth c b n G A q q2) {H : Heap} {locs : List Loc} {ls : Array Slot} (hw : Wd G s A (kW G q zp ze zf zg zn aG aW aR aN aF lC lS lP lX ++ (oW G q ztc aTs aTn zoc aOs aOn aTp zln zpl zfa aSz zit zip zic zig M ++ (mW G q2 yp ye yg bPo bTb wSh wTe wNx bOs bOn yop bSo bNu ytr yiw wMa wPr bTp yln ypl yfa wLi bSi yhp yhe yhg wHs yhi ++ []))) H locs) (hl : lv_has ls 4 [(0, .ref b), (1, .ref (q 21)), (2, .ref (q2 0)), (3, .int (nI n))]) : lwW p l e s m below meth c b H locs (F0 m 208 ls []) := by
  have hx := F.x
  have hb := F.b
  have hi1 : vp_in (nI n + 1) L := by rw [show nI n + 1 = nI (n + 1) from nI_add n 1]; exact vp_in_nI (by omega) (by omega)
  have hi2 : vp_in (nI n + 2) L := by rw [show nI n + 2 = nI (n + 2) from nI_add n 2]; exact vp_in_nI (by omega) (by omega)
  obtain ⟨z1, z2, e1, e2, he, hR2⟩ := op_field hR ((xs (nI n + 1).toNatClampNeg)) ((xs (nI n + 2).toNatClampNeg))
  refine lv_aload_n hx hb dL_law_208 rfl (lv_at hl 1 rfl) ?_
  refine lv_aload_n hx hb dL_law_209 rfl (lv_at hl 0 rfl) ?_
  refine lv_iload_n hx hb dL_law_210 rfl (lv_at hl 3 rfl) ?_
  refine lv_iconst (v := 1) hx hb dL_law_211 (by decide) ?_
  refine lv_iadd hx hb dL_law_212 ?_
  refine va_sld hx hb hX hbl hbA hw.2.2.2 hi1 dL_law_213 ?_
  refine lv_aload_n hx hb dL_law_214 rfl (lv_at hl 0 rfl) ?_
  refine lv_iload_n hx hb dL_law_215 rfl (lv_at hl 3 rfl) ?_
  refine lv_iconst (v := 2) hx hb dL_law_216 (by decide) ?_
  refine lv_iadd hx hb dL_law_217 ?_
  refine va_sld hx hb hX hbl hbA hw.2.2.2 hi2 dL_law_218 ?_
  refine ctL (av := [.int ((xs (nI n + 1).toNatClampNeg)), .int ((xs (nI n + 2).toNatClampNeg))]) (st0 := ([] : List Value)) (st1 := ([.int z1.1] : List Value)) F hw hA (k_X4_field e1) kl_L_13 kd_X4_field rfl ⟨by decide, by decide⟩ ⟨by decide, by decide⟩ 21 rfl rfl hl.1 rfl (Nat.le_of_ble_eq_true rfl) dL_law_219 rfl (fun H locs hw => ?_)
  refine lv_aload_n hx hb dL_law_222 rfl (lv_at hl 2 rfl) ?_
  refine lv_aload_n hx hb dL_law_223 rfl (lv_at hl 0 rfl) ?_
  refine lv_iload_n hx hb dL_law_224 rfl (lv_at hl 3 rfl) ?_
  refine lv_iconst (v := 1) hx hb dL_law_225 (by decide) ?_
  refine lv_iadd hx hb dL_law_226 ?_
  refine va_sld hx hb hX hbl hbA hw.2.2.2 hi1 dL_law_227 ?_
  refine lv_aload_n hx hb dL_law_228 rfl (lv_at hl 0 rfl) ?_
  refine lv_iload_n hx hb dL_law_229 rfl (lv_at hl 3 rfl) ?_
  refine lv_iconst (v := 2) hx hb dL_law_230 (by decide) ?_
  refine lv_iadd hx hb dL_law_231 ?_
  refine va_sld hx hb hX hbl hbA hw.2.2.2 hi2 dL_law_232 ?_
  refine ctL (av := [.int ((xs (nI n + 1).toNatClampNeg)), .int ((xs (nI n + 2).toNatClampNeg))]) (st0 := ([.int z1.1] : List Value)) (st1 := ([.int z2.1, .int z1.1] : List Value)) F hw.sw hA (k_X5_field e2) kl_L_17 kd_X5_field rfl ⟨by decide, by decide⟩ ⟨by decide, by decide⟩ 0 rfl rfl hl.1 rfl (Nat.le_of_ble_eq_true rfl) dL_law_233 rfl (fun H locs hw => ?_)
  replace hw := hw.ws
  exact lv_icmp_eq (tgt := 1493) hx hb dL_law_236 (by decide) (fun _ => hN _ _ _ _ _ _ _ _ _ _ _ _ _ _ _ _ _ _ _ _ _ _ _ _ _ _ _ _ _ _ _ _ _ _ _ _ _ _ _ _ _ _ _ _ _ _ _ _ _ _ _ _ _ _ _ _ _ _ hR2 H locs ls hw hl) (fun q => absurd he q)
set_option maxHeartbeats 4000000 in
set_option maxRecDepth 100000 in
theorem law_c1 (F : Fx p s m #[Value.ref b] meth c code 4 R_law ret) (hX : va_X b L xs s s.heap) (hbl : b < s.heap.size) (hbA : ¬ A b) (hA : ∀ x, s.heap.size ≤ x → A x) {n : Nat} (hn : n + 5 ≤ L) (hL : L ≤ 2560) {zp : Int32} {ze : Int32} {zf : Int32} {zg : Int32} {zn : Int32} {aG : Nat → Int32} {aW : Nat → Int32} {aR : Nat → Int32} {aN : Nat → Int32} {aF : Nat → Int32} {lC : Nat → Int64} {lS : Nat → Int64} {lP : Nat → Int64} {lX : Nat → Int64} {ztc : Int32} {aTs : Nat → Int32} {aTn : Nat → Int32} {zoc : Int32} {aOs : Nat → Int32} {aOn : Nat → Int32} {aTp : Nat → Int32} {zln : Int32} {zpl : Int32} {zfa : Int32} {aSz : Nat → Int32} {zit : Int32} {zip : Int32} {zic : Int32} {zig : Int32} {M : Nat → Nat → Int64} {yp : Int32} {ye : Int32} {yg : Int32} {bPo : Nat → Int32} {bTb : Nat → Int32} {wSh : Nat → Int64} {wTe : Nat → Int64} {wNx : Nat → Int64} {bOs : Nat → Int32} {bOn : Nat → Int32} {yop : Int32} {bSo : Nat → Int32} {bNu : Nat → Int32} {ytr : Int32} {yiw : Int32} {wMa : Nat → Int64} {wPr : Nat → Int64} {bTp : Nat → Int32} {yln : Int32} {ypl : Int32} {yfa : Int32} {wLi : Nat → Int64} {bSi : Nat → Int32} {yhp : Int32} {yhe : Int32} {yhg : Int32} {wHs : Nat → Int64} {yhi : Int32} (hR : Rel zp ze zf zg zn aG aW aR aN aF lC lS lP lX ztc aTs aTn zoc aOs aOn aTp zln zpl zfa aSz zit zip zic zig M yp ye yg bPo bTb wSh wTe wNx bOs bOn yop bSo bNu ytr yiw wMa wPr bTp yln ypl yfa wLi bSi yhp yhe yhg wHs yhi) (hN : LwN p l e s m below meth c b n G A q q2) {H : Heap} {locs : List Loc} {ls : Array Slot} (hw : Wd G s A (kW G q zp ze zf zg zn aG aW aR aN aF lC lS lP lX ++ (oW G q ztc aTs aTn zoc aOs aOn aTp zln zpl zfa aSz zit zip zic zig M ++ (mW G q2 yp ye yg bPo bTb wSh wTe wNx bOs bOn yop bSo bNu ytr yiw wMa wPr bTp yln ypl yfa wLi bSi yhp yhe yhg wHs yhi ++ []))) H locs) (hl : lv_has ls 4 [(0, .ref b), (1, .ref (q 21)), (2, .ref (q2 0)), (3, .int (nI n))]) : lwW p l e s m below meth c b H locs (F0 m 241 ls []) := by
  have hx := F.x
  have hb := F.b
  have hi1 : vp_in (nI n + 1) L := by rw [show nI n + 1 = nI (n + 1) from nI_add n 1]; exact vp_in_nI (by omega) (by omega)
  obtain ⟨z1, z2, e1, e2, he, hR2⟩ := op_told hR ((xs (nI n + 1).toNatClampNeg))
  refine lv_aload_n hx hb dL_law_241 rfl (lv_at hl 1 rfl) ?_
  refine lv_aload_n hx hb dL_law_242 rfl (lv_at hl 0 rfl) ?_
  refine lv_iload_n hx hb dL_law_243 rfl (lv_at hl 3 rfl) ?_
  refine lv_iconst (v := 1) hx hb dL_law_244 (by decide) ?_
  refine lv_iadd hx hb dL_law_245 ?_
  refine va_sld hx hb hX hbl hbA hw.2.2.2 hi1 dL_law_246 ?_
  refine ctL (av := [.int ((xs (nI n + 1).toNatClampNeg))]) (st0 := ([] : List Value)) (st1 := ([.int z1] : List Value)) F hw hA (k_X4_told e1) kl_L_18 kd_X4_told rfl ⟨by decide, by decide⟩ ⟨by decide, by decide⟩ 21 rfl rfl hl.1 rfl (Nat.le_of_ble_eq_true rfl) dL_law_247 rfl (fun H locs hw => ?_)
  refine lv_aload_n hx hb dL_law_250 rfl (lv_at hl 2 rfl) ?_
  refine lv_aload_n hx hb dL_law_251 rfl (lv_at hl 0 rfl) ?_
  refine lv_iload_n hx hb dL_law_252 rfl (lv_at hl 3 rfl) ?_
  refine lv_iconst (v := 1) hx hb dL_law_253 (by decide) ?_
  refine lv_iadd hx hb dL_law_254 ?_
  refine va_sld hx hb hX hbl hbA hw.2.2.2 hi1 dL_law_255 ?_
  refine ctL (av := [.int ((xs (nI n + 1).toNatClampNeg))]) (st0 := ([.int z1] : List Value)) (st1 := ([.int z2, .int z1] : List Value)) F hw.sw hA (k_X5_told e2) kl_L_22 kd_X5_told rfl ⟨by decide, by decide⟩ ⟨by decide, by decide⟩ 0 rfl rfl hl.1 rfl (Nat.le_of_ble_eq_true rfl) dL_law_256 rfl (fun H locs hw => ?_)
  replace hw := hw.ws
  exact lv_icmp_eq (tgt := 1493) hx hb dL_law_259 (by decide) (fun _ => hN _ _ _ _ _ _ _ _ _ _ _ _ _ _ _ _ _ _ _ _ _ _ _ _ _ _ _ _ _ _ _ _ _ _ _ _ _ _ _ _ _ _ _ _ _ _ _ _ _ _ _ _ _ _ _ _ _ _ hR2 H locs ls hw hl) (fun q => absurd he q)
set_option maxHeartbeats 4000000 in
set_option maxRecDepth 100000 in
theorem law_c2 (F : Fx p s m #[Value.ref b] meth c code 4 R_law ret) (hX : va_X b L xs s s.heap) (hbl : b < s.heap.size) (hbA : ¬ A b) (hA : ∀ x, s.heap.size ≤ x → A x) {n : Nat} (hn : n + 5 ≤ L) (hL : L ≤ 2560) {zp : Int32} {ze : Int32} {zf : Int32} {zg : Int32} {zn : Int32} {aG : Nat → Int32} {aW : Nat → Int32} {aR : Nat → Int32} {aN : Nat → Int32} {aF : Nat → Int32} {lC : Nat → Int64} {lS : Nat → Int64} {lP : Nat → Int64} {lX : Nat → Int64} {ztc : Int32} {aTs : Nat → Int32} {aTn : Nat → Int32} {zoc : Int32} {aOs : Nat → Int32} {aOn : Nat → Int32} {aTp : Nat → Int32} {zln : Int32} {zpl : Int32} {zfa : Int32} {aSz : Nat → Int32} {zit : Int32} {zip : Int32} {zic : Int32} {zig : Int32} {M : Nat → Nat → Int64} {yp : Int32} {ye : Int32} {yg : Int32} {bPo : Nat → Int32} {bTb : Nat → Int32} {wSh : Nat → Int64} {wTe : Nat → Int64} {wNx : Nat → Int64} {bOs : Nat → Int32} {bOn : Nat → Int32} {yop : Int32} {bSo : Nat → Int32} {bNu : Nat → Int32} {ytr : Int32} {yiw : Int32} {wMa : Nat → Int64} {wPr : Nat → Int64} {bTp : Nat → Int32} {yln : Int32} {ypl : Int32} {yfa : Int32} {wLi : Nat → Int64} {bSi : Nat → Int32} {yhp : Int32} {yhe : Int32} {yhg : Int32} {wHs : Nat → Int64} {yhi : Int32} (hR : Rel zp ze zf zg zn aG aW aR aN aF lC lS lP lX ztc aTs aTn zoc aOs aOn aTp zln zpl zfa aSz zit zip zic zig M yp ye yg bPo bTb wSh wTe wNx bOs bOn yop bSo bNu ytr yiw wMa wPr bTp yln ypl yfa wLi bSi yhp yhe yhg wHs yhi) (hN : LwN p l e s m below meth c b n G A q q2) {H : Heap} {locs : List Loc} {ls : Array Slot} (hw : Wd G s A (kW G q zp ze zf zg zn aG aW aR aN aF lC lS lP lX ++ (oW G q ztc aTs aTn zoc aOs aOn aTp zln zpl zfa aSz zit zip zic zig M ++ (mW G q2 yp ye yg bPo bTb wSh wTe wNx bOs bOn yop bSo bNu ytr yiw wMa wPr bTp yln ypl yfa wLi bSi yhp yhe yhg wHs yhi ++ []))) H locs) (hl : lv_has ls 4 [(0, .ref b), (1, .ref (q 21)), (2, .ref (q2 0)), (3, .int (nI n))]) : lwW p l e s m below meth c b H locs (F0 m 264 ls []) := by
  have hx := F.x
  have hb := F.b
  have hi1 : vp_in (nI n + 1) L := by rw [show nI n + 1 = nI (n + 1) from nI_add n 1]; exact vp_in_nI (by omega) (by omega)
  obtain ⟨z1, z2, e1, e2, he, hR2⟩ := op_generator hR ((xs (nI n + 1).toNatClampNeg))
  refine lv_aload_n hx hb dL_law_264 rfl (lv_at hl 1 rfl) ?_
  refine lv_aload_n hx hb dL_law_265 rfl (lv_at hl 0 rfl) ?_
  refine lv_iload_n hx hb dL_law_266 rfl (lv_at hl 3 rfl) ?_
  refine lv_iconst (v := 1) hx hb dL_law_267 (by decide) ?_
  refine lv_iadd hx hb dL_law_268 ?_
  refine va_sld hx hb hX hbl hbA hw.2.2.2 hi1 dL_law_269 ?_
  refine ctL (av := [.int ((xs (nI n + 1).toNatClampNeg))]) (st0 := ([] : List Value)) (st1 := ([.int z1] : List Value)) F hw hA (k_X4_generator e1) kl_L_23 kd_X4_generator rfl ⟨by decide, by decide⟩ ⟨by decide, by decide⟩ 21 rfl rfl hl.1 rfl (Nat.le_of_ble_eq_true rfl) dL_law_270 rfl (fun H locs hw => ?_)
  refine lv_aload_n hx hb dL_law_273 rfl (lv_at hl 2 rfl) ?_
  refine lv_aload_n hx hb dL_law_274 rfl (lv_at hl 0 rfl) ?_
  refine lv_iload_n hx hb dL_law_275 rfl (lv_at hl 3 rfl) ?_
  refine lv_iconst (v := 1) hx hb dL_law_276 (by decide) ?_
  refine lv_iadd hx hb dL_law_277 ?_
  refine va_sld hx hb hX hbl hbA hw.2.2.2 hi1 dL_law_278 ?_
  refine ctL (av := [.int ((xs (nI n + 1).toNatClampNeg))]) (st0 := ([.int z1] : List Value)) (st1 := ([.int z2, .int z1] : List Value)) F hw.sw hA (k_X5_generator e2) kl_L_26 kd_X5_generator rfl ⟨by decide, by decide⟩ ⟨by decide, by decide⟩ 0 rfl rfl hl.1 rfl (Nat.le_of_ble_eq_true rfl) dL_law_279 rfl (fun H locs hw => ?_)
  replace hw := hw.ws
  exact lv_icmp_eq (tgt := 1493) hx hb dL_law_282 (by decide) (fun _ => hN _ _ _ _ _ _ _ _ _ _ _ _ _ _ _ _ _ _ _ _ _ _ _ _ _ _ _ _ _ _ _ _ _ _ _ _ _ _ _ _ _ _ _ _ _ _ _ _ _ _ _ _ _ _ _ _ _ _ hR2 H locs ls hw hl) (fun q => absurd he q)
set_option maxHeartbeats 4000000 in
set_option maxRecDepth 100000 in
theorem law_c3 (F : Fx p s m #[Value.ref b] meth c code 4 R_law ret) (hX : va_X b L xs s s.heap) (hbl : b < s.heap.size) (hbA : ¬ A b) (hA : ∀ x, s.heap.size ≤ x → A x) {n : Nat} (hn : n + 5 ≤ L) (hL : L ≤ 2560) {zp : Int32} {ze : Int32} {zf : Int32} {zg : Int32} {zn : Int32} {aG : Nat → Int32} {aW : Nat → Int32} {aR : Nat → Int32} {aN : Nat → Int32} {aF : Nat → Int32} {lC : Nat → Int64} {lS : Nat → Int64} {lP : Nat → Int64} {lX : Nat → Int64} {ztc : Int32} {aTs : Nat → Int32} {aTn : Nat → Int32} {zoc : Int32} {aOs : Nat → Int32} {aOn : Nat → Int32} {aTp : Nat → Int32} {zln : Int32} {zpl : Int32} {zfa : Int32} {aSz : Nat → Int32} {zit : Int32} {zip : Int32} {zic : Int32} {zig : Int32} {M : Nat → Nat → Int64} {yp : Int32} {ye : Int32} {yg : Int32} {bPo : Nat → Int32} {bTb : Nat → Int32} {wSh : Nat → Int64} {wTe : Nat → Int64} {wNx : Nat → Int64} {bOs : Nat → Int32} {bOn : Nat → Int32} {yop : Int32} {bSo : Nat → Int32} {bNu : Nat → Int32} {ytr : Int32} {yiw : Int32} {wMa : Nat → Int64} {wPr : Nat → Int64} {bTp : Nat → Int32} {yln : Int32} {ypl : Int32} {yfa : Int32} {wLi : Nat → Int64} {bSi : Nat → Int32} {yhp : Int32} {yhe : Int32} {yhg : Int32} {wHs : Nat → Int64} {yhi : Int32} (hR : Rel zp ze zf zg zn aG aW aR aN aF lC lS lP lX ztc aTs aTn zoc aOs aOn aTp zln zpl zfa aSz zit zip zic zig M yp ye yg bPo bTb wSh wTe wNx bOs bOn yop bSo bNu ytr yiw wMa wPr bTp yln ypl yfa wLi bSi yhp yhe yhg wHs yhi) (hN : LwN p l e s m below meth c b n G A q q2) {H : Heap} {locs : List Loc} {ls : Array Slot} (hw : Wd G s A (kW G q zp ze zf zg zn aG aW aR aN aF lC lS lP lX ++ (oW G q ztc aTs aTn zoc aOs aOn aTp zln zpl zfa aSz zit zip zic zig M ++ (mW G q2 yp ye yg bPo bTb wSh wTe wNx bOs bOn yop bSo bNu ytr yiw wMa wPr bTp yln ypl yfa wLi bSi yhp yhe yhg wHs yhi ++ []))) H locs) (hl : lv_has ls 4 [(0, .ref b), (1, .ref (q 21)), (2, .ref (q2 0)), (3, .int (nI n))]) : lwW p l e s m below meth c b H locs (F0 m 287 ls []) := by
  have hx := F.x
  have hb := F.b
  have hi1 : vp_in (nI n + 1) L := by rw [show nI n + 1 = nI (n + 1) from nI_add n 1]; exact vp_in_nI (by omega) (by omega)
  obtain ⟨z1, z2, e1, e2, he, hR2⟩ := op_use hR ((xs (nI n + 1).toNatClampNeg))
  refine lv_aload_n hx hb dL_law_287 rfl (lv_at hl 1 rfl) ?_
  refine lv_aload_n hx hb dL_law_288 rfl (lv_at hl 0 rfl) ?_
  refine lv_iload_n hx hb dL_law_289 rfl (lv_at hl 3 rfl) ?_
  refine lv_iconst (v := 1) hx hb dL_law_290 (by decide) ?_
  refine lv_iadd hx hb dL_law_291 ?_
  refine va_sld hx hb hX hbl hbA hw.2.2.2 hi1 dL_law_292 ?_
  refine ctL (av := [.int ((xs (nI n + 1).toNatClampNeg))]) (st0 := ([] : List Value)) (st1 := ([.int z1.1] : List Value)) F hw hA (k_X4_use e1) kl_L_27 kd_X4_use rfl ⟨by decide, by decide⟩ ⟨by decide, by decide⟩ 21 rfl rfl hl.1 rfl (Nat.le_of_ble_eq_true rfl) dL_law_293 rfl (fun H locs hw => ?_)
  refine lv_aload_n hx hb dL_law_296 rfl (lv_at hl 2 rfl) ?_
  refine lv_aload_n hx hb dL_law_297 rfl (lv_at hl 0 rfl) ?_
  refine lv_iload_n hx hb dL_law_298 rfl (lv_at hl 3 rfl) ?_
  refine lv_iconst (v := 1) hx hb dL_law_299 (by decide) ?_
  refine lv_iadd hx hb dL_law_300 ?_
  refine va_sld hx hb hX hbl hbA hw.2.2.2 hi1 dL_law_301 ?_
  refine ctL (av := [.int ((xs (nI n + 1).toNatClampNeg))]) (st0 := ([.int z1.1] : List Value)) (st1 := ([.int z2.1, .int z1.1] : List Value)) F hw.sw hA (k_X5_use e2) kl_L_30 kd_X5_use rfl ⟨by decide, by decide⟩ ⟨by decide, by decide⟩ 0 rfl rfl hl.1 rfl (Nat.le_of_ble_eq_true rfl) dL_law_302 rfl (fun H locs hw => ?_)
  replace hw := hw.ws
  exact lv_icmp_eq (tgt := 1493) hx hb dL_law_305 (by decide) (fun _ => hN _ _ _ _ _ _ _ _ _ _ _ _ _ _ _ _ _ _ _ _ _ _ _ _ _ _ _ _ _ _ _ _ _ _ _ _ _ _ _ _ _ _ _ _ _ _ _ _ _ _ _ _ _ _ _ _ _ _ hR2 H locs ls hw hl) (fun q => absurd he q)
set_option maxHeartbeats 4000000 in
set_option maxRecDepth 100000 in
theorem law_c4 (F : Fx p s m #[Value.ref b] meth c code 4 R_law ret) (hX : va_X b L xs s s.heap) (hbl : b < s.heap.size) (hbA : ¬ A b) (hA : ∀ x, s.heap.size ≤ x → A x) {n : Nat} (hn : n + 5 ≤ L) (hL : L ≤ 2560) {zp : Int32} {ze : Int32} {zf : Int32} {zg : Int32} {zn : Int32} {aG : Nat → Int32} {aW : Nat → Int32} {aR : Nat → Int32} {aN : Nat → Int32} {aF : Nat → Int32} {lC : Nat → Int64} {lS : Nat → Int64} {lP : Nat → Int64} {lX : Nat → Int64} {ztc : Int32} {aTs : Nat → Int32} {aTn : Nat → Int32} {zoc : Int32} {aOs : Nat → Int32} {aOn : Nat → Int32} {aTp : Nat → Int32} {zln : Int32} {zpl : Int32} {zfa : Int32} {aSz : Nat → Int32} {zit : Int32} {zip : Int32} {zic : Int32} {zig : Int32} {M : Nat → Nat → Int64} {yp : Int32} {ye : Int32} {yg : Int32} {bPo : Nat → Int32} {bTb : Nat → Int32} {wSh : Nat → Int64} {wTe : Nat → Int64} {wNx : Nat → Int64} {bOs : Nat → Int32} {bOn : Nat → Int32} {yop : Int32} {bSo : Nat → Int32} {bNu : Nat → Int32} {ytr : Int32} {yiw : Int32} {wMa : Nat → Int64} {wPr : Nat → Int64} {bTp : Nat → Int32} {yln : Int32} {ypl : Int32} {yfa : Int32} {wLi : Nat → Int64} {bSi : Nat → Int32} {yhp : Int32} {yhe : Int32} {yhg : Int32} {wHs : Nat → Int64} {yhi : Int32} (hR : Rel zp ze zf zg zn aG aW aR aN aF lC lS lP lX ztc aTs aTn zoc aOs aOn aTp zln zpl zfa aSz zit zip zic zig M yp ye yg bPo bTb wSh wTe wNx bOs bOn yop bSo bNu ytr yiw wMa wPr bTp yln ypl yfa wLi bSi yhp yhe yhg wHs yhi) (hN : LwN p l e s m below meth c b n G A q q2) {H : Heap} {locs : List Loc} {ls : Array Slot} (hw : Wd G s A (kW G q zp ze zf zg zn aG aW aR aN aF lC lS lP lX ++ (oW G q ztc aTs aTn zoc aOs aOn aTp zln zpl zfa aSz zit zip zic zig M ++ (mW G q2 yp ye yg bPo bTb wSh wTe wNx bOs bOn yop bSo bNu ytr yiw wMa wPr bTp yln ypl yfa wLi bSi yhp yhe yhg wHs yhi ++ []))) H locs) (hl : lv_has ls 4 [(0, .ref b), (1, .ref (q 21)), (2, .ref (q2 0)), (3, .int (nI n))]) : lwW p l e s m below meth c b H locs (F0 m 310 ls []) := by
  have hx := F.x
  have hb := F.b
  have hi1 : vp_in (nI n + 1) L := by rw [show nI n + 1 = nI (n + 1) from nI_add n 1]; exact vp_in_nI (by omega) (by omega)
  obtain ⟨z1, z2, e1, e2, he, hR2⟩ := op_power hR ((xs (nI n + 1).toNatClampNeg))
  refine lv_aload_n hx hb dL_law_310 rfl (lv_at hl 1 rfl) ?_
  refine lv_aload_n hx hb dL_law_311 rfl (lv_at hl 0 rfl) ?_
  refine lv_iload_n hx hb dL_law_312 rfl (lv_at hl 3 rfl) ?_
  refine lv_iconst (v := 1) hx hb dL_law_313 (by decide) ?_
  refine lv_iadd hx hb dL_law_314 ?_
  refine va_sld hx hb hX hbl hbA hw.2.2.2 hi1 dL_law_315 ?_
  refine ctL (av := [.int ((xs (nI n + 1).toNatClampNeg))]) (st0 := ([] : List Value)) (st1 := ([.int z1] : List Value)) F hw hA (k_X4_power e1) kl_L_31 kd_X4_power rfl ⟨by decide, by decide⟩ ⟨by decide, by decide⟩ 21 rfl rfl hl.1 rfl (Nat.le_of_ble_eq_true rfl) dL_law_316 rfl (fun H locs hw => ?_)
  refine lv_aload_n hx hb dL_law_319 rfl (lv_at hl 2 rfl) ?_
  refine lv_aload_n hx hb dL_law_320 rfl (lv_at hl 0 rfl) ?_
  refine lv_iload_n hx hb dL_law_321 rfl (lv_at hl 3 rfl) ?_
  refine lv_iconst (v := 1) hx hb dL_law_322 (by decide) ?_
  refine lv_iadd hx hb dL_law_323 ?_
  refine va_sld hx hb hX hbl hbA hw.2.2.2 hi1 dL_law_324 ?_
  refine ctL (av := [.int ((xs (nI n + 1).toNatClampNeg))]) (st0 := ([.int z1] : List Value)) (st1 := ([.int z2, .int z1] : List Value)) F hw.sw hA (k_X5_power e2) kl_L_34 kd_X5_power rfl ⟨by decide, by decide⟩ ⟨by decide, by decide⟩ 0 rfl rfl hl.1 rfl (Nat.le_of_ble_eq_true rfl) dL_law_325 rfl (fun H locs hw => ?_)
  replace hw := hw.ws
  exact lv_icmp_eq (tgt := 1493) hx hb dL_law_328 (by decide) (fun _ => hN _ _ _ _ _ _ _ _ _ _ _ _ _ _ _ _ _ _ _ _ _ _ _ _ _ _ _ _ _ _ _ _ _ _ _ _ _ _ _ _ _ _ _ _ _ _ _ _ _ _ _ _ _ _ _ _ _ _ hR2 H locs ls hw hl) (fun q => absurd he q)
set_option maxHeartbeats 4000000 in
set_option maxRecDepth 100000 in
theorem law_c5 (F : Fx p s m #[Value.ref b] meth c code 4 R_law ret) (hX : va_X b L xs s s.heap) (hbl : b < s.heap.size) (hbA : ¬ A b) (hA : ∀ x, s.heap.size ≤ x → A x) {n : Nat} (hn : n + 5 ≤ L) (hL : L ≤ 2560) {zp : Int32} {ze : Int32} {zf : Int32} {zg : Int32} {zn : Int32} {aG : Nat → Int32} {aW : Nat → Int32} {aR : Nat → Int32} {aN : Nat → Int32} {aF : Nat → Int32} {lC : Nat → Int64} {lS : Nat → Int64} {lP : Nat → Int64} {lX : Nat → Int64} {ztc : Int32} {aTs : Nat → Int32} {aTn : Nat → Int32} {zoc : Int32} {aOs : Nat → Int32} {aOn : Nat → Int32} {aTp : Nat → Int32} {zln : Int32} {zpl : Int32} {zfa : Int32} {aSz : Nat → Int32} {zit : Int32} {zip : Int32} {zic : Int32} {zig : Int32} {M : Nat → Nat → Int64} {yp : Int32} {ye : Int32} {yg : Int32} {bPo : Nat → Int32} {bTb : Nat → Int32} {wSh : Nat → Int64} {wTe : Nat → Int64} {wNx : Nat → Int64} {bOs : Nat → Int32} {bOn : Nat → Int32} {yop : Int32} {bSo : Nat → Int32} {bNu : Nat → Int32} {ytr : Int32} {yiw : Int32} {wMa : Nat → Int64} {wPr : Nat → Int64} {bTp : Nat → Int32} {yln : Int32} {ypl : Int32} {yfa : Int32} {wLi : Nat → Int64} {bSi : Nat → Int32} {yhp : Int32} {yhe : Int32} {yhg : Int32} {wHs : Nat → Int64} {yhi : Int32} (hR : Rel zp ze zf zg zn aG aW aR aN aF lC lS lP lX ztc aTs aTn zoc aOs aOn aTp zln zpl zfa aSz zit zip zic zig M yp ye yg bPo bTb wSh wTe wNx bOs bOn yop bSo bNu ytr yiw wMa wPr bTp yln ypl yfa wLi bSi yhp yhe yhg wHs yhi) (hN : LwN p l e s m below meth c b n G A q q2) {H : Heap} {locs : List Loc} {ls : Array Slot} (hw : Wd G s A (kW G q zp ze zf zg zn aG aW aR aN aF lC lS lP lX ++ (oW G q ztc aTs aTn zoc aOs aOn aTp zln zpl zfa aSz zit zip zic zig M ++ (mW G q2 yp ye yg bPo bTb wSh wTe wNx bOs bOn yop bSo bNu ytr yiw wMa wPr bTp yln ypl yfa wLi bSi yhp yhe yhg wHs yhi ++ []))) H locs) (hl : lv_has ls 4 [(0, .ref b), (1, .ref (q 21)), (2, .ref (q2 0)), (3, .int (nI n))]) : lwW p l e s m below meth c b H locs (F0 m 333 ls []) := by
  have hx := F.x
  have hb := F.b
  have hi1 : vp_in (nI n + 1) L := by rw [show nI n + 1 = nI (n + 1) from nI_add n 1]; exact vp_in_nI (by omega) (by omega)
  obtain ⟨z1, z2, e1, e2, he, hR2⟩ := op_classOf hR ((xs (nI n + 1).toNatClampNeg))
  refine lv_aload_n hx hb dL_law_333 rfl (lv_at hl 1 rfl) ?_
  refine lv_aload_n hx hb dL_law_334 rfl (lv_at hl 0 rfl) ?_
  refine lv_iload_n hx hb dL_law_335 rfl (lv_at hl 3 rfl) ?_
  refine lv_iconst (v := 1) hx hb dL_law_336 (by decide) ?_
  refine lv_iadd hx hb dL_law_337 ?_
  refine va_sld hx hb hX hbl hbA hw.2.2.2 hi1 dL_law_338 ?_
  refine ctL (av := [.int ((xs (nI n + 1).toNatClampNeg))]) (st0 := ([] : List Value)) (st1 := ([.int z1] : List Value)) F hw hA (k_X4_classOf e1) kl_L_35 kd_X4_classOf rfl ⟨by decide, by decide⟩ ⟨by decide, by decide⟩ 21 rfl rfl hl.1 rfl (Nat.le_of_ble_eq_true rfl) dL_law_339 rfl (fun H locs hw => ?_)
  refine lv_aload_n hx hb dL_law_342 rfl (lv_at hl 2 rfl) ?_
  refine lv_aload_n hx hb dL_law_343 rfl (lv_at hl 0 rfl) ?_
  refine lv_iload_n hx hb dL_law_344 rfl (lv_at hl 3 rfl) ?_
  refine lv_iconst (v := 1) hx hb dL_law_345 (by decide) ?_
  refine lv_iadd hx hb dL_law_346 ?_
  refine va_sld hx hb hX hbl hbA hw.2.2.2 hi1 dL_law_347 ?_
  refine ctL (av := [.int ((xs (nI n + 1).toNatClampNeg))]) (st0 := ([.int z1] : List Value)) (st1 := ([.int z2, .int z1] : List Value)) F hw.sw hA (k_X5_classOf e2) kl_L_38 kd_X5_classOf rfl ⟨by decide, by decide⟩ ⟨by decide, by decide⟩ 0 rfl rfl hl.1 rfl (Nat.le_of_ble_eq_true rfl) dL_law_348 rfl (fun H locs hw => ?_)
  replace hw := hw.ws
  exact lv_icmp_eq (tgt := 1493) hx hb dL_law_351 (by decide) (fun _ => hN _ _ _ _ _ _ _ _ _ _ _ _ _ _ _ _ _ _ _ _ _ _ _ _ _ _ _ _ _ _ _ _ _ _ _ _ _ _ _ _ _ _ _ _ _ _ _ _ _ _ _ _ _ _ _ _ _ _ hR2 H locs ls hw hl) (fun q => absurd he q)
set_option maxHeartbeats 4000000 in
set_option maxRecDepth 100000 in
theorem law_c6 (F : Fx p s m #[Value.ref b] meth c code 4 R_law ret) (hX : va_X b L xs s s.heap) (hbl : b < s.heap.size) (hbA : ¬ A b) (hA : ∀ x, s.heap.size ≤ x → A x) {n : Nat} (hn : n + 5 ≤ L) (hL : L ≤ 2560) {zp : Int32} {ze : Int32} {zf : Int32} {zg : Int32} {zn : Int32} {aG : Nat → Int32} {aW : Nat → Int32} {aR : Nat → Int32} {aN : Nat → Int32} {aF : Nat → Int32} {lC : Nat → Int64} {lS : Nat → Int64} {lP : Nat → Int64} {lX : Nat → Int64} {ztc : Int32} {aTs : Nat → Int32} {aTn : Nat → Int32} {zoc : Int32} {aOs : Nat → Int32} {aOn : Nat → Int32} {aTp : Nat → Int32} {zln : Int32} {zpl : Int32} {zfa : Int32} {aSz : Nat → Int32} {zit : Int32} {zip : Int32} {zic : Int32} {zig : Int32} {M : Nat → Nat → Int64} {yp : Int32} {ye : Int32} {yg : Int32} {bPo : Nat → Int32} {bTb : Nat → Int32} {wSh : Nat → Int64} {wTe : Nat → Int64} {wNx : Nat → Int64} {bOs : Nat → Int32} {bOn : Nat → Int32} {yop : Int32} {bSo : Nat → Int32} {bNu : Nat → Int32} {ytr : Int32} {yiw : Int32} {wMa : Nat → Int64} {wPr : Nat → Int64} {bTp : Nat → Int32} {yln : Int32} {ypl : Int32} {yfa : Int32} {wLi : Nat → Int64} {bSi : Nat → Int32} {yhp : Int32} {yhe : Int32} {yhg : Int32} {wHs : Nat → Int64} {yhi : Int32} (hR : Rel zp ze zf zg zn aG aW aR aN aF lC lS lP lX ztc aTs aTn zoc aOs aOn aTp zln zpl zfa aSz zit zip zic zig M yp ye yg bPo bTb wSh wTe wNx bOs bOn yop bSo bNu ytr yiw wMa wPr bTp yln ypl yfa wLi bSi yhp yhe yhg wHs yhi) (hN : LwN p l e s m below meth c b n G A q q2) {H : Heap} {locs : List Loc} {ls : Array Slot} (hw : Wd G s A (kW G q zp ze zf zg zn aG aW aR aN aF lC lS lP lX ++ (oW G q ztc aTs aTn zoc aOs aOn aTp zln zpl zfa aSz zit zip zic zig M ++ (mW G q2 yp ye yg bPo bTb wSh wTe wNx bOs bOn yop bSo bNu ytr yiw wMa wPr bTp yln ypl yfa wLi bSi yhp yhe yhg wHs yhi ++ []))) H locs) (hl : lv_has ls 4 [(0, .ref b), (1, .ref (q 21)), (2, .ref (q2 0)), (3, .int (nI n))]) : lwW p l e s m below meth c b H locs (F0 m 356 ls []) := by
  have hx := F.x
  have hb := F.b
  have hi1 : vp_in (nI n + 1) L := by rw [show nI n + 1 = nI (n + 1) from nI_add n 1]; exact vp_in_nI (by omega) (by omega)
  have hi2 : vp_in (nI n + 2) L := by rw [show nI n + 2 = nI (n + 2) from nI_add n 2]; exact vp_in_nI (by omega) (by omega)
  obtain ⟨z1, z2, e1, e2, he, hR2⟩ := op_member hR ((xs (nI n + 1).toNatClampNeg)) ((xs (nI n + 2).toNatClampNeg))
  refine lv_aload_n hx hb dL_law_356 rfl (lv_at hl 1 rfl) ?_
  refine lv_aload_n hx hb dL_law_357 rfl (lv_at hl 0 rfl) ?_
  refine lv_iload_n hx hb dL_law_358 rfl (lv_at hl 3 rfl) ?_
  refine lv_iconst (v := 1) hx hb dL_law_359 (by decide) ?_
  refine lv_iadd hx hb dL_law_360 ?_
  refine va_sld hx hb hX hbl hbA hw.2.2.2 hi1 dL_law_361 ?_
  refine lv_aload_n hx hb dL_law_362 rfl (lv_at hl 0 rfl) ?_
  refine lv_iload_n hx hb dL_law_363 rfl (lv_at hl 3 rfl) ?_
  refine lv_iconst (v := 2) hx hb dL_law_364 (by decide) ?_
  refine lv_iadd hx hb dL_law_365 ?_
  refine va_sld hx hb hX hbl hbA hw.2.2.2 hi2 dL_law_366 ?_
  refine ctL (av := [.int ((xs (nI n + 1).toNatClampNeg)), .int ((xs (nI n + 2).toNatClampNeg))]) (st0 := ([] : List Value)) (st1 := ([.int z1] : List Value)) F hw hA (k_X4_member e1) kl_L_39 kd_X4_member rfl ⟨by decide, by decide⟩ ⟨by decide, by decide⟩ 21 rfl rfl hl.1 rfl (Nat.le_of_ble_eq_true rfl) dL_law_367 rfl (fun H locs hw => ?_)
  refine lv_aload_n hx hb dL_law_370 rfl (lv_at hl 2 rfl) ?_
  refine lv_aload_n hx hb dL_law_371 rfl (lv_at hl 0 rfl) ?_
  refine lv_iload_n hx hb dL_law_372 rfl (lv_at hl 3 rfl) ?_
  refine lv_iconst (v := 1) hx hb dL_law_373 (by decide) ?_
  refine lv_iadd hx hb dL_law_374 ?_
  refine va_sld hx hb hX hbl hbA hw.2.2.2 hi1 dL_law_375 ?_
  refine lv_aload_n hx hb dL_law_376 rfl (lv_at hl 0 rfl) ?_
  refine lv_iload_n hx hb dL_law_377 rfl (lv_at hl 3 rfl) ?_
  refine lv_iconst (v := 2) hx hb dL_law_378 (by decide) ?_
  refine lv_iadd hx hb dL_law_379 ?_
  refine va_sld hx hb hX hbl hbA hw.2.2.2 hi2 dL_law_380 ?_
  refine ctL (av := [.int ((xs (nI n + 1).toNatClampNeg)), .int ((xs (nI n + 2).toNatClampNeg))]) (st0 := ([.int z1] : List Value)) (st1 := ([.int z2, .int z1] : List Value)) F hw.sw hA (k_X5_member e2) kl_L_42 kd_X5_member rfl ⟨by decide, by decide⟩ ⟨by decide, by decide⟩ 0 rfl rfl hl.1 rfl (Nat.le_of_ble_eq_true rfl) dL_law_381 rfl (fun H locs hw => ?_)
  replace hw := hw.ws
  exact lv_icmp_eq (tgt := 1493) hx hb dL_law_384 (by decide) (fun _ => hN _ _ _ _ _ _ _ _ _ _ _ _ _ _ _ _ _ _ _ _ _ _ _ _ _ _ _ _ _ _ _ _ _ _ _ _ _ _ _ _ _ _ _ _ _ _ _ _ _ _ _ _ _ _ _ _ _ _ hR2 H locs ls hw hl) (fun q => absurd he q)
set_option maxHeartbeats 4000000 in
set_option maxRecDepth 100000 in
theorem law_c7 (F : Fx p s m #[Value.ref b] meth c code 4 R_law ret) (hX : va_X b L xs s s.heap) (hbl : b < s.heap.size) (hbA : ¬ A b) (hA : ∀ x, s.heap.size ≤ x → A x) {n : Nat} (hn : n + 5 ≤ L) (hL : L ≤ 2560) {zp : Int32} {ze : Int32} {zf : Int32} {zg : Int32} {zn : Int32} {aG : Nat → Int32} {aW : Nat → Int32} {aR : Nat → Int32} {aN : Nat → Int32} {aF : Nat → Int32} {lC : Nat → Int64} {lS : Nat → Int64} {lP : Nat → Int64} {lX : Nat → Int64} {ztc : Int32} {aTs : Nat → Int32} {aTn : Nat → Int32} {zoc : Int32} {aOs : Nat → Int32} {aOn : Nat → Int32} {aTp : Nat → Int32} {zln : Int32} {zpl : Int32} {zfa : Int32} {aSz : Nat → Int32} {zit : Int32} {zip : Int32} {zic : Int32} {zig : Int32} {M : Nat → Nat → Int64} {yp : Int32} {ye : Int32} {yg : Int32} {bPo : Nat → Int32} {bTb : Nat → Int32} {wSh : Nat → Int64} {wTe : Nat → Int64} {wNx : Nat → Int64} {bOs : Nat → Int32} {bOn : Nat → Int32} {yop : Int32} {bSo : Nat → Int32} {bNu : Nat → Int32} {ytr : Int32} {yiw : Int32} {wMa : Nat → Int64} {wPr : Nat → Int64} {bTp : Nat → Int32} {yln : Int32} {ypl : Int32} {yfa : Int32} {wLi : Nat → Int64} {bSi : Nat → Int32} {yhp : Int32} {yhe : Int32} {yhg : Int32} {wHs : Nat → Int64} {yhi : Int32} (hR : Rel zp ze zf zg zn aG aW aR aN aF lC lS lP lX ztc aTs aTn zoc aOs aOn aTp zln zpl zfa aSz zit zip zic zig M yp ye yg bPo bTb wSh wTe wNx bOs bOn yop bSo bNu ytr yiw wMa wPr bTp yln ypl yfa wLi bSi yhp yhe yhg wHs yhi) (hN : LwN p l e s m below meth c b n G A q q2) {H : Heap} {locs : List Loc} {ls : Array Slot} (hw : Wd G s A (kW G q zp ze zf zg zn aG aW aR aN aF lC lS lP lX ++ (oW G q ztc aTs aTn zoc aOs aOn aTp zln zpl zfa aSz zit zip zic zig M ++ (mW G q2 yp ye yg bPo bTb wSh wTe wNx bOs bOn yop bSo bNu ytr yiw wMa wPr bTp yln ypl yfa wLi bSi yhp yhe yhg wHs yhi ++ []))) H locs) (hl : lv_has ls 4 [(0, .ref b), (1, .ref (q 21)), (2, .ref (q2 0)), (3, .int (nI n))]) : lwW p l e s m below meth c b H locs (F0 m 389 ls []) := by
  have hx := F.x
  have hb := F.b
  have hi1 : vp_in (nI n + 1) L := by rw [show nI n + 1 = nI (n + 1) from nI_add n 1]; exact vp_in_nI (by omega) (by omega)
  have hi2 : vp_in (nI n + 2) L := by rw [show nI n + 2 = nI (n + 2) from nI_add n 2]; exact vp_in_nI (by omega) (by omega)
  obtain ⟨z1, z2, e1, e2, he, hR2⟩ := op_beside hR ((xs (nI n + 1).toNatClampNeg)) ((xs (nI n + 2).toNatClampNeg))
  refine lv_aload_n hx hb dL_law_389 rfl (lv_at hl 1 rfl) ?_
  refine lv_aload_n hx hb dL_law_390 rfl (lv_at hl 0 rfl) ?_
  refine lv_iload_n hx hb dL_law_391 rfl (lv_at hl 3 rfl) ?_
  refine lv_iconst (v := 1) hx hb dL_law_392 (by decide) ?_
  refine lv_iadd hx hb dL_law_393 ?_
  refine va_sld hx hb hX hbl hbA hw.2.2.2 hi1 dL_law_394 ?_
  refine lv_aload_n hx hb dL_law_395 rfl (lv_at hl 0 rfl) ?_
  refine lv_iload_n hx hb dL_law_396 rfl (lv_at hl 3 rfl) ?_
  refine lv_iconst (v := 2) hx hb dL_law_397 (by decide) ?_
  refine lv_iadd hx hb dL_law_398 ?_
  refine va_sld hx hb hX hbl hbA hw.2.2.2 hi2 dL_law_399 ?_
  refine ctL (av := [.int ((xs (nI n + 1).toNatClampNeg)), .int ((xs (nI n + 2).toNatClampNeg))]) (st0 := ([] : List Value)) (st1 := ([.int z1] : List Value)) F hw hA (k_X4_beside e1) kl_L_43 kd_X4_beside rfl ⟨by decide, by decide⟩ ⟨by decide, by decide⟩ 21 rfl rfl hl.1 rfl (Nat.le_of_ble_eq_true rfl) dL_law_400 rfl (fun H locs hw => ?_)
  refine lv_aload_n hx hb dL_law_403 rfl (lv_at hl 2 rfl) ?_
  refine lv_aload_n hx hb dL_law_404 rfl (lv_at hl 0 rfl) ?_
  refine lv_iload_n hx hb dL_law_405 rfl (lv_at hl 3 rfl) ?_
  refine lv_iconst (v := 1) hx hb dL_law_406 (by decide) ?_
  refine lv_iadd hx hb dL_law_407 ?_
  refine va_sld hx hb hX hbl hbA hw.2.2.2 hi1 dL_law_408 ?_
  refine lv_aload_n hx hb dL_law_409 rfl (lv_at hl 0 rfl) ?_
  refine lv_iload_n hx hb dL_law_410 rfl (lv_at hl 3 rfl) ?_
  refine lv_iconst (v := 2) hx hb dL_law_411 (by decide) ?_
  refine lv_iadd hx hb dL_law_412 ?_
  refine va_sld hx hb hX hbl hbA hw.2.2.2 hi2 dL_law_413 ?_
  refine ctL (av := [.int ((xs (nI n + 1).toNatClampNeg)), .int ((xs (nI n + 2).toNatClampNeg))]) (st0 := ([.int z1] : List Value)) (st1 := ([.int z2, .int z1] : List Value)) F hw.sw hA (k_X5_beside e2) kl_L_46 kd_X5_beside rfl ⟨by decide, by decide⟩ ⟨by decide, by decide⟩ 0 rfl rfl hl.1 rfl (Nat.le_of_ble_eq_true rfl) dL_law_414 rfl (fun H locs hw => ?_)
  replace hw := hw.ws
  exact lv_icmp_eq (tgt := 1493) hx hb dL_law_417 (by decide) (fun _ => hN _ _ _ _ _ _ _ _ _ _ _ _ _ _ _ _ _ _ _ _ _ _ _ _ _ _ _ _ _ _ _ _ _ _ _ _ _ _ _ _ _ _ _ _ _ _ _ _ _ _ _ _ _ _ _ _ _ _ hR2 H locs ls hw hl) (fun q => absurd he q)
set_option maxHeartbeats 4000000 in
set_option maxRecDepth 100000 in
theorem law_c8 (F : Fx p s m #[Value.ref b] meth c code 4 R_law ret) (hX : va_X b L xs s s.heap) (hbl : b < s.heap.size) (hbA : ¬ A b) (hA : ∀ x, s.heap.size ≤ x → A x) {n : Nat} (hn : n + 5 ≤ L) (hL : L ≤ 2560) {zp : Int32} {ze : Int32} {zf : Int32} {zg : Int32} {zn : Int32} {aG : Nat → Int32} {aW : Nat → Int32} {aR : Nat → Int32} {aN : Nat → Int32} {aF : Nat → Int32} {lC : Nat → Int64} {lS : Nat → Int64} {lP : Nat → Int64} {lX : Nat → Int64} {ztc : Int32} {aTs : Nat → Int32} {aTn : Nat → Int32} {zoc : Int32} {aOs : Nat → Int32} {aOn : Nat → Int32} {aTp : Nat → Int32} {zln : Int32} {zpl : Int32} {zfa : Int32} {aSz : Nat → Int32} {zit : Int32} {zip : Int32} {zic : Int32} {zig : Int32} {M : Nat → Nat → Int64} {yp : Int32} {ye : Int32} {yg : Int32} {bPo : Nat → Int32} {bTb : Nat → Int32} {wSh : Nat → Int64} {wTe : Nat → Int64} {wNx : Nat → Int64} {bOs : Nat → Int32} {bOn : Nat → Int32} {yop : Int32} {bSo : Nat → Int32} {bNu : Nat → Int32} {ytr : Int32} {yiw : Int32} {wMa : Nat → Int64} {wPr : Nat → Int64} {bTp : Nat → Int32} {yln : Int32} {ypl : Int32} {yfa : Int32} {wLi : Nat → Int64} {bSi : Nat → Int32} {yhp : Int32} {yhe : Int32} {yhg : Int32} {wHs : Nat → Int64} {yhi : Int32} (hR : Rel zp ze zf zg zn aG aW aR aN aF lC lS lP lX ztc aTs aTn zoc aOs aOn aTp zln zpl zfa aSz zit zip zic zig M yp ye yg bPo bTb wSh wTe wNx bOs bOn yop bSo bNu ytr yiw wMa wPr bTp yln ypl yfa wLi bSi yhp yhe yhg wHs yhi) (hN : LwN p l e s m below meth c b n G A q q2) {H : Heap} {locs : List Loc} {ls : Array Slot} (hw : Wd G s A (kW G q zp ze zf zg zn aG aW aR aN aF lC lS lP lX ++ (oW G q ztc aTs aTn zoc aOs aOn aTp zln zpl zfa aSz zit zip zic zig M ++ (mW G q2 yp ye yg bPo bTb wSh wTe wNx bOs bOn yop bSo bNu ytr yiw wMa wPr bTp yln ypl yfa wLi bSi yhp yhe yhg wHs yhi ++ []))) H locs) (hl : lv_has ls 4 [(0, .ref b), (1, .ref (q 21)), (2, .ref (q2 0)), (3, .int (nI n))]) : lwW p l e s m below meth c b H locs (F0 m 422 ls []) := by
  have hx := F.x
  have hb := F.b
  have hi1 : vp_in (nI n + 1) L := by rw [show nI n + 1 = nI (n + 1) from nI_add n 1]; exact vp_in_nI (by omega) (by omega)
  have hi2 : vp_in (nI n + 2) L := by rw [show nI n + 2 = nI (n + 2) from nI_add n 2]; exact vp_in_nI (by omega) (by omega)
  have hi3 : vp_in (nI n + 3) L := by rw [show nI n + 3 = nI (n + 3) from nI_add n 3]; exact vp_in_nI (by omega) (by omega)
  obtain ⟨z1, z2, e1, e2, he, hR2⟩ := op_meets hR ((xs (nI n + 1).toNatClampNeg)) ((xs (nI n + 2).toNatClampNeg)) ((xs (nI n + 3).toNatClampNeg))
  refine lv_aload_n hx hb dL_law_422 rfl (lv_at hl 1 rfl) ?_
  refine lv_aload_n hx hb dL_law_423 rfl (lv_at hl 0 rfl) ?_
  refine lv_iload_n hx hb dL_law_424 rfl (lv_at hl 3 rfl) ?_
  refine lv_iconst (v := 1) hx hb dL_law_425 (by decide) ?_
  refine lv_iadd hx hb dL_law_426 ?_
  refine va_sld hx hb hX hbl hbA hw.2.2.2 hi1 dL_law_427 ?_
  refine lv_aload_n hx hb dL_law_428 rfl (lv_at hl 0 rfl) ?_
  refine lv_iload_n hx hb dL_law_429 rfl (lv_at hl 3 rfl) ?_
  refine lv_iconst (v := 2) hx hb dL_law_430 (by decide) ?_
  refine lv_iadd hx hb dL_law_431 ?_
  refine va_sld hx hb hX hbl hbA hw.2.2.2 hi2 dL_law_432 ?_
  refine lv_aload_n hx hb dL_law_433 rfl (lv_at hl 0 rfl) ?_
  refine lv_iload_n hx hb dL_law_434 rfl (lv_at hl 3 rfl) ?_
  refine lv_iconst (v := 3) hx hb dL_law_435 (by decide) ?_
  refine lv_iadd hx hb dL_law_436 ?_
  refine va_sld hx hb hX hbl hbA hw.2.2.2 hi3 dL_law_437 ?_
  refine ctL (av := [.int ((xs (nI n + 1).toNatClampNeg)), .int ((xs (nI n + 2).toNatClampNeg)), .int ((xs (nI n + 3).toNatClampNeg))]) (st0 := ([] : List Value)) (st1 := ([.int z1] : List Value)) F hw hA (k_X4_meets e1) kl_L_47 kd_X4_meets rfl ⟨by decide, by decide⟩ ⟨by decide, by decide⟩ 21 rfl rfl hl.1 rfl (Nat.le_of_ble_eq_true rfl) dL_law_438 rfl (fun H locs hw => ?_)
  refine lv_aload_n hx hb dL_law_441 rfl (lv_at hl 2 rfl) ?_
  refine lv_aload_n hx hb dL_law_442 rfl (lv_at hl 0 rfl) ?_
  refine lv_iload_n hx hb dL_law_443 rfl (lv_at hl 3 rfl) ?_
  refine lv_iconst (v := 1) hx hb dL_law_444 (by decide) ?_
  refine lv_iadd hx hb dL_law_445 ?_
  refine va_sld hx hb hX hbl hbA hw.2.2.2 hi1 dL_law_446 ?_
  refine lv_aload_n hx hb dL_law_447 rfl (lv_at hl 0 rfl) ?_
  refine lv_iload_n hx hb dL_law_448 rfl (lv_at hl 3 rfl) ?_
  refine lv_iconst (v := 2) hx hb dL_law_449 (by decide) ?_
  refine lv_iadd hx hb dL_law_450 ?_
  refine va_sld hx hb hX hbl hbA hw.2.2.2 hi2 dL_law_451 ?_
  refine lv_aload_n hx hb dL_law_452 rfl (lv_at hl 0 rfl) ?_
  refine lv_iload_n hx hb dL_law_453 rfl (lv_at hl 3 rfl) ?_
  refine lv_iconst (v := 3) hx hb dL_law_454 (by decide) ?_
  refine lv_iadd hx hb dL_law_455 ?_
  refine va_sld hx hb hX hbl hbA hw.2.2.2 hi3 dL_law_456 ?_
  refine ctL (av := [.int ((xs (nI n + 1).toNatClampNeg)), .int ((xs (nI n + 2).toNatClampNeg)), .int ((xs (nI n + 3).toNatClampNeg))]) (st0 := ([.int z1] : List Value)) (st1 := ([.int z2, .int z1] : List Value)) F hw.sw hA (k_X5_meets e2) kl_L_51 kd_X5_meets rfl ⟨by decide, by decide⟩ ⟨by decide, by decide⟩ 0 rfl rfl hl.1 rfl (Nat.le_of_ble_eq_true rfl) dL_law_457 rfl (fun H locs hw => ?_)
  replace hw := hw.ws
  exact lv_icmp_eq (tgt := 1493) hx hb dL_law_460 (by decide) (fun _ => hN _ _ _ _ _ _ _ _ _ _ _ _ _ _ _ _ _ _ _ _ _ _ _ _ _ _ _ _ _ _ _ _ _ _ _ _ _ _ _ _ _ _ _ _ _ _ _ _ _ _ _ _ _ _ _ _ _ _ hR2 H locs ls hw hl) (fun q => absurd he q)
set_option maxHeartbeats 4000000 in
set_option maxRecDepth 100000 in
theorem law_c9 (F : Fx p s m #[Value.ref b] meth c code 4 R_law ret) (hX : va_X b L xs s s.heap) (hbl : b < s.heap.size) (hbA : ¬ A b) (hA : ∀ x, s.heap.size ≤ x → A x) {n : Nat} (hn : n + 5 ≤ L) (hL : L ≤ 2560) {zp : Int32} {ze : Int32} {zf : Int32} {zg : Int32} {zn : Int32} {aG : Nat → Int32} {aW : Nat → Int32} {aR : Nat → Int32} {aN : Nat → Int32} {aF : Nat → Int32} {lC : Nat → Int64} {lS : Nat → Int64} {lP : Nat → Int64} {lX : Nat → Int64} {ztc : Int32} {aTs : Nat → Int32} {aTn : Nat → Int32} {zoc : Int32} {aOs : Nat → Int32} {aOn : Nat → Int32} {aTp : Nat → Int32} {zln : Int32} {zpl : Int32} {zfa : Int32} {aSz : Nat → Int32} {zit : Int32} {zip : Int32} {zic : Int32} {zig : Int32} {M : Nat → Nat → Int64} {yp : Int32} {ye : Int32} {yg : Int32} {bPo : Nat → Int32} {bTb : Nat → Int32} {wSh : Nat → Int64} {wTe : Nat → Int64} {wNx : Nat → Int64} {bOs : Nat → Int32} {bOn : Nat → Int32} {yop : Int32} {bSo : Nat → Int32} {bNu : Nat → Int32} {ytr : Int32} {yiw : Int32} {wMa : Nat → Int64} {wPr : Nat → Int64} {bTp : Nat → Int32} {yln : Int32} {ypl : Int32} {yfa : Int32} {wLi : Nat → Int64} {bSi : Nat → Int32} {yhp : Int32} {yhe : Int32} {yhg : Int32} {wHs : Nat → Int64} {yhi : Int32} (hR : Rel zp ze zf zg zn aG aW aR aN aF lC lS lP lX ztc aTs aTn zoc aOs aOn aTp zln zpl zfa aSz zit zip zic zig M yp ye yg bPo bTb wSh wTe wNx bOs bOn yop bSo bNu ytr yiw wMa wPr bTp yln ypl yfa wLi bSi yhp yhe yhg wHs yhi) (hN : LwN p l e s m below meth c b n G A q q2) {H : Heap} {locs : List Loc} {ls : Array Slot} (hw : Wd G s A (kW G q zp ze zf zg zn aG aW aR aN aF lC lS lP lX ++ (oW G q ztc aTs aTn zoc aOs aOn aTp zln zpl zfa aSz zit zip zic zig M ++ (mW G q2 yp ye yg bPo bTb wSh wTe wNx bOs bOn yop bSo bNu ytr yiw wMa wPr bTp yln ypl yfa wLi bSi yhp yhe yhg wHs yhi ++ []))) H locs) (hl : lv_has ls 4 [(0, .ref b), (1, .ref (q 21)), (2, .ref (q2 0)), (3, .int (nI n))]) : lwW p l e s m below meth c b H locs (F0 m 465 ls []) := by
  have hx := F.x
  have hb := F.b
  have hi1 : vp_in (nI n + 1) L := by rw [show nI n + 1 = nI (n + 1) from nI_add n 1]; exact vp_in_nI (by omega) (by omega)
  have hi2 : vp_in (nI n + 2) L := by rw [show nI n + 2 = nI (n + 2) from nI_add n 2]; exact vp_in_nI (by omega) (by omega)
  have hi3 : vp_in (nI n + 3) L := by rw [show nI n + 3 = nI (n + 3) from nI_add n 3]; exact vp_in_nI (by omega) (by omega)
  obtain ⟨z1, z2, e1, e2, he, hR2⟩ := op_times hR ((xs (nI n + 1).toNatClampNeg)) ((xs (nI n + 2).toNatClampNeg)) ((xs (nI n + 3).toNatClampNeg))
  refine lv_aload_n hx hb dL_law_465 rfl (lv_at hl 1 rfl) ?_
  refine lv_aload_n hx hb dL_law_466 rfl (lv_at hl 0 rfl) ?_
  refine lv_iload_n hx hb dL_law_467 rfl (lv_at hl 3 rfl) ?_
  refine lv_iconst (v := 1) hx hb dL_law_468 (by decide) ?_
  refine lv_iadd hx hb dL_law_469 ?_
  refine va_sld hx hb hX hbl hbA hw.2.2.2 hi1 dL_law_470 ?_
  refine lv_aload_n hx hb dL_law_471 rfl (lv_at hl 0 rfl) ?_
  refine lv_iload_n hx hb dL_law_472 rfl (lv_at hl 3 rfl) ?_
  refine lv_iconst (v := 2) hx hb dL_law_473 (by decide) ?_
  refine lv_iadd hx hb dL_law_474 ?_
  refine va_sld hx hb hX hbl hbA hw.2.2.2 hi2 dL_law_475 ?_
  refine lv_aload_n hx hb dL_law_476 rfl (lv_at hl 0 rfl) ?_
  refine lv_iload_n hx hb dL_law_477 rfl (lv_at hl 3 rfl) ?_
  refine lv_iconst (v := 3) hx hb dL_law_478 (by decide) ?_
  refine lv_iadd hx hb dL_law_479 ?_
  refine va_sld hx hb hX hbl hbA hw.2.2.2 hi3 dL_law_480 ?_
  refine ctL (av := [.int ((xs (nI n + 1).toNatClampNeg)), .int ((xs (nI n + 2).toNatClampNeg)), .int ((xs (nI n + 3).toNatClampNeg))]) (st0 := ([] : List Value)) (st1 := ([.int z1] : List Value)) F hw hA (k_X4_times e1) kl_L_52 kd_X4_times rfl ⟨by decide, by decide⟩ ⟨by decide, by decide⟩ 21 rfl rfl hl.1 rfl (Nat.le_of_ble_eq_true rfl) dL_law_481 rfl (fun H locs hw => ?_)
  refine lv_aload_n hx hb dL_law_484 rfl (lv_at hl 2 rfl) ?_
  refine lv_aload_n hx hb dL_law_485 rfl (lv_at hl 0 rfl) ?_
  refine lv_iload_n hx hb dL_law_486 rfl (lv_at hl 3 rfl) ?_
  refine lv_iconst (v := 1) hx hb dL_law_487 (by decide) ?_
  refine lv_iadd hx hb dL_law_488 ?_
  refine va_sld hx hb hX hbl hbA hw.2.2.2 hi1 dL_law_489 ?_
  refine lv_aload_n hx hb dL_law_490 rfl (lv_at hl 0 rfl) ?_
  refine lv_iload_n hx hb dL_law_491 rfl (lv_at hl 3 rfl) ?_
  refine lv_iconst (v := 2) hx hb dL_law_492 (by decide) ?_
  refine lv_iadd hx hb dL_law_493 ?_
  refine va_sld hx hb hX hbl hbA hw.2.2.2 hi2 dL_law_494 ?_
  refine lv_aload_n hx hb dL_law_495 rfl (lv_at hl 0 rfl) ?_
  refine lv_iload_n hx hb dL_law_496 rfl (lv_at hl 3 rfl) ?_
  refine lv_iconst (v := 3) hx hb dL_law_497 (by decide) ?_
  refine lv_iadd hx hb dL_law_498 ?_
  refine va_sld hx hb hX hbl hbA hw.2.2.2 hi3 dL_law_499 ?_
  refine ctL (av := [.int ((xs (nI n + 1).toNatClampNeg)), .int ((xs (nI n + 2).toNatClampNeg)), .int ((xs (nI n + 3).toNatClampNeg))]) (st0 := ([.int z1] : List Value)) (st1 := ([.int z2, .int z1] : List Value)) F hw.sw hA (k_X5_times e2) kl_L_55 kd_X5_times rfl ⟨by decide, by decide⟩ ⟨by decide, by decide⟩ 0 rfl rfl hl.1 rfl (Nat.le_of_ble_eq_true rfl) dL_law_500 rfl (fun H locs hw => ?_)
  replace hw := hw.ws
  exact lv_icmp_eq (tgt := 1493) hx hb dL_law_503 (by decide) (fun _ => hN _ _ _ _ _ _ _ _ _ _ _ _ _ _ _ _ _ _ _ _ _ _ _ _ _ _ _ _ _ _ _ _ _ _ _ _ _ _ _ _ _ _ _ _ _ _ _ _ _ _ _ _ _ _ _ _ _ _ hR2 H locs ls hw hl) (fun q => absurd he q)
set_option maxHeartbeats 4000000 in
set_option maxRecDepth 100000 in
theorem law_c10 (F : Fx p s m #[Value.ref b] meth c code 4 R_law ret) (hX : va_X b L xs s s.heap) (hbl : b < s.heap.size) (hbA : ¬ A b) (hA : ∀ x, s.heap.size ≤ x → A x) {n : Nat} (hn : n + 5 ≤ L) (hL : L ≤ 2560) {zp : Int32} {ze : Int32} {zf : Int32} {zg : Int32} {zn : Int32} {aG : Nat → Int32} {aW : Nat → Int32} {aR : Nat → Int32} {aN : Nat → Int32} {aF : Nat → Int32} {lC : Nat → Int64} {lS : Nat → Int64} {lP : Nat → Int64} {lX : Nat → Int64} {ztc : Int32} {aTs : Nat → Int32} {aTn : Nat → Int32} {zoc : Int32} {aOs : Nat → Int32} {aOn : Nat → Int32} {aTp : Nat → Int32} {zln : Int32} {zpl : Int32} {zfa : Int32} {aSz : Nat → Int32} {zit : Int32} {zip : Int32} {zic : Int32} {zig : Int32} {M : Nat → Nat → Int64} {yp : Int32} {ye : Int32} {yg : Int32} {bPo : Nat → Int32} {bTb : Nat → Int32} {wSh : Nat → Int64} {wTe : Nat → Int64} {wNx : Nat → Int64} {bOs : Nat → Int32} {bOn : Nat → Int32} {yop : Int32} {bSo : Nat → Int32} {bNu : Nat → Int32} {ytr : Int32} {yiw : Int32} {wMa : Nat → Int64} {wPr : Nat → Int64} {bTp : Nat → Int32} {yln : Int32} {ypl : Int32} {yfa : Int32} {wLi : Nat → Int64} {bSi : Nat → Int32} {yhp : Int32} {yhe : Int32} {yhg : Int32} {wHs : Nat → Int64} {yhi : Int32} (hR : Rel zp ze zf zg zn aG aW aR aN aF lC lS lP lX ztc aTs aTn zoc aOs aOn aTp zln zpl zfa aSz zit zip zic zig M yp ye yg bPo bTb wSh wTe wNx bOs bOn yop bSo bNu ytr yiw wMa wPr bTp yln ypl yfa wLi bSi yhp yhe yhg wHs yhi) (hN : LwN p l e s m below meth c b n G A q q2) {H : Heap} {locs : List Loc} {ls : Array Slot} (hw : Wd G s A (kW G q zp ze zf zg zn aG aW aR aN aF lC lS lP lX ++ (oW G q ztc aTs aTn zoc aOs aOn aTp zln zpl zfa aSz zit zip zic zig M ++ (mW G q2 yp ye yg bPo bTb wSh wTe wNx bOs bOn yop bSo bNu ytr yiw wMa wPr bTp yln ypl yfa wLi bSi yhp yhe yhg wHs yhi ++ []))) H locs) (hl : lv_has ls 4 [(0, .ref b), (1, .ref (q 21)), (2, .ref (q2 0)), (3, .int (nI n))]) : lwW p l e s m below meth c b H locs (F0 m 508 ls []) := by
  have hx := F.x
  have hb := F.b
  have hi1 : vp_in (nI n + 1) L := by rw [show nI n + 1 = nI (n + 1) from nI_add n 1]; exact vp_in_nI (by omega) (by omega)
  obtain ⟨z1, z2, e1, e2, he, hR2⟩ := op_opposite hR ((xs (nI n + 1).toNatClampNeg))
  refine lv_aload_n hx hb dL_law_508 rfl (lv_at hl 1 rfl) ?_
  refine lv_aload_n hx hb dL_law_509 rfl (lv_at hl 0 rfl) ?_
  refine lv_iload_n hx hb dL_law_510 rfl (lv_at hl 3 rfl) ?_
  refine lv_iconst (v := 1) hx hb dL_law_511 (by decide) ?_
  refine lv_iadd hx hb dL_law_512 ?_
  refine va_sld hx hb hX hbl hbA hw.2.2.2 hi1 dL_law_513 ?_
  refine ctL (av := [.int ((xs (nI n + 1).toNatClampNeg))]) (st0 := ([] : List Value)) (st1 := ([.int z1] : List Value)) F hw hA (k_X4_opposite e1) kl_L_56 kd_X4_opposite rfl ⟨by decide, by decide⟩ ⟨by decide, by decide⟩ 21 rfl rfl hl.1 rfl (Nat.le_of_ble_eq_true rfl) dL_law_514 rfl (fun H locs hw => ?_)
  refine lv_aload_n hx hb dL_law_517 rfl (lv_at hl 2 rfl) ?_
  refine lv_aload_n hx hb dL_law_518 rfl (lv_at hl 0 rfl) ?_
  refine lv_iload_n hx hb dL_law_519 rfl (lv_at hl 3 rfl) ?_
  refine lv_iconst (v := 1) hx hb dL_law_520 (by decide) ?_
  refine lv_iadd hx hb dL_law_521 ?_
  refine va_sld hx hb hX hbl hbA hw.2.2.2 hi1 dL_law_522 ?_
  refine ctL (av := [.int ((xs (nI n + 1).toNatClampNeg))]) (st0 := ([.int z1] : List Value)) (st1 := ([.int z2, .int z1] : List Value)) F hw.sw hA (k_X5_opposite e2) kl_L_59 kd_X5_opposite rfl ⟨by decide, by decide⟩ ⟨by decide, by decide⟩ 0 rfl rfl hl.1 rfl (Nat.le_of_ble_eq_true rfl) dL_law_523 rfl (fun H locs hw => ?_)
  replace hw := hw.ws
  exact lv_icmp_eq (tgt := 1493) hx hb dL_law_526 (by decide) (fun _ => hN _ _ _ _ _ _ _ _ _ _ _ _ _ _ _ _ _ _ _ _ _ _ _ _ _ _ _ _ _ _ _ _ _ _ _ _ _ _ _ _ _ _ _ _ _ _ _ _ _ _ _ _ _ _ _ _ _ _ hR2 H locs ls hw hl) (fun q => absurd he q)
set_option maxHeartbeats 4000000 in
set_option maxRecDepth 100000 in
theorem law_c11 (F : Fx p s m #[Value.ref b] meth c code 4 R_law ret) (hX : va_X b L xs s s.heap) (hbl : b < s.heap.size) (hbA : ¬ A b) (hA : ∀ x, s.heap.size ≤ x → A x) {n : Nat} (hn : n + 5 ≤ L) (hL : L ≤ 2560) {zp : Int32} {ze : Int32} {zf : Int32} {zg : Int32} {zn : Int32} {aG : Nat → Int32} {aW : Nat → Int32} {aR : Nat → Int32} {aN : Nat → Int32} {aF : Nat → Int32} {lC : Nat → Int64} {lS : Nat → Int64} {lP : Nat → Int64} {lX : Nat → Int64} {ztc : Int32} {aTs : Nat → Int32} {aTn : Nat → Int32} {zoc : Int32} {aOs : Nat → Int32} {aOn : Nat → Int32} {aTp : Nat → Int32} {zln : Int32} {zpl : Int32} {zfa : Int32} {aSz : Nat → Int32} {zit : Int32} {zip : Int32} {zic : Int32} {zig : Int32} {M : Nat → Nat → Int64} {yp : Int32} {ye : Int32} {yg : Int32} {bPo : Nat → Int32} {bTb : Nat → Int32} {wSh : Nat → Int64} {wTe : Nat → Int64} {wNx : Nat → Int64} {bOs : Nat → Int32} {bOn : Nat → Int32} {yop : Int32} {bSo : Nat → Int32} {bNu : Nat → Int32} {ytr : Int32} {yiw : Int32} {wMa : Nat → Int64} {wPr : Nat → Int64} {bTp : Nat → Int32} {yln : Int32} {ypl : Int32} {yfa : Int32} {wLi : Nat → Int64} {bSi : Nat → Int32} {yhp : Int32} {yhe : Int32} {yhg : Int32} {wHs : Nat → Int64} {yhi : Int32} (hR : Rel zp ze zf zg zn aG aW aR aN aF lC lS lP lX ztc aTs aTn zoc aOs aOn aTp zln zpl zfa aSz zit zip zic zig M yp ye yg bPo bTb wSh wTe wNx bOs bOn yop bSo bNu ytr yiw wMa wPr bTp yln ypl yfa wLi bSi yhp yhe yhg wHs yhi) (hN : LwN p l e s m below meth c b n G A q q2) {H : Heap} {locs : List Loc} {ls : Array Slot} (hw : Wd G s A (kW G q zp ze zf zg zn aG aW aR aN aF lC lS lP lX ++ (oW G q ztc aTs aTn zoc aOs aOn aTp zln zpl zfa aSz zit zip zic zig M ++ (mW G q2 yp ye yg bPo bTb wSh wTe wNx bOs bOn yop bSo bNu ytr yiw wMa wPr bTp yln ypl yfa wLi bSi yhp yhe yhg wHs yhi ++ []))) H locs) (hl : lv_has ls 4 [(0, .ref b), (1, .ref (q 21)), (2, .ref (q2 0)), (3, .int (nI n))]) : lwW p l e s m below meth c b H locs (F0 m 531 ls []) := by
  have hx := F.x
  have hb := F.b
  have hi1 : vp_in (nI n + 1) L := by rw [show nI n + 1 = nI (n + 1) from nI_add n 1]; exact vp_in_nI (by omega) (by omega)
  have hi2 : vp_in (nI n + 2) L := by rw [show nI n + 2 = nI (n + 2) from nI_add n 2]; exact vp_in_nI (by omega) (by omega)
  obtain ⟨z1, z2, e1, e2, he, hR2⟩ := op_around hR ((xs (nI n + 1).toNatClampNeg)) ((xs (nI n + 2).toNatClampNeg))
  refine lv_aload_n hx hb dL_law_531 rfl (lv_at hl 1 rfl) ?_
  refine lv_aload_n hx hb dL_law_532 rfl (lv_at hl 0 rfl) ?_
  refine lv_iload_n hx hb dL_law_533 rfl (lv_at hl 3 rfl) ?_
  refine lv_iconst (v := 1) hx hb dL_law_534 (by decide) ?_
  refine lv_iadd hx hb dL_law_535 ?_
  refine va_sld hx hb hX hbl hbA hw.2.2.2 hi1 dL_law_536 ?_
  refine lv_aload_n hx hb dL_law_537 rfl (lv_at hl 0 rfl) ?_
  refine lv_iload_n hx hb dL_law_538 rfl (lv_at hl 3 rfl) ?_
  refine lv_iconst (v := 2) hx hb dL_law_539 (by decide) ?_
  refine lv_iadd hx hb dL_law_540 ?_
  refine va_sld hx hb hX hbl hbA hw.2.2.2 hi2 dL_law_541 ?_
  refine ctL (av := [.int ((xs (nI n + 1).toNatClampNeg)), .int ((xs (nI n + 2).toNatClampNeg))]) (st0 := ([] : List Value)) (st1 := ([.int z1] : List Value)) F hw hA (k_X4_around e1) kl_L_60 kd_X4_around rfl ⟨by decide, by decide⟩ ⟨by decide, by decide⟩ 21 rfl rfl hl.1 rfl (Nat.le_of_ble_eq_true rfl) dL_law_542 rfl (fun H locs hw => ?_)
  refine lv_aload_n hx hb dL_law_545 rfl (lv_at hl 2 rfl) ?_
  refine lv_aload_n hx hb dL_law_546 rfl (lv_at hl 0 rfl) ?_
  refine lv_iload_n hx hb dL_law_547 rfl (lv_at hl 3 rfl) ?_
  refine lv_iconst (v := 1) hx hb dL_law_548 (by decide) ?_
  refine lv_iadd hx hb dL_law_549 ?_
  refine va_sld hx hb hX hbl hbA hw.2.2.2 hi1 dL_law_550 ?_
  refine lv_aload_n hx hb dL_law_551 rfl (lv_at hl 0 rfl) ?_
  refine lv_iload_n hx hb dL_law_552 rfl (lv_at hl 3 rfl) ?_
  refine lv_iconst (v := 2) hx hb dL_law_553 (by decide) ?_
  refine lv_iadd hx hb dL_law_554 ?_
  refine va_sld hx hb hX hbl hbA hw.2.2.2 hi2 dL_law_555 ?_
  refine ctL (av := [.int ((xs (nI n + 1).toNatClampNeg)), .int ((xs (nI n + 2).toNatClampNeg))]) (st0 := ([.int z1] : List Value)) (st1 := ([.int z2, .int z1] : List Value)) F hw.sw hA (k_X5_around e2) kl_L_63 kd_X5_around rfl ⟨by decide, by decide⟩ ⟨by decide, by decide⟩ 0 rfl rfl hl.1 rfl (Nat.le_of_ble_eq_true rfl) dL_law_556 rfl (fun H locs hw => ?_)
  replace hw := hw.ws
  exact lv_icmp_eq (tgt := 1493) hx hb dL_law_559 (by decide) (fun _ => hN _ _ _ _ _ _ _ _ _ _ _ _ _ _ _ _ _ _ _ _ _ _ _ _ _ _ _ _ _ _ _ _ _ _ _ _ _ _ _ _ _ _ _ _ _ _ _ _ _ _ _ _ _ _ _ _ _ _ hR2 H locs ls hw hl) (fun q => absurd he q)
set_option maxHeartbeats 4000000 in
set_option maxRecDepth 100000 in
theorem law_c12 (F : Fx p s m #[Value.ref b] meth c code 4 R_law ret) (hX : va_X b L xs s s.heap) (hbl : b < s.heap.size) (hbA : ¬ A b) (hA : ∀ x, s.heap.size ≤ x → A x) {n : Nat} (hn : n + 5 ≤ L) (hL : L ≤ 2560) {zp : Int32} {ze : Int32} {zf : Int32} {zg : Int32} {zn : Int32} {aG : Nat → Int32} {aW : Nat → Int32} {aR : Nat → Int32} {aN : Nat → Int32} {aF : Nat → Int32} {lC : Nat → Int64} {lS : Nat → Int64} {lP : Nat → Int64} {lX : Nat → Int64} {ztc : Int32} {aTs : Nat → Int32} {aTn : Nat → Int32} {zoc : Int32} {aOs : Nat → Int32} {aOn : Nat → Int32} {aTp : Nat → Int32} {zln : Int32} {zpl : Int32} {zfa : Int32} {aSz : Nat → Int32} {zit : Int32} {zip : Int32} {zic : Int32} {zig : Int32} {M : Nat → Nat → Int64} {yp : Int32} {ye : Int32} {yg : Int32} {bPo : Nat → Int32} {bTb : Nat → Int32} {wSh : Nat → Int64} {wTe : Nat → Int64} {wNx : Nat → Int64} {bOs : Nat → Int32} {bOn : Nat → Int32} {yop : Int32} {bSo : Nat → Int32} {bNu : Nat → Int32} {ytr : Int32} {yiw : Int32} {wMa : Nat → Int64} {wPr : Nat → Int64} {bTp : Nat → Int32} {yln : Int32} {ypl : Int32} {yfa : Int32} {wLi : Nat → Int64} {bSi : Nat → Int32} {yhp : Int32} {yhe : Int32} {yhg : Int32} {wHs : Nat → Int64} {yhi : Int32} (hR : Rel zp ze zf zg zn aG aW aR aN aF lC lS lP lX ztc aTs aTn zoc aOs aOn aTp zln zpl zfa aSz zit zip zic zig M yp ye yg bPo bTb wSh wTe wNx bOs bOn yop bSo bNu ytr yiw wMa wPr bTp yln ypl yfa wLi bSi yhp yhe yhg wHs yhi) (hN : LwN p l e s m below meth c b n G A q q2) {H : Heap} {locs : List Loc} {ls : Array Slot} (hw : Wd G s A (kW G q zp ze zf zg zn aG aW aR aN aF lC lS lP lX ++ (oW G q ztc aTs aTn zoc aOs aOn aTp zln zpl zfa aSz zit zip zic zig M ++ (mW G q2 yp ye yg bPo bTb wSh wTe wNx bOs bOn yop bSo bNu ytr yiw wMa wPr bTp yln ypl yfa wLi bSi yhp yhe yhg wHs yhi ++ []))) H locs) (hl : lv_has ls 4 [(0, .ref b), (1, .ref (q 21)), (2, .ref (q2 0)), (3, .int (nI n))]) : lwW p l e s m below meth c b H locs (F0 m 564 ls []) := by
  have hx := F.x
  have hb := F.b
  have hi1 : vp_in (nI n + 1) L := by rw [show nI n + 1 = nI (n + 1) from nI_add n 1]; exact vp_in_nI (by omega) (by omega)
  have hi2 : vp_in (nI n + 2) L := by rw [show nI n + 2 = nI (n + 2) from nI_add n 2]; exact vp_in_nI (by omega) (by omega)
  have hi3 : vp_in (nI n + 3) L := by rw [show nI n + 3 = nI (n + 3) from nI_add n 3]; exact vp_in_nI (by omega) (by omega)
  obtain ⟨z1, z2, e1, e2, he, hR2⟩ := op_solved hR ((xs (nI n + 1).toNatClampNeg)) ((xs (nI n + 2).toNatClampNeg)) ((xs (nI n + 3).toNatClampNeg))
  refine lv_aload_n hx hb dL_law_564 rfl (lv_at hl 1 rfl) ?_
  refine lv_aload_n hx hb dL_law_565 rfl (lv_at hl 0 rfl) ?_
  refine lv_iload_n hx hb dL_law_566 rfl (lv_at hl 3 rfl) ?_
  refine lv_iconst (v := 1) hx hb dL_law_567 (by decide) ?_
  refine lv_iadd hx hb dL_law_568 ?_
  refine va_sld hx hb hX hbl hbA hw.2.2.2 hi1 dL_law_569 ?_
  refine lv_aload_n hx hb dL_law_570 rfl (lv_at hl 0 rfl) ?_
  refine lv_iload_n hx hb dL_law_571 rfl (lv_at hl 3 rfl) ?_
  refine lv_iconst (v := 2) hx hb dL_law_572 (by decide) ?_
  refine lv_iadd hx hb dL_law_573 ?_
  refine va_sld hx hb hX hbl hbA hw.2.2.2 hi2 dL_law_574 ?_
  refine lv_aload_n hx hb dL_law_575 rfl (lv_at hl 0 rfl) ?_
  refine lv_iload_n hx hb dL_law_576 rfl (lv_at hl 3 rfl) ?_
  refine lv_iconst (v := 3) hx hb dL_law_577 (by decide) ?_
  refine lv_iadd hx hb dL_law_578 ?_
  refine va_sld hx hb hX hbl hbA hw.2.2.2 hi3 dL_law_579 ?_
  refine ctL (av := [.int ((xs (nI n + 1).toNatClampNeg)), .int ((xs (nI n + 2).toNatClampNeg)), .int ((xs (nI n + 3).toNatClampNeg))]) (st0 := ([] : List Value)) (st1 := ([.int z1] : List Value)) F hw hA (k_X4_solved e1) kl_L_64 kd_X4_solved rfl ⟨by decide, by decide⟩ ⟨by decide, by decide⟩ 21 rfl rfl hl.1 rfl (Nat.le_of_ble_eq_true rfl) dL_law_580 rfl (fun H locs hw => ?_)
  refine lv_aload_n hx hb dL_law_583 rfl (lv_at hl 2 rfl) ?_
  refine lv_aload_n hx hb dL_law_584 rfl (lv_at hl 0 rfl) ?_
  refine lv_iload_n hx hb dL_law_585 rfl (lv_at hl 3 rfl) ?_
  refine lv_iconst (v := 1) hx hb dL_law_586 (by decide) ?_
  refine lv_iadd hx hb dL_law_587 ?_
  refine va_sld hx hb hX hbl hbA hw.2.2.2 hi1 dL_law_588 ?_
  refine lv_aload_n hx hb dL_law_589 rfl (lv_at hl 0 rfl) ?_
  refine lv_iload_n hx hb dL_law_590 rfl (lv_at hl 3 rfl) ?_
  refine lv_iconst (v := 2) hx hb dL_law_591 (by decide) ?_
  refine lv_iadd hx hb dL_law_592 ?_
  refine va_sld hx hb hX hbl hbA hw.2.2.2 hi2 dL_law_593 ?_
  refine lv_aload_n hx hb dL_law_594 rfl (lv_at hl 0 rfl) ?_
  refine lv_iload_n hx hb dL_law_595 rfl (lv_at hl 3 rfl) ?_
  refine lv_iconst (v := 3) hx hb dL_law_596 (by decide) ?_
  refine lv_iadd hx hb dL_law_597 ?_
  refine va_sld hx hb hX hbl hbA hw.2.2.2 hi3 dL_law_598 ?_
  refine ctL (av := [.int ((xs (nI n + 1).toNatClampNeg)), .int ((xs (nI n + 2).toNatClampNeg)), .int ((xs (nI n + 3).toNatClampNeg))]) (st0 := ([.int z1] : List Value)) (st1 := ([.int z2, .int z1] : List Value)) F hw.sw hA (k_X5_solved e2) kl_L_67 kd_X5_solved rfl ⟨by decide, by decide⟩ ⟨by decide, by decide⟩ 0 rfl rfl hl.1 rfl (Nat.le_of_ble_eq_true rfl) dL_law_599 rfl (fun H locs hw => ?_)
  replace hw := hw.ws
  exact lv_icmp_eq (tgt := 1493) hx hb dL_law_602 (by decide) (fun _ => hN _ _ _ _ _ _ _ _ _ _ _ _ _ _ _ _ _ _ _ _ _ _ _ _ _ _ _ _ _ _ _ _ _ _ _ _ _ _ _ _ _ _ _ _ _ _ _ _ _ _ _ _ _ _ _ _ _ _ hR2 H locs ls hw hl) (fun q => absurd he q)
set_option maxHeartbeats 4000000 in
set_option maxRecDepth 100000 in
theorem law_c13 (F : Fx p s m #[Value.ref b] meth c code 4 R_law ret) (hX : va_X b L xs s s.heap) (hbl : b < s.heap.size) (hbA : ¬ A b) (hA : ∀ x, s.heap.size ≤ x → A x) {n : Nat} (hn : n + 5 ≤ L) (hL : L ≤ 2560) {zp : Int32} {ze : Int32} {zf : Int32} {zg : Int32} {zn : Int32} {aG : Nat → Int32} {aW : Nat → Int32} {aR : Nat → Int32} {aN : Nat → Int32} {aF : Nat → Int32} {lC : Nat → Int64} {lS : Nat → Int64} {lP : Nat → Int64} {lX : Nat → Int64} {ztc : Int32} {aTs : Nat → Int32} {aTn : Nat → Int32} {zoc : Int32} {aOs : Nat → Int32} {aOn : Nat → Int32} {aTp : Nat → Int32} {zln : Int32} {zpl : Int32} {zfa : Int32} {aSz : Nat → Int32} {zit : Int32} {zip : Int32} {zic : Int32} {zig : Int32} {M : Nat → Nat → Int64} {yp : Int32} {ye : Int32} {yg : Int32} {bPo : Nat → Int32} {bTb : Nat → Int32} {wSh : Nat → Int64} {wTe : Nat → Int64} {wNx : Nat → Int64} {bOs : Nat → Int32} {bOn : Nat → Int32} {yop : Int32} {bSo : Nat → Int32} {bNu : Nat → Int32} {ytr : Int32} {yiw : Int32} {wMa : Nat → Int64} {wPr : Nat → Int64} {bTp : Nat → Int32} {yln : Int32} {ypl : Int32} {yfa : Int32} {wLi : Nat → Int64} {bSi : Nat → Int32} {yhp : Int32} {yhe : Int32} {yhg : Int32} {wHs : Nat → Int64} {yhi : Int32} (hR : Rel zp ze zf zg zn aG aW aR aN aF lC lS lP lX ztc aTs aTn zoc aOs aOn aTp zln zpl zfa aSz zit zip zic zig M yp ye yg bPo bTb wSh wTe wNx bOs bOn yop bSo bNu ytr yiw wMa wPr bTp yln ypl yfa wLi bSi yhp yhe yhg wHs yhi) (hN : LwN p l e s m below meth c b n G A q q2) {H : Heap} {locs : List Loc} {ls : Array Slot} (hw : Wd G s A (kW G q zp ze zf zg zn aG aW aR aN aF lC lS lP lX ++ (oW G q ztc aTs aTn zoc aOs aOn aTp zln zpl zfa aSz zit zip zic zig M ++ (mW G q2 yp ye yg bPo bTb wSh wTe wNx bOs bOn yop bSo bNu ytr yiw wMa wPr bTp yln ypl yfa wLi bSi yhp yhe yhg wHs yhi ++ []))) H locs) (hl : lv_has ls 4 [(0, .ref b), (1, .ref (q 21)), (2, .ref (q2 0)), (3, .int (nI n))]) : lwW p l e s m below meth c b H locs (F0 m 607 ls []) := by
  have hx := F.x
  have hb := F.b
  have hi1 : vp_in (nI n + 1) L := by rw [show nI n + 1 = nI (n + 1) from nI_add n 1]; exact vp_in_nI (by omega) (by omega)
  obtain ⟨z1, z2, e1, e2, he, hR2⟩ := op_polynomial hR ((xs (nI n + 1).toNatClampNeg))
  refine lv_aload_n hx hb dL_law_607 rfl (lv_at hl 1 rfl) ?_
  refine lv_aload_n hx hb dL_law_608 rfl (lv_at hl 0 rfl) ?_
  refine lv_iload_n hx hb dL_law_609 rfl (lv_at hl 3 rfl) ?_
  refine lv_iconst (v := 1) hx hb dL_law_610 (by decide) ?_
  refine lv_iadd hx hb dL_law_611 ?_
  refine va_sld hx hb hX hbl hbA hw.2.2.2 hi1 dL_law_612 ?_
  refine ctL (av := [.int ((xs (nI n + 1).toNatClampNeg))]) (st0 := ([] : List Value)) (st1 := ([.long (z1)] : List Value)) F hw hA (k_X4_polynomial e1) kl_L_68 kd_X4_polynomial rfl ⟨by decide, by decide⟩ ⟨by decide, by decide⟩ 21 rfl rfl hl.1 rfl (Nat.le_of_ble_eq_true rfl) dL_law_613 rfl (fun H locs hw => ?_)
  refine lv_aload_n hx hb dL_law_616 rfl (lv_at hl 2 rfl) ?_
  refine lv_aload_n hx hb dL_law_617 rfl (lv_at hl 0 rfl) ?_
  refine lv_iload_n hx hb dL_law_618 rfl (lv_at hl 3 rfl) ?_
  refine lv_iconst (v := 1) hx hb dL_law_619 (by decide) ?_
  refine lv_iadd hx hb dL_law_620 ?_
  refine va_sld hx hb hX hbl hbA hw.2.2.2 hi1 dL_law_621 ?_
  refine ctL (av := [.int ((xs (nI n + 1).toNatClampNeg))]) (st0 := ([.long (z1)] : List Value)) (st1 := ([.long (z2.1), .long (z1)] : List Value)) F hw.sw hA (k_X5_polynomial e2) kl_L_72 kd_X5_polynomial rfl ⟨by decide, by decide⟩ ⟨by decide, by decide⟩ 0 rfl rfl hl.1 rfl (Nat.le_of_ble_eq_true rfl) dL_law_622 rfl (fun H locs hw => ?_)
  replace hw := hw.ws
  refine W.lcmp hx hb dL_law_625 ?_
  exact lv_if_eq (tgt := 1493) hx hb dL_law_626 (by decide) (fun _ => hN _ _ _ _ _ _ _ _ _ _ _ _ _ _ _ _ _ _ _ _ _ _ _ _ _ _ _ _ _ _ _ _ _ _ _ _ _ _ _ _ _ _ _ _ _ _ _ _ _ _ _ _ _ _ _ _ _ _ hR2 H locs ls hw hl) (fun q => absurd (by rw [he]; exact lg_cmp_same _) q)
set_option maxHeartbeats 4000000 in
set_option maxRecDepth 100000 in
theorem law_c14 (F : Fx p s m #[Value.ref b] meth c code 4 R_law ret) (hX : va_X b L xs s s.heap) (hbl : b < s.heap.size) (hbA : ¬ A b) (hA : ∀ x, s.heap.size ≤ x → A x) {n : Nat} (hn : n + 5 ≤ L) (hL : L ≤ 2560) {zp : Int32} {ze : Int32} {zf : Int32} {zg : Int32} {zn : Int32} {aG : Nat → Int32} {aW : Nat → Int32} {aR : Nat → Int32} {aN : Nat → Int32} {aF : Nat → Int32} {lC : Nat → Int64} {lS : Nat → Int64} {lP : Nat → Int64} {lX : Nat → Int64} {ztc : Int32} {aTs : Nat → Int32} {aTn : Nat → Int32} {zoc : Int32} {aOs : Nat → Int32} {aOn : Nat → Int32} {aTp : Nat → Int32} {zln : Int32} {zpl : Int32} {zfa : Int32} {aSz : Nat → Int32} {zit : Int32} {zip : Int32} {zic : Int32} {zig : Int32} {M : Nat → Nat → Int64} {yp : Int32} {ye : Int32} {yg : Int32} {bPo : Nat → Int32} {bTb : Nat → Int32} {wSh : Nat → Int64} {wTe : Nat → Int64} {wNx : Nat → Int64} {bOs : Nat → Int32} {bOn : Nat → Int32} {yop : Int32} {bSo : Nat → Int32} {bNu : Nat → Int32} {ytr : Int32} {yiw : Int32} {wMa : Nat → Int64} {wPr : Nat → Int64} {bTp : Nat → Int32} {yln : Int32} {ypl : Int32} {yfa : Int32} {wLi : Nat → Int64} {bSi : Nat → Int32} {yhp : Int32} {yhe : Int32} {yhg : Int32} {wHs : Nat → Int64} {yhi : Int32} (hR : Rel zp ze zf zg zn aG aW aR aN aF lC lS lP lX ztc aTs aTn zoc aOs aOn aTp zln zpl zfa aSz zit zip zic zig M yp ye yg bPo bTb wSh wTe wNx bOs bOn yop bSo bNu ytr yiw wMa wPr bTp yln ypl yfa wLi bSi yhp yhe yhg wHs yhi) (hN : LwN p l e s m below meth c b n G A q q2) {H : Heap} {locs : List Loc} {ls : Array Slot} (hw : Wd G s A (kW G q zp ze zf zg zn aG aW aR aN aF lC lS lP lX ++ (oW G q ztc aTs aTn zoc aOs aOn aTp zln zpl zfa aSz zit zip zic zig M ++ (mW G q2 yp ye yg bPo bTb wSh wTe wNx bOs bOn yop bSo bNu ytr yiw wMa wPr bTp yln ypl yfa wLi bSi yhp yhe yhg wHs yhi ++ []))) H locs) (hl : lv_has ls 4 [(0, .ref b), (1, .ref (q 21)), (2, .ref (q2 0)), (3, .int (nI n))]) : lwW p l e s m below meth c b H locs (F0 m 631 ls []) := by
  have hx := F.x
  have hb := F.b
  have hi1 : vp_in (nI n + 1) L := by rw [show nI n + 1 = nI (n + 1) from nI_add n 1]; exact vp_in_nI (by omega) (by omega)
  obtain ⟨z1, z2, e1, e2, he, hR2⟩ := op_roots hR ((xs (nI n + 1).toNatClampNeg))
  refine lv_aload_n hx hb dL_law_631 rfl (lv_at hl 1 rfl) ?_
  refine lv_aload_n hx hb dL_law_632 rfl (lv_at hl 0 rfl) ?_
  refine lv_iload_n hx hb dL_law_633 rfl (lv_at hl 3 rfl) ?_
  refine lv_iconst (v := 1) hx hb dL_law_634 (by decide) ?_
  refine lv_iadd hx hb dL_law_635 ?_
  refine va_sld hx hb hX hbl hbA hw.2.2.2 hi1 dL_law_636 ?_
  refine ctL (av := [.int ((xs (nI n + 1).toNatClampNeg))]) (st0 := ([] : List Value)) (st1 := ([.int z1] : List Value)) F hw hA (k_X4_roots e1) kl_L_73 kd_X4_roots rfl ⟨by decide, by decide⟩ ⟨by decide, by decide⟩ 21 rfl rfl hl.1 rfl (Nat.le_of_ble_eq_true rfl) dL_law_637 rfl (fun H locs hw => ?_)
  refine lv_aload_n hx hb dL_law_640 rfl (lv_at hl 2 rfl) ?_
  refine lv_aload_n hx hb dL_law_641 rfl (lv_at hl 0 rfl) ?_
  refine lv_iload_n hx hb dL_law_642 rfl (lv_at hl 3 rfl) ?_
  refine lv_iconst (v := 1) hx hb dL_law_643 (by decide) ?_
  refine lv_iadd hx hb dL_law_644 ?_
  refine va_sld hx hb hX hbl hbA hw.2.2.2 hi1 dL_law_645 ?_
  refine ctL (av := [.int ((xs (nI n + 1).toNatClampNeg))]) (st0 := ([.int z1] : List Value)) (st1 := ([.int z2.1, .int z1] : List Value)) F hw.sw hA (k_X5_roots e2) kl_L_76 kd_X5_roots rfl ⟨by decide, by decide⟩ ⟨by decide, by decide⟩ 0 rfl rfl hl.1 rfl (Nat.le_of_ble_eq_true rfl) dL_law_646 rfl (fun H locs hw => ?_)
  replace hw := hw.ws
  exact lv_icmp_eq (tgt := 1493) hx hb dL_law_649 (by decide) (fun _ => hN _ _ _ _ _ _ _ _ _ _ _ _ _ _ _ _ _ _ _ _ _ _ _ _ _ _ _ _ _ _ _ _ _ _ _ _ _ _ _ _ _ _ _ _ _ _ _ _ _ _ _ _ _ _ _ _ _ _ hR2 H locs ls hw hl) (fun q => absurd he q)
set_option maxHeartbeats 4000000 in
set_option maxRecDepth 100000 in
theorem law_c15 (F : Fx p s m #[Value.ref b] meth c code 4 R_law ret) (hX : va_X b L xs s s.heap) (hbl : b < s.heap.size) (hbA : ¬ A b) (hA : ∀ x, s.heap.size ≤ x → A x) {n : Nat} (hn : n + 5 ≤ L) (hL : L ≤ 2560) {zp : Int32} {ze : Int32} {zf : Int32} {zg : Int32} {zn : Int32} {aG : Nat → Int32} {aW : Nat → Int32} {aR : Nat → Int32} {aN : Nat → Int32} {aF : Nat → Int32} {lC : Nat → Int64} {lS : Nat → Int64} {lP : Nat → Int64} {lX : Nat → Int64} {ztc : Int32} {aTs : Nat → Int32} {aTn : Nat → Int32} {zoc : Int32} {aOs : Nat → Int32} {aOn : Nat → Int32} {aTp : Nat → Int32} {zln : Int32} {zpl : Int32} {zfa : Int32} {aSz : Nat → Int32} {zit : Int32} {zip : Int32} {zic : Int32} {zig : Int32} {M : Nat → Nat → Int64} {yp : Int32} {ye : Int32} {yg : Int32} {bPo : Nat → Int32} {bTb : Nat → Int32} {wSh : Nat → Int64} {wTe : Nat → Int64} {wNx : Nat → Int64} {bOs : Nat → Int32} {bOn : Nat → Int32} {yop : Int32} {bSo : Nat → Int32} {bNu : Nat → Int32} {ytr : Int32} {yiw : Int32} {wMa : Nat → Int64} {wPr : Nat → Int64} {bTp : Nat → Int32} {yln : Int32} {ypl : Int32} {yfa : Int32} {wLi : Nat → Int64} {bSi : Nat → Int32} {yhp : Int32} {yhe : Int32} {yhg : Int32} {wHs : Nat → Int64} {yhi : Int32} (hR : Rel zp ze zf zg zn aG aW aR aN aF lC lS lP lX ztc aTs aTn zoc aOs aOn aTp zln zpl zfa aSz zit zip zic zig M yp ye yg bPo bTb wSh wTe wNx bOs bOn yop bSo bNu ytr yiw wMa wPr bTp yln ypl yfa wLi bSi yhp yhe yhg wHs yhi) (hN : LwN p l e s m below meth c b n G A q q2) {H : Heap} {locs : List Loc} {ls : Array Slot} (hw : Wd G s A (kW G q zp ze zf zg zn aG aW aR aN aF lC lS lP lX ++ (oW G q ztc aTs aTn zoc aOs aOn aTp zln zpl zfa aSz zit zip zic zig M ++ (mW G q2 yp ye yg bPo bTb wSh wTe wNx bOs bOn yop bSo bNu ytr yiw wMa wPr bTp yln ypl yfa wLi bSi yhp yhe yhg wHs yhi ++ []))) H locs) (hl : lv_has ls 4 [(0, .ref b), (1, .ref (q 21)), (2, .ref (q2 0)), (3, .int (nI n))]) : lwW p l e s m below meth c b H locs (F0 m 654 ls []) := by
  have hx := F.x
  have hb := F.b
  have hi1 : vp_in (nI n + 1) L := by rw [show nI n + 1 = nI (n + 1) from nI_add n 1]; exact vp_in_nI (by omega) (by omega)
  have hi2 : vp_in (nI n + 2) L := by rw [show nI n + 2 = nI (n + 2) from nI_add n 2]; exact vp_in_nI (by omega) (by omega)
  have hi3 : vp_in (nI n + 3) L := by rw [show nI n + 3 = nI (n + 3) from nI_add n 3]; exact vp_in_nI (by omega) (by omega)
  have hi4 : vp_in (nI n + 4) L := by rw [show nI n + 4 = nI (n + 4) from nI_add n 4]; exact vp_in_nI (by omega) (by omega)
  obtain ⟨z1, z2, e1, e2, he, hR2⟩ := op_put hR ((xs (nI n + 1).toNatClampNeg)) ((xs (nI n + 2).toNatClampNeg)) ((((xs (nI n + 3).toNatClampNeg).toInt64 <<< ((32 : Int32).toInt64 &&& 63)) ||| ((xs (nI n + 4).toNatClampNeg).toInt64 &&& 4294967295)))
  refine lv_aload_n hx hb dL_law_654 rfl (lv_at hl 1 rfl) ?_
  refine lv_aload_n hx hb dL_law_655 rfl (lv_at hl 0 rfl) ?_
  refine lv_iload_n hx hb dL_law_656 rfl (lv_at hl 3 rfl) ?_
  refine lv_iconst (v := 1) hx hb dL_law_657 (by decide) ?_
  refine lv_iadd hx hb dL_law_658 ?_
  refine va_sld hx hb hX hbl hbA hw.2.2.2 hi1 dL_law_659 ?_
  refine lv_aload_n hx hb dL_law_660 rfl (lv_at hl 0 rfl) ?_
  refine lv_iload_n hx hb dL_law_661 rfl (lv_at hl 3 rfl) ?_
  refine lv_iconst (v := 2) hx hb dL_law_662 (by decide) ?_
  refine lv_iadd hx hb dL_law_663 ?_
  refine va_sld hx hb hX hbl hbA hw.2.2.2 hi2 dL_law_664 ?_
  refine lv_aload_n hx hb dL_law_665 rfl (lv_at hl 0 rfl) ?_
  refine lv_iload_n hx hb dL_law_666 rfl (lv_at hl 3 rfl) ?_
  refine lv_iconst (v := 3) hx hb dL_law_667 (by decide) ?_
  refine lv_iadd hx hb dL_law_668 ?_
  refine va_sld hx hb hX hbl hbA hw.2.2.2 hi3 dL_law_669 ?_
  refine lv_i2l (v := (xs (nI n + 3).toNatClampNeg).toInt64) hx hb dL_law_670 rfl ?_
  refine lv_bipush (v := 32) hx hb dL_law_671 (by decide) ?_
  refine lv_lshl (v := ((xs (nI n + 3).toNatClampNeg).toInt64 <<< ((32 : Int32).toInt64 &&& 63))) hx hb dL_law_673 rfl ?_
  refine lv_aload_n hx hb dL_law_674 rfl (lv_at hl 0 rfl) ?_
  refine lv_iload_n hx hb dL_law_675 rfl (lv_at hl 3 rfl) ?_
  refine lv_iconst (v := 4) hx hb dL_law_676 (by decide) ?_
  refine lv_iadd hx hb dL_law_677 ?_
  refine va_sld hx hb hX hbl hbA hw.2.2.2 hi4 dL_law_678 ?_
  refine lv_i2l (v := (xs (nI n + 4).toNatClampNeg).toInt64) hx hb dL_law_679 rfl ?_
  refine lv_ldc2 (v := 4294967295) hx hb F.ow (F.ts _ kc_L_77) dL_law_680 ?_
  refine lv_land hx hb dL_law_683 ?_
  refine lv_lor hx hb dL_law_684 ?_
  refine ctL (av := [.int ((xs (nI n + 1).toNatClampNeg)), .int ((xs (nI n + 2).toNatClampNeg)), .long ((((xs (nI n + 3).toNatClampNeg).toInt64 <<< ((32 : Int32).toInt64 &&& 63)) ||| ((xs (nI n + 4).toNatClampNeg).toInt64 &&& 4294967295)))]) (st0 := ([] : List Value)) (st1 := ([.int z1.1] : List Value)) F hw hA (k_X4_put e1) kl_L_79 kd_X4_put rfl ⟨by decide, by decide⟩ ⟨by decide, by decide⟩ 21 rfl rfl hl.1 rfl (Nat.le_of_ble_eq_true rfl) dL_law_685 rfl (fun H locs hw => ?_)
  refine lv_aload_n hx hb dL_law_688 rfl (lv_at hl 2 rfl) ?_
  refine lv_aload_n hx hb dL_law_689 rfl (lv_at hl 0 rfl) ?_
  refine lv_iload_n hx hb dL_law_690 rfl (lv_at hl 3 rfl) ?_
  refine lv_iconst (v := 1) hx hb dL_law_691 (by decide) ?_
  refine lv_iadd hx hb dL_law_692 ?_
  refine va_sld hx hb hX hbl hbA hw.2.2.2 hi1 dL_law_693 ?_
  refine lv_aload_n hx hb dL_law_694 rfl (lv_at hl 0 rfl) ?_
  refine lv_iload_n hx hb dL_law_695 rfl (lv_at hl 3 rfl) ?_
  refine lv_iconst (v := 2) hx hb dL_law_696 (by decide) ?_
  refine lv_iadd hx hb dL_law_697 ?_
  refine va_sld hx hb hX hbl hbA hw.2.2.2 hi2 dL_law_698 ?_
  refine lv_aload_n hx hb dL_law_699 rfl (lv_at hl 0 rfl) ?_
  refine lv_iload_n hx hb dL_law_700 rfl (lv_at hl 3 rfl) ?_
  refine lv_iconst (v := 3) hx hb dL_law_701 (by decide) ?_
  refine lv_iadd hx hb dL_law_702 ?_
  refine va_sld hx hb hX hbl hbA hw.2.2.2 hi3 dL_law_703 ?_
  refine lv_i2l (v := (xs (nI n + 3).toNatClampNeg).toInt64) hx hb dL_law_704 rfl ?_
  refine lv_bipush (v := 32) hx hb dL_law_705 (by decide) ?_
  refine lv_lshl (v := ((xs (nI n + 3).toNatClampNeg).toInt64 <<< ((32 : Int32).toInt64 &&& 63))) hx hb dL_law_707 rfl ?_
  refine lv_aload_n hx hb dL_law_708 rfl (lv_at hl 0 rfl) ?_
  refine lv_iload_n hx hb dL_law_709 rfl (lv_at hl 3 rfl) ?_
  refine lv_iconst (v := 4) hx hb dL_law_710 (by decide) ?_
  refine lv_iadd hx hb dL_law_711 ?_
  refine va_sld hx hb hX hbl hbA hw.2.2.2 hi4 dL_law_712 ?_
  refine lv_i2l (v := (xs (nI n + 4).toNatClampNeg).toInt64) hx hb dL_law_713 rfl ?_
  refine lv_ldc2 (v := 4294967295) hx hb F.ow (F.ts _ kc_L_77) dL_law_714 ?_
  refine lv_land hx hb dL_law_717 ?_
  refine lv_lor hx hb dL_law_718 ?_
  refine ctL (av := [.int ((xs (nI n + 1).toNatClampNeg)), .int ((xs (nI n + 2).toNatClampNeg)), .long ((((xs (nI n + 3).toNatClampNeg).toInt64 <<< ((32 : Int32).toInt64 &&& 63)) ||| ((xs (nI n + 4).toNatClampNeg).toInt64 &&& 4294967295)))]) (st0 := ([.int z1.1] : List Value)) (st1 := ([.int z2.1, .int z1.1] : List Value)) F hw.sw hA (k_X5_put e2) kl_L_83 kd_X5_put rfl ⟨by decide, by decide⟩ ⟨by decide, by decide⟩ 0 rfl rfl hl.1 rfl (Nat.le_of_ble_eq_true rfl) dL_law_719 rfl (fun H locs hw => ?_)
  replace hw := hw.ws
  exact lv_icmp_eq (tgt := 1493) hx hb dL_law_722 (by decide) (fun _ => hN _ _ _ _ _ _ _ _ _ _ _ _ _ _ _ _ _ _ _ _ _ _ _ _ _ _ _ _ _ _ _ _ _ _ _ _ _ _ _ _ _ _ _ _ _ _ _ _ _ _ _ _ _ _ _ _ _ _ hR2 H locs ls hw hl) (fun q => absurd he q)
set_option maxHeartbeats 4000000 in
set_option maxRecDepth 100000 in
theorem law_c16 (F : Fx p s m #[Value.ref b] meth c code 4 R_law ret) (hX : va_X b L xs s s.heap) (hbl : b < s.heap.size) (hbA : ¬ A b) (hA : ∀ x, s.heap.size ≤ x → A x) {n : Nat} (hn : n + 5 ≤ L) (hL : L ≤ 2560) {zp : Int32} {ze : Int32} {zf : Int32} {zg : Int32} {zn : Int32} {aG : Nat → Int32} {aW : Nat → Int32} {aR : Nat → Int32} {aN : Nat → Int32} {aF : Nat → Int32} {lC : Nat → Int64} {lS : Nat → Int64} {lP : Nat → Int64} {lX : Nat → Int64} {ztc : Int32} {aTs : Nat → Int32} {aTn : Nat → Int32} {zoc : Int32} {aOs : Nat → Int32} {aOn : Nat → Int32} {aTp : Nat → Int32} {zln : Int32} {zpl : Int32} {zfa : Int32} {aSz : Nat → Int32} {zit : Int32} {zip : Int32} {zic : Int32} {zig : Int32} {M : Nat → Nat → Int64} {yp : Int32} {ye : Int32} {yg : Int32} {bPo : Nat → Int32} {bTb : Nat → Int32} {wSh : Nat → Int64} {wTe : Nat → Int64} {wNx : Nat → Int64} {bOs : Nat → Int32} {bOn : Nat → Int32} {yop : Int32} {bSo : Nat → Int32} {bNu : Nat → Int32} {ytr : Int32} {yiw : Int32} {wMa : Nat → Int64} {wPr : Nat → Int64} {bTp : Nat → Int32} {yln : Int32} {ypl : Int32} {yfa : Int32} {wLi : Nat → Int64} {bSi : Nat → Int32} {yhp : Int32} {yhe : Int32} {yhg : Int32} {wHs : Nat → Int64} {yhi : Int32} (hR : Rel zp ze zf zg zn aG aW aR aN aF lC lS lP lX ztc aTs aTn zoc aOs aOn aTp zln zpl zfa aSz zit zip zic zig M yp ye yg bPo bTb wSh wTe wNx bOs bOn yop bSo bNu ytr yiw wMa wPr bTp yln ypl yfa wLi bSi yhp yhe yhg wHs yhi) (hN : LwN p l e s m below meth c b n G A q q2) {H : Heap} {locs : List Loc} {ls : Array Slot} (hw : Wd G s A (kW G q zp ze zf zg zn aG aW aR aN aF lC lS lP lX ++ (oW G q ztc aTs aTn zoc aOs aOn aTp zln zpl zfa aSz zit zip zic zig M ++ (mW G q2 yp ye yg bPo bTb wSh wTe wNx bOs bOn yop bSo bNu ytr yiw wMa wPr bTp yln ypl yfa wLi bSi yhp yhe yhg wHs yhi ++ []))) H locs) (hl : lv_has ls 4 [(0, .ref b), (1, .ref (q 21)), (2, .ref (q2 0)), (3, .int (nI n))]) : lwW p l e s m below meth c b H locs (F0 m 727 ls []) := by
  have hx := F.x
  have hb := F.b
  have hi1 : vp_in (nI n + 1) L := by rw [show nI n + 1 = nI (n + 1) from nI_add n 1]; exact vp_in_nI (by omega) (by omega)
  have hi2 : vp_in (nI n + 2) L := by rw [show nI n + 2 = nI (n + 2) from nI_add n 2]; exact vp_in_nI (by omega) (by omega)
  obtain ⟨z1, z2, e1, e2, he, hR2⟩ := op_of hR ((xs (nI n + 1).toNatClampNeg)) ((xs (nI n + 2).toNatClampNeg))
  refine lv_aload_n hx hb dL_law_727 rfl (lv_at hl 1 rfl) ?_
  refine lv_aload_n hx hb dL_law_728 rfl (lv_at hl 0 rfl) ?_
  refine lv_iload_n hx hb dL_law_729 rfl (lv_at hl 3 rfl) ?_
  refine lv_iconst (v := 1) hx hb dL_law_730 (by decide) ?_
  refine lv_iadd hx hb dL_law_731 ?_
  refine va_sld hx hb hX hbl hbA hw.2.2.2 hi1 dL_law_732 ?_
  refine lv_aload_n hx hb dL_law_733 rfl (lv_at hl 0 rfl) ?_
  refine lv_iload_n hx hb dL_law_734 rfl (lv_at hl 3 rfl) ?_
  refine lv_iconst (v := 2) hx hb dL_law_735 (by decide) ?_
  refine lv_iadd hx hb dL_law_736 ?_
  refine va_sld hx hb hX hbl hbA hw.2.2.2 hi2 dL_law_737 ?_
  refine ctL (av := [.int ((xs (nI n + 1).toNatClampNeg)), .int ((xs (nI n + 2).toNatClampNeg))]) (st0 := ([] : List Value)) (st1 := ([.long (z1)] : List Value)) F hw hA (k_X4_of e1) kl_L_84 kd_X4_of rfl ⟨by decide, by decide⟩ ⟨by decide, by decide⟩ 21 rfl rfl hl.1 rfl (Nat.le_of_ble_eq_true rfl) dL_law_738 rfl (fun H locs hw => ?_)
  refine lv_aload_n hx hb dL_law_741 rfl (lv_at hl 2 rfl) ?_
  refine lv_aload_n hx hb dL_law_742 rfl (lv_at hl 0 rfl) ?_
  refine lv_iload_n hx hb dL_law_743 rfl (lv_at hl 3 rfl) ?_
  refine lv_iconst (v := 1) hx hb dL_law_744 (by decide) ?_
  refine lv_iadd hx hb dL_law_745 ?_
  refine va_sld hx hb hX hbl hbA hw.2.2.2 hi1 dL_law_746 ?_
  refine lv_aload_n hx hb dL_law_747 rfl (lv_at hl 0 rfl) ?_
  refine lv_iload_n hx hb dL_law_748 rfl (lv_at hl 3 rfl) ?_
  refine lv_iconst (v := 2) hx hb dL_law_749 (by decide) ?_
  refine lv_iadd hx hb dL_law_750 ?_
  refine va_sld hx hb hX hbl hbA hw.2.2.2 hi2 dL_law_751 ?_
  refine ctL (av := [.int ((xs (nI n + 1).toNatClampNeg)), .int ((xs (nI n + 2).toNatClampNeg))]) (st0 := ([.long (z1)] : List Value)) (st1 := ([.long (z2), .long (z1)] : List Value)) F hw.sw hA (k_X5_of e2) kl_L_88 kd_X5_of rfl ⟨by decide, by decide⟩ ⟨by decide, by decide⟩ 0 rfl rfl hl.1 rfl (Nat.le_of_ble_eq_true rfl) dL_law_752 rfl (fun H locs hw => ?_)
  replace hw := hw.ws
  refine W.lcmp hx hb dL_law_755 ?_
  exact lv_if_eq (tgt := 1493) hx hb dL_law_756 (by decide) (fun _ => hN _ _ _ _ _ _ _ _ _ _ _ _ _ _ _ _ _ _ _ _ _ _ _ _ _ _ _ _ _ _ _ _ _ _ _ _ _ _ _ _ _ _ _ _ _ _ _ _ _ _ _ _ _ _ _ _ _ _ hR2 H locs ls hw hl) (fun q => absurd (by rw [he]; exact lg_cmp_same _) q)
set_option maxHeartbeats 4000000 in
set_option maxRecDepth 100000 in
theorem law_c17 (F : Fx p s m #[Value.ref b] meth c code 4 R_law ret) (hX : va_X b L xs s s.heap) (hbl : b < s.heap.size) (hbA : ¬ A b) (hA : ∀ x, s.heap.size ≤ x → A x) {n : Nat} (hn : n + 5 ≤ L) (hL : L ≤ 2560) {zp : Int32} {ze : Int32} {zf : Int32} {zg : Int32} {zn : Int32} {aG : Nat → Int32} {aW : Nat → Int32} {aR : Nat → Int32} {aN : Nat → Int32} {aF : Nat → Int32} {lC : Nat → Int64} {lS : Nat → Int64} {lP : Nat → Int64} {lX : Nat → Int64} {ztc : Int32} {aTs : Nat → Int32} {aTn : Nat → Int32} {zoc : Int32} {aOs : Nat → Int32} {aOn : Nat → Int32} {aTp : Nat → Int32} {zln : Int32} {zpl : Int32} {zfa : Int32} {aSz : Nat → Int32} {zit : Int32} {zip : Int32} {zic : Int32} {zig : Int32} {M : Nat → Nat → Int64} {yp : Int32} {ye : Int32} {yg : Int32} {bPo : Nat → Int32} {bTb : Nat → Int32} {wSh : Nat → Int64} {wTe : Nat → Int64} {wNx : Nat → Int64} {bOs : Nat → Int32} {bOn : Nat → Int32} {yop : Int32} {bSo : Nat → Int32} {bNu : Nat → Int32} {ytr : Int32} {yiw : Int32} {wMa : Nat → Int64} {wPr : Nat → Int64} {bTp : Nat → Int32} {yln : Int32} {ypl : Int32} {yfa : Int32} {wLi : Nat → Int64} {bSi : Nat → Int32} {yhp : Int32} {yhe : Int32} {yhg : Int32} {wHs : Nat → Int64} {yhi : Int32} (hR : Rel zp ze zf zg zn aG aW aR aN aF lC lS lP lX ztc aTs aTn zoc aOs aOn aTp zln zpl zfa aSz zit zip zic zig M yp ye yg bPo bTb wSh wTe wNx bOs bOn yop bSo bNu ytr yiw wMa wPr bTp yln ypl yfa wLi bSi yhp yhe yhg wHs yhi) (hN : LwN p l e s m below meth c b n G A q q2) {H : Heap} {locs : List Loc} {ls : Array Slot} (hw : Wd G s A (kW G q zp ze zf zg zn aG aW aR aN aF lC lS lP lX ++ (oW G q ztc aTs aTn zoc aOs aOn aTp zln zpl zfa aSz zit zip zic zig M ++ (mW G q2 yp ye yg bPo bTb wSh wTe wNx bOs bOn yop bSo bNu ytr yiw wMa wPr bTp yln ypl yfa wLi bSi yhp yhe yhg wHs yhi ++ []))) H locs) (hl : lv_has ls 4 [(0, .ref b), (1, .ref (q 21)), (2, .ref (q2 0)), (3, .int (nI n))]) : lwW p l e s m below meth c b H locs (F0 m 761 ls []) := by
  have hx := F.x
  have hb := F.b
  have hi1 : vp_in (nI n + 1) L := by rw [show nI n + 1 = nI (n + 1) from nI_add n 1]; exact vp_in_nI (by omega) (by omega)
  have hi2 : vp_in (nI n + 2) L := by rw [show nI n + 2 = nI (n + 2) from nI_add n 2]; exact vp_in_nI (by omega) (by omega)
  obtain ⟨z1, z2, e1, e2, he, hR2⟩ := op_whole hR ((xs (nI n + 1).toNatClampNeg)) ((xs (nI n + 2).toNatClampNeg))
  refine lv_aload_n hx hb dL_law_761 rfl (lv_at hl 1 rfl) ?_
  refine lv_aload_n hx hb dL_law_762 rfl (lv_at hl 0 rfl) ?_
  refine lv_iload_n hx hb dL_law_763 rfl (lv_at hl 3 rfl) ?_
  refine lv_iconst (v := 1) hx hb dL_law_764 (by decide) ?_
  refine lv_iadd hx hb dL_law_765 ?_
  refine va_sld hx hb hX hbl hbA hw.2.2.2 hi1 dL_law_766 ?_
  refine lv_aload_n hx hb dL_law_767 rfl (lv_at hl 0 rfl) ?_
  refine lv_iload_n hx hb dL_law_768 rfl (lv_at hl 3 rfl) ?_
  refine lv_iconst (v := 2) hx hb dL_law_769 (by decide) ?_
  refine lv_iadd hx hb dL_law_770 ?_
  refine va_sld hx hb hX hbl hbA hw.2.2.2 hi2 dL_law_771 ?_
  refine ctL (av := [.int ((xs (nI n + 1).toNatClampNeg)), .int ((xs (nI n + 2).toNatClampNeg))]) (st0 := ([] : List Value)) (st1 := ([.int z1.1] : List Value)) F hw hA (k_X4_whole e1) kl_L_89 kd_X4_whole rfl ⟨by decide, by decide⟩ ⟨by decide, by decide⟩ 21 rfl rfl hl.1 rfl (Nat.le_of_ble_eq_true rfl) dL_law_772 rfl (fun H locs hw => ?_)
  refine lv_aload_n hx hb dL_law_775 rfl (lv_at hl 2 rfl) ?_
  refine lv_aload_n hx hb dL_law_776 rfl (lv_at hl 0 rfl) ?_
  refine lv_iload_n hx hb dL_law_777 rfl (lv_at hl 3 rfl) ?_
  refine lv_iconst (v := 1) hx hb dL_law_778 (by decide) ?_
  refine lv_iadd hx hb dL_law_779 ?_
  refine va_sld hx hb hX hbl hbA hw.2.2.2 hi1 dL_law_780 ?_
  refine lv_aload_n hx hb dL_law_781 rfl (lv_at hl 0 rfl) ?_
  refine lv_iload_n hx hb dL_law_782 rfl (lv_at hl 3 rfl) ?_
  refine lv_iconst (v := 2) hx hb dL_law_783 (by decide) ?_
  refine lv_iadd hx hb dL_law_784 ?_
  refine va_sld hx hb hX hbl hbA hw.2.2.2 hi2 dL_law_785 ?_
  refine ctL (av := [.int ((xs (nI n + 1).toNatClampNeg)), .int ((xs (nI n + 2).toNatClampNeg))]) (st0 := ([.int z1.1] : List Value)) (st1 := ([.int z2.1, .int z1.1] : List Value)) F hw.sw hA (k_X5_whole e2) kl_L_92 kd_X5_whole rfl ⟨by decide, by decide⟩ ⟨by decide, by decide⟩ 0 rfl rfl hl.1 rfl (Nat.le_of_ble_eq_true rfl) dL_law_786 rfl (fun H locs hw => ?_)
  replace hw := hw.ws
  exact lv_icmp_eq (tgt := 1493) hx hb dL_law_789 (by decide) (fun _ => hN _ _ _ _ _ _ _ _ _ _ _ _ _ _ _ _ _ _ _ _ _ _ _ _ _ _ _ _ _ _ _ _ _ _ _ _ _ _ _ _ _ _ _ _ _ _ _ _ _ _ _ _ _ _ _ _ _ _ hR2 H locs ls hw hl) (fun q => absurd he q)
set_option maxHeartbeats 4000000 in
set_option maxRecDepth 100000 in
theorem law_c18 (F : Fx p s m #[Value.ref b] meth c code 4 R_law ret) (hX : va_X b L xs s s.heap) (hbl : b < s.heap.size) (hbA : ¬ A b) (hA : ∀ x, s.heap.size ≤ x → A x) {n : Nat} (hn : n + 5 ≤ L) (hL : L ≤ 2560) {zp : Int32} {ze : Int32} {zf : Int32} {zg : Int32} {zn : Int32} {aG : Nat → Int32} {aW : Nat → Int32} {aR : Nat → Int32} {aN : Nat → Int32} {aF : Nat → Int32} {lC : Nat → Int64} {lS : Nat → Int64} {lP : Nat → Int64} {lX : Nat → Int64} {ztc : Int32} {aTs : Nat → Int32} {aTn : Nat → Int32} {zoc : Int32} {aOs : Nat → Int32} {aOn : Nat → Int32} {aTp : Nat → Int32} {zln : Int32} {zpl : Int32} {zfa : Int32} {aSz : Nat → Int32} {zit : Int32} {zip : Int32} {zic : Int32} {zig : Int32} {M : Nat → Nat → Int64} {yp : Int32} {ye : Int32} {yg : Int32} {bPo : Nat → Int32} {bTb : Nat → Int32} {wSh : Nat → Int64} {wTe : Nat → Int64} {wNx : Nat → Int64} {bOs : Nat → Int32} {bOn : Nat → Int32} {yop : Int32} {bSo : Nat → Int32} {bNu : Nat → Int32} {ytr : Int32} {yiw : Int32} {wMa : Nat → Int64} {wPr : Nat → Int64} {bTp : Nat → Int32} {yln : Int32} {ypl : Int32} {yfa : Int32} {wLi : Nat → Int64} {bSi : Nat → Int32} {yhp : Int32} {yhe : Int32} {yhg : Int32} {wHs : Nat → Int64} {yhi : Int32} (hR : Rel zp ze zf zg zn aG aW aR aN aF lC lS lP lX ztc aTs aTn zoc aOs aOn aTp zln zpl zfa aSz zit zip zic zig M yp ye yg bPo bTb wSh wTe wNx bOs bOn yop bSo bNu ytr yiw wMa wPr bTp yln ypl yfa wLi bSi yhp yhe yhg wHs yhi) (hN : LwN p l e s m below meth c b n G A q q2) {H : Heap} {locs : List Loc} {ls : Array Slot} (hw : Wd G s A (kW G q zp ze zf zg zn aG aW aR aN aF lC lS lP lX ++ (oW G q ztc aTs aTn zoc aOs aOn aTp zln zpl zfa aSz zit zip zic zig M ++ (mW G q2 yp ye yg bPo bTb wSh wTe wNx bOs bOn yop bSo bNu ytr yiw wMa wPr bTp yln ypl yfa wLi bSi yhp yhe yhg wHs yhi ++ []))) H locs) (hl : lv_has ls 4 [(0, .ref b), (1, .ref (q 21)), (2, .ref (q2 0)), (3, .int (nI n))]) : lwW p l e s m below meth c b H locs (F0 m 794 ls []) := by
  have hx := F.x
  have hb := F.b
  have hi1 : vp_in (nI n + 1) L := by rw [show nI n + 1 = nI (n + 1) from nI_add n 1]; exact vp_in_nI (by omega) (by omega)
  have hi2 : vp_in (nI n + 2) L := by rw [show nI n + 2 = nI (n + 2) from nI_add n 2]; exact vp_in_nI (by omega) (by omega)
  obtain ⟨z1, z2, e1, e2, he, hR2⟩ := op_period hR ((xs (nI n + 1).toNatClampNeg)) ((xs (nI n + 2).toNatClampNeg))
  refine lv_aload_n hx hb dL_law_794 rfl (lv_at hl 1 rfl) ?_
  refine lv_aload_n hx hb dL_law_795 rfl (lv_at hl 0 rfl) ?_
  refine lv_iload_n hx hb dL_law_796 rfl (lv_at hl 3 rfl) ?_
  refine lv_iconst (v := 1) hx hb dL_law_797 (by decide) ?_
  refine lv_iadd hx hb dL_law_798 ?_
  refine va_sld hx hb hX hbl hbA hw.2.2.2 hi1 dL_law_799 ?_
  refine lv_aload_n hx hb dL_law_800 rfl (lv_at hl 0 rfl) ?_
  refine lv_iload_n hx hb dL_law_801 rfl (lv_at hl 3 rfl) ?_
  refine lv_iconst (v := 2) hx hb dL_law_802 (by decide) ?_
  refine lv_iadd hx hb dL_law_803 ?_
  refine va_sld hx hb hX hbl hbA hw.2.2.2 hi2 dL_law_804 ?_
  refine ctL (av := [.int ((xs (nI n + 1).toNatClampNeg)), .int ((xs (nI n + 2).toNatClampNeg))]) (st0 := ([] : List Value)) (st1 := ([.int z1.1] : List Value)) F hw hA (k_X4_period e1) kl_L_93 kd_X4_period rfl ⟨by decide, by decide⟩ ⟨by decide, by decide⟩ 21 rfl rfl hl.1 rfl (Nat.le_of_ble_eq_true rfl) dL_law_805 rfl (fun H locs hw => ?_)
  refine lv_aload_n hx hb dL_law_808 rfl (lv_at hl 2 rfl) ?_
  refine lv_aload_n hx hb dL_law_809 rfl (lv_at hl 0 rfl) ?_
  refine lv_iload_n hx hb dL_law_810 rfl (lv_at hl 3 rfl) ?_
  refine lv_iconst (v := 1) hx hb dL_law_811 (by decide) ?_
  refine lv_iadd hx hb dL_law_812 ?_
  refine va_sld hx hb hX hbl hbA hw.2.2.2 hi1 dL_law_813 ?_
  refine lv_aload_n hx hb dL_law_814 rfl (lv_at hl 0 rfl) ?_
  refine lv_iload_n hx hb dL_law_815 rfl (lv_at hl 3 rfl) ?_
  refine lv_iconst (v := 2) hx hb dL_law_816 (by decide) ?_
  refine lv_iadd hx hb dL_law_817 ?_
  refine va_sld hx hb hX hbl hbA hw.2.2.2 hi2 dL_law_818 ?_
  refine ctL (av := [.int ((xs (nI n + 1).toNatClampNeg)), .int ((xs (nI n + 2).toNatClampNeg))]) (st0 := ([.int z1.1] : List Value)) (st1 := ([.int z2.1, .int z1.1] : List Value)) F hw.sw hA (k_X5_period e2) kl_L_96 kd_X5_period rfl ⟨by decide, by decide⟩ ⟨by decide, by decide⟩ 0 rfl rfl hl.1 rfl (Nat.le_of_ble_eq_true rfl) dL_law_819 rfl (fun H locs hw => ?_)
  replace hw := hw.ws
  exact lv_icmp_eq (tgt := 1493) hx hb dL_law_822 (by decide) (fun _ => hN _ _ _ _ _ _ _ _ _ _ _ _ _ _ _ _ _ _ _ _ _ _ _ _ _ _ _ _ _ _ _ _ _ _ _ _ _ _ _ _ _ _ _ _ _ _ _ _ _ _ _ _ _ _ _ _ _ _ hR2 H locs ls hw hl) (fun q => absurd he q)
set_option maxHeartbeats 4000000 in
set_option maxRecDepth 100000 in
theorem law_c19 (F : Fx p s m #[Value.ref b] meth c code 4 R_law ret) (hX : va_X b L xs s s.heap) (hbl : b < s.heap.size) (hbA : ¬ A b) (hA : ∀ x, s.heap.size ≤ x → A x) {n : Nat} (hn : n + 5 ≤ L) (hL : L ≤ 2560) {zp : Int32} {ze : Int32} {zf : Int32} {zg : Int32} {zn : Int32} {aG : Nat → Int32} {aW : Nat → Int32} {aR : Nat → Int32} {aN : Nat → Int32} {aF : Nat → Int32} {lC : Nat → Int64} {lS : Nat → Int64} {lP : Nat → Int64} {lX : Nat → Int64} {ztc : Int32} {aTs : Nat → Int32} {aTn : Nat → Int32} {zoc : Int32} {aOs : Nat → Int32} {aOn : Nat → Int32} {aTp : Nat → Int32} {zln : Int32} {zpl : Int32} {zfa : Int32} {aSz : Nat → Int32} {zit : Int32} {zip : Int32} {zic : Int32} {zig : Int32} {M : Nat → Nat → Int64} {yp : Int32} {ye : Int32} {yg : Int32} {bPo : Nat → Int32} {bTb : Nat → Int32} {wSh : Nat → Int64} {wTe : Nat → Int64} {wNx : Nat → Int64} {bOs : Nat → Int32} {bOn : Nat → Int32} {yop : Int32} {bSo : Nat → Int32} {bNu : Nat → Int32} {ytr : Int32} {yiw : Int32} {wMa : Nat → Int64} {wPr : Nat → Int64} {bTp : Nat → Int32} {yln : Int32} {ypl : Int32} {yfa : Int32} {wLi : Nat → Int64} {bSi : Nat → Int32} {yhp : Int32} {yhe : Int32} {yhg : Int32} {wHs : Nat → Int64} {yhi : Int32} (hR : Rel zp ze zf zg zn aG aW aR aN aF lC lS lP lX ztc aTs aTn zoc aOs aOn aTp zln zpl zfa aSz zit zip zic zig M yp ye yg bPo bTb wSh wTe wNx bOs bOn yop bSo bNu ytr yiw wMa wPr bTp yln ypl yfa wLi bSi yhp yhe yhg wHs yhi) (hN : LwN p l e s m below meth c b n G A q q2) {H : Heap} {locs : List Loc} {ls : Array Slot} (hw : Wd G s A (kW G q zp ze zf zg zn aG aW aR aN aF lC lS lP lX ++ (oW G q ztc aTs aTn zoc aOs aOn aTp zln zpl zfa aSz zit zip zic zig M ++ (mW G q2 yp ye yg bPo bTb wSh wTe wNx bOs bOn yop bSo bNu ytr yiw wMa wPr bTp yln ypl yfa wLi bSi yhp yhe yhg wHs yhi ++ []))) H locs) (hl : lv_has ls 4 [(0, .ref b), (1, .ref (q 21)), (2, .ref (q2 0)), (3, .int (nI n))]) : lwW p l e s m below meth c b H locs (F0 m 827 ls []) := by
  have hx := F.x
  have hb := F.b
  have hi1 : vp_in (nI n + 1) L := by rw [show nI n + 1 = nI (n + 1) from nI_add n 1]; exact vp_in_nI (by omega) (by omega)
  have hi2 : vp_in (nI n + 2) L := by rw [show nI n + 2 = nI (n + 2) from nI_add n 2]; exact vp_in_nI (by omega) (by omega)
  have hi3 : vp_in (nI n + 3) L := by rw [show nI n + 3 = nI (n + 3) from nI_add n 3]; exact vp_in_nI (by omega) (by omega)
  obtain ⟨z1, z2, e1, e2, he, hR2⟩ := op_add hR ((xs (nI n + 1).toNatClampNeg)) ((xs (nI n + 2).toNatClampNeg)) ((xs (nI n + 3).toNatClampNeg))
  refine lv_aload_n hx hb dL_law_827 rfl (lv_at hl 1 rfl) ?_
  refine lv_aload_n hx hb dL_law_828 rfl (lv_at hl 0 rfl) ?_
  refine lv_iload_n hx hb dL_law_829 rfl (lv_at hl 3 rfl) ?_
  refine lv_iconst (v := 1) hx hb dL_law_830 (by decide) ?_
  refine lv_iadd hx hb dL_law_831 ?_
  refine va_sld hx hb hX hbl hbA hw.2.2.2 hi1 dL_law_832 ?_
  refine lv_aload_n hx hb dL_law_833 rfl (lv_at hl 0 rfl) ?_
  refine lv_iload_n hx hb dL_law_834 rfl (lv_at hl 3 rfl) ?_
  refine lv_iconst (v := 2) hx hb dL_law_835 (by decide) ?_
  refine lv_iadd hx hb dL_law_836 ?_
  refine va_sld hx hb hX hbl hbA hw.2.2.2 hi2 dL_law_837 ?_
  refine lv_aload_n hx hb dL_law_838 rfl (lv_at hl 0 rfl) ?_
  refine lv_iload_n hx hb dL_law_839 rfl (lv_at hl 3 rfl) ?_
  refine lv_iconst (v := 3) hx hb dL_law_840 (by decide) ?_
  refine lv_iadd hx hb dL_law_841 ?_
  refine va_sld hx hb hX hbl hbA hw.2.2.2 hi3 dL_law_842 ?_
  refine ctL (av := [.int ((xs (nI n + 1).toNatClampNeg)), .int ((xs (nI n + 2).toNatClampNeg)), .int ((xs (nI n + 3).toNatClampNeg))]) (st0 := ([] : List Value)) (st1 := ([.int z1.1] : List Value)) F hw hA (k_X4_add e1) kl_L_97 kd_X4_add rfl ⟨by decide, by decide⟩ ⟨by decide, by decide⟩ 21 rfl rfl hl.1 rfl (Nat.le_of_ble_eq_true rfl) dL_law_843 rfl (fun H locs hw => ?_)
  refine lv_aload_n hx hb dL_law_846 rfl (lv_at hl 2 rfl) ?_
  refine lv_aload_n hx hb dL_law_847 rfl (lv_at hl 0 rfl) ?_
  refine lv_iload_n hx hb dL_law_848 rfl (lv_at hl 3 rfl) ?_
  refine lv_iconst (v := 1) hx hb dL_law_849 (by decide) ?_
  refine lv_iadd hx hb dL_law_850 ?_
  refine va_sld hx hb hX hbl hbA hw.2.2.2 hi1 dL_law_851 ?_
  refine lv_aload_n hx hb dL_law_852 rfl (lv_at hl 0 rfl) ?_
  refine lv_iload_n hx hb dL_law_853 rfl (lv_at hl 3 rfl) ?_
  refine lv_iconst (v := 2) hx hb dL_law_854 (by decide) ?_
  refine lv_iadd hx hb dL_law_855 ?_
  refine va_sld hx hb hX hbl hbA hw.2.2.2 hi2 dL_law_856 ?_
  refine lv_aload_n hx hb dL_law_857 rfl (lv_at hl 0 rfl) ?_
  refine lv_iload_n hx hb dL_law_858 rfl (lv_at hl 3 rfl) ?_
  refine lv_iconst (v := 3) hx hb dL_law_859 (by decide) ?_
  refine lv_iadd hx hb dL_law_860 ?_
  refine va_sld hx hb hX hbl hbA hw.2.2.2 hi3 dL_law_861 ?_
  refine ctL (av := [.int ((xs (nI n + 1).toNatClampNeg)), .int ((xs (nI n + 2).toNatClampNeg)), .int ((xs (nI n + 3).toNatClampNeg))]) (st0 := ([.int z1.1] : List Value)) (st1 := ([.int z2.1, .int z1.1] : List Value)) F hw.sw hA (k_X5_add e2) kl_L_100 kd_X5_add rfl ⟨by decide, by decide⟩ ⟨by decide, by decide⟩ 0 rfl rfl hl.1 rfl (Nat.le_of_ble_eq_true rfl) dL_law_862 rfl (fun H locs hw => ?_)
  replace hw := hw.ws
  exact lv_icmp_eq (tgt := 1493) hx hb dL_law_865 (by decide) (fun _ => hN _ _ _ _ _ _ _ _ _ _ _ _ _ _ _ _ _ _ _ _ _ _ _ _ _ _ _ _ _ _ _ _ _ _ _ _ _ _ _ _ _ _ _ _ _ _ _ _ _ _ _ _ _ _ _ _ _ _ hR2 H locs ls hw hl) (fun q => absurd he q)
set_option maxHeartbeats 4000000 in
set_option maxRecDepth 100000 in
theorem law_c20 (F : Fx p s m #[Value.ref b] meth c code 4 R_law ret) (hX : va_X b L xs s s.heap) (hbl : b < s.heap.size) (hbA : ¬ A b) (hA : ∀ x, s.heap.size ≤ x → A x) {n : Nat} (hn : n + 5 ≤ L) (hL : L ≤ 2560) {zp : Int32} {ze : Int32} {zf : Int32} {zg : Int32} {zn : Int32} {aG : Nat → Int32} {aW : Nat → Int32} {aR : Nat → Int32} {aN : Nat → Int32} {aF : Nat → Int32} {lC : Nat → Int64} {lS : Nat → Int64} {lP : Nat → Int64} {lX : Nat → Int64} {ztc : Int32} {aTs : Nat → Int32} {aTn : Nat → Int32} {zoc : Int32} {aOs : Nat → Int32} {aOn : Nat → Int32} {aTp : Nat → Int32} {zln : Int32} {zpl : Int32} {zfa : Int32} {aSz : Nat → Int32} {zit : Int32} {zip : Int32} {zic : Int32} {zig : Int32} {M : Nat → Nat → Int64} {yp : Int32} {ye : Int32} {yg : Int32} {bPo : Nat → Int32} {bTb : Nat → Int32} {wSh : Nat → Int64} {wTe : Nat → Int64} {wNx : Nat → Int64} {bOs : Nat → Int32} {bOn : Nat → Int32} {yop : Int32} {bSo : Nat → Int32} {bNu : Nat → Int32} {ytr : Int32} {yiw : Int32} {wMa : Nat → Int64} {wPr : Nat → Int64} {bTp : Nat → Int32} {yln : Int32} {ypl : Int32} {yfa : Int32} {wLi : Nat → Int64} {bSi : Nat → Int32} {yhp : Int32} {yhe : Int32} {yhg : Int32} {wHs : Nat → Int64} {yhi : Int32} (hR : Rel zp ze zf zg zn aG aW aR aN aF lC lS lP lX ztc aTs aTn zoc aOs aOn aTp zln zpl zfa aSz zit zip zic zig M yp ye yg bPo bTb wSh wTe wNx bOs bOn yop bSo bNu ytr yiw wMa wPr bTp yln ypl yfa wLi bSi yhp yhe yhg wHs yhi) (hN : LwN p l e s m below meth c b n G A q q2) {H : Heap} {locs : List Loc} {ls : Array Slot} (hw : Wd G s A (kW G q zp ze zf zg zn aG aW aR aN aF lC lS lP lX ++ (oW G q ztc aTs aTn zoc aOs aOn aTp zln zpl zfa aSz zit zip zic zig M ++ (mW G q2 yp ye yg bPo bTb wSh wTe wNx bOs bOn yop bSo bNu ytr yiw wMa wPr bTp yln ypl yfa wLi bSi yhp yhe yhg wHs yhi ++ []))) H locs) (hl : lv_has ls 4 [(0, .ref b), (1, .ref (q 21)), (2, .ref (q2 0)), (3, .int (nI n))]) : lwW p l e s m below meth c b H locs (F0 m 870 ls []) := by
  have hx := F.x
  have hb := F.b
  have hi1 : vp_in (nI n + 1) L := by rw [show nI n + 1 = nI (n + 1) from nI_add n 1]; exact vp_in_nI (by omega) (by omega)
  have hi2 : vp_in (nI n + 2) L := by rw [show nI n + 2 = nI (n + 2) from nI_add n 2]; exact vp_in_nI (by omega) (by omega)
  have hi3 : vp_in (nI n + 3) L := by rw [show nI n + 3 = nI (n + 3) from nI_add n 3]; exact vp_in_nI (by omega) (by omega)
  obtain ⟨z1, z2, e1, e2, he, hR2⟩ := op_less hR ((xs (nI n + 1).toNatClampNeg)) ((xs (nI n + 2).toNatClampNeg)) ((xs (nI n + 3).toNatClampNeg))
  refine lv_aload_n hx hb dL_law_870 rfl (lv_at hl 1 rfl) ?_
  refine lv_aload_n hx hb dL_law_871 rfl (lv_at hl 0 rfl) ?_
  refine lv_iload_n hx hb dL_law_872 rfl (lv_at hl 3 rfl) ?_
  refine lv_iconst (v := 1) hx hb dL_law_873 (by decide) ?_
  refine lv_iadd hx hb dL_law_874 ?_
  refine va_sld hx hb hX hbl hbA hw.2.2.2 hi1 dL_law_875 ?_
  refine lv_aload_n hx hb dL_law_876 rfl (lv_at hl 0 rfl) ?_
  refine lv_iload_n hx hb dL_law_877 rfl (lv_at hl 3 rfl) ?_
  refine lv_iconst (v := 2) hx hb dL_law_878 (by decide) ?_
  refine lv_iadd hx hb dL_law_879 ?_
  refine va_sld hx hb hX hbl hbA hw.2.2.2 hi2 dL_law_880 ?_
  refine lv_aload_n hx hb dL_law_881 rfl (lv_at hl 0 rfl) ?_
  refine lv_iload_n hx hb dL_law_882 rfl (lv_at hl 3 rfl) ?_
  refine lv_iconst (v := 3) hx hb dL_law_883 (by decide) ?_
  refine lv_iadd hx hb dL_law_884 ?_
  refine va_sld hx hb hX hbl hbA hw.2.2.2 hi3 dL_law_885 ?_
  refine ctL (av := [.int ((xs (nI n + 1).toNatClampNeg)), .int ((xs (nI n + 2).toNatClampNeg)), .int ((xs (nI n + 3).toNatClampNeg))]) (st0 := ([] : List Value)) (st1 := ([.int z1.1] : List Value)) F hw hA (k_X4_less e1) kl_L_101 kd_X4_less rfl ⟨by decide, by decide⟩ ⟨by decide, by decide⟩ 21 rfl rfl hl.1 rfl (Nat.le_of_ble_eq_true rfl) dL_law_886 rfl (fun H locs hw => ?_)
  refine lv_aload_n hx hb dL_law_889 rfl (lv_at hl 2 rfl) ?_
  refine lv_aload_n hx hb dL_law_890 rfl (lv_at hl 0 rfl) ?_
  refine lv_iload_n hx hb dL_law_891 rfl (lv_at hl 3 rfl) ?_
  refine lv_iconst (v := 1) hx hb dL_law_892 (by decide) ?_
  refine lv_iadd hx hb dL_law_893 ?_
  refine va_sld hx hb hX hbl hbA hw.2.2.2 hi1 dL_law_894 ?_
  refine lv_aload_n hx hb dL_law_895 rfl (lv_at hl 0 rfl) ?_
  refine lv_iload_n hx hb dL_law_896 rfl (lv_at hl 3 rfl) ?_
  refine lv_iconst (v := 2) hx hb dL_law_897 (by decide) ?_
  refine lv_iadd hx hb dL_law_898 ?_
  refine va_sld hx hb hX hbl hbA hw.2.2.2 hi2 dL_law_899 ?_
  refine lv_aload_n hx hb dL_law_900 rfl (lv_at hl 0 rfl) ?_
  refine lv_iload_n hx hb dL_law_901 rfl (lv_at hl 3 rfl) ?_
  refine lv_iconst (v := 3) hx hb dL_law_902 (by decide) ?_
  refine lv_iadd hx hb dL_law_903 ?_
  refine va_sld hx hb hX hbl hbA hw.2.2.2 hi3 dL_law_904 ?_
  refine ctL (av := [.int ((xs (nI n + 1).toNatClampNeg)), .int ((xs (nI n + 2).toNatClampNeg)), .int ((xs (nI n + 3).toNatClampNeg))]) (st0 := ([.int z1.1] : List Value)) (st1 := ([.int z2.1, .int z1.1] : List Value)) F hw.sw hA (k_X5_less e2) kl_L_104 kd_X5_less rfl ⟨by decide, by decide⟩ ⟨by decide, by decide⟩ 0 rfl rfl hl.1 rfl (Nat.le_of_ble_eq_true rfl) dL_law_905 rfl (fun H locs hw => ?_)
  replace hw := hw.ws
  exact lv_icmp_eq (tgt := 1493) hx hb dL_law_908 (by decide) (fun _ => hN _ _ _ _ _ _ _ _ _ _ _ _ _ _ _ _ _ _ _ _ _ _ _ _ _ _ _ _ _ _ _ _ _ _ _ _ _ _ _ _ _ _ _ _ _ _ _ _ _ _ _ _ _ _ _ _ _ _ hR2 H locs ls hw hl) (fun q => absurd he q)
set_option maxHeartbeats 4000000 in
set_option maxRecDepth 100000 in
theorem law_c21 (F : Fx p s m #[Value.ref b] meth c code 4 R_law ret) (hX : va_X b L xs s s.heap) (hbl : b < s.heap.size) (hbA : ¬ A b) (hA : ∀ x, s.heap.size ≤ x → A x) {n : Nat} (hn : n + 5 ≤ L) (hL : L ≤ 2560) {zp : Int32} {ze : Int32} {zf : Int32} {zg : Int32} {zn : Int32} {aG : Nat → Int32} {aW : Nat → Int32} {aR : Nat → Int32} {aN : Nat → Int32} {aF : Nat → Int32} {lC : Nat → Int64} {lS : Nat → Int64} {lP : Nat → Int64} {lX : Nat → Int64} {ztc : Int32} {aTs : Nat → Int32} {aTn : Nat → Int32} {zoc : Int32} {aOs : Nat → Int32} {aOn : Nat → Int32} {aTp : Nat → Int32} {zln : Int32} {zpl : Int32} {zfa : Int32} {aSz : Nat → Int32} {zit : Int32} {zip : Int32} {zic : Int32} {zig : Int32} {M : Nat → Nat → Int64} {yp : Int32} {ye : Int32} {yg : Int32} {bPo : Nat → Int32} {bTb : Nat → Int32} {wSh : Nat → Int64} {wTe : Nat → Int64} {wNx : Nat → Int64} {bOs : Nat → Int32} {bOn : Nat → Int32} {yop : Int32} {bSo : Nat → Int32} {bNu : Nat → Int32} {ytr : Int32} {yiw : Int32} {wMa : Nat → Int64} {wPr : Nat → Int64} {bTp : Nat → Int32} {yln : Int32} {ypl : Int32} {yfa : Int32} {wLi : Nat → Int64} {bSi : Nat → Int32} {yhp : Int32} {yhe : Int32} {yhg : Int32} {wHs : Nat → Int64} {yhi : Int32} (hR : Rel zp ze zf zg zn aG aW aR aN aF lC lS lP lX ztc aTs aTn zoc aOs aOn aTp zln zpl zfa aSz zit zip zic zig M yp ye yg bPo bTb wSh wTe wNx bOs bOn yop bSo bNu ytr yiw wMa wPr bTp yln ypl yfa wLi bSi yhp yhe yhg wHs yhi) (hN : LwN p l e s m below meth c b n G A q q2) {H : Heap} {locs : List Loc} {ls : Array Slot} (hw : Wd G s A (kW G q zp ze zf zg zn aG aW aR aN aF lC lS lP lX ++ (oW G q ztc aTs aTn zoc aOs aOn aTp zln zpl zfa aSz zit zip zic zig M ++ (mW G q2 yp ye yg bPo bTb wSh wTe wNx bOs bOn yop bSo bNu ytr yiw wMa wPr bTp yln ypl yfa wLi bSi yhp yhe yhg wHs yhi ++ []))) H locs) (hl : lv_has ls 4 [(0, .ref b), (1, .ref (q 21)), (2, .ref (q2 0)), (3, .int (nI n))]) : lwW p l e s m below meth c b H locs (F0 m 913 ls []) := by
  have hx := F.x
  have hb := F.b
  have hi1 : vp_in (nI n + 1) L := by rw [show nI n + 1 = nI (n + 1) from nI_add n 1]; exact vp_in_nI (by omega) (by omega)
  have hi2 : vp_in (nI n + 2) L := by rw [show nI n + 2 = nI (n + 2) from nI_add n 2]; exact vp_in_nI (by omega) (by omega)
  have hi3 : vp_in (nI n + 3) L := by rw [show nI n + 3 = nI (n + 3) from nI_add n 3]; exact vp_in_nI (by omega) (by omega)
  obtain ⟨z1, z2, e1, e2, he, hR2⟩ := op_product hR ((xs (nI n + 1).toNatClampNeg)) ((xs (nI n + 2).toNatClampNeg)) ((xs (nI n + 3).toNatClampNeg))
  refine lv_aload_n hx hb dL_law_913 rfl (lv_at hl 1 rfl) ?_
  refine lv_aload_n hx hb dL_law_914 rfl (lv_at hl 0 rfl) ?_
  refine lv_iload_n hx hb dL_law_915 rfl (lv_at hl 3 rfl) ?_
  refine lv_iconst (v := 1) hx hb dL_law_916 (by decide) ?_
  refine lv_iadd hx hb dL_law_917 ?_
  refine va_sld hx hb hX hbl hbA hw.2.2.2 hi1 dL_law_918 ?_
  refine lv_aload_n hx hb dL_law_919 rfl (lv_at hl 0 rfl) ?_
  refine lv_iload_n hx hb dL_law_920 rfl (lv_at hl 3 rfl) ?_
  refine lv_iconst (v := 2) hx hb dL_law_921 (by decide) ?_
  refine lv_iadd hx hb dL_law_922 ?_
  refine va_sld hx hb hX hbl hbA hw.2.2.2 hi2 dL_law_923 ?_
  refine lv_aload_n hx hb dL_law_924 rfl (lv_at hl 0 rfl) ?_
  refine lv_iload_n hx hb dL_law_925 rfl (lv_at hl 3 rfl) ?_
  refine lv_iconst (v := 3) hx hb dL_law_926 (by decide) ?_
  refine lv_iadd hx hb dL_law_927 ?_
  refine va_sld hx hb hX hbl hbA hw.2.2.2 hi3 dL_law_928 ?_
  refine ctL (av := [.int ((xs (nI n + 1).toNatClampNeg)), .int ((xs (nI n + 2).toNatClampNeg)), .int ((xs (nI n + 3).toNatClampNeg))]) (st0 := ([] : List Value)) (st1 := ([.int z1.1] : List Value)) F hw hA (k_X4_product e1) kl_L_105 kd_X4_product rfl ⟨by decide, by decide⟩ ⟨by decide, by decide⟩ 21 rfl rfl hl.1 rfl (Nat.le_of_ble_eq_true rfl) dL_law_929 rfl (fun H locs hw => ?_)
  refine lv_aload_n hx hb dL_law_932 rfl (lv_at hl 2 rfl) ?_
  refine lv_aload_n hx hb dL_law_933 rfl (lv_at hl 0 rfl) ?_
  refine lv_iload_n hx hb dL_law_934 rfl (lv_at hl 3 rfl) ?_
  refine lv_iconst (v := 1) hx hb dL_law_935 (by decide) ?_
  refine lv_iadd hx hb dL_law_936 ?_
  refine va_sld hx hb hX hbl hbA hw.2.2.2 hi1 dL_law_937 ?_
  refine lv_aload_n hx hb dL_law_938 rfl (lv_at hl 0 rfl) ?_
  refine lv_iload_n hx hb dL_law_939 rfl (lv_at hl 3 rfl) ?_
  refine lv_iconst (v := 2) hx hb dL_law_940 (by decide) ?_
  refine lv_iadd hx hb dL_law_941 ?_
  refine va_sld hx hb hX hbl hbA hw.2.2.2 hi2 dL_law_942 ?_
  refine lv_aload_n hx hb dL_law_943 rfl (lv_at hl 0 rfl) ?_
  refine lv_iload_n hx hb dL_law_944 rfl (lv_at hl 3 rfl) ?_
  refine lv_iconst (v := 3) hx hb dL_law_945 (by decide) ?_
  refine lv_iadd hx hb dL_law_946 ?_
  refine va_sld hx hb hX hbl hbA hw.2.2.2 hi3 dL_law_947 ?_
  refine ctL (av := [.int ((xs (nI n + 1).toNatClampNeg)), .int ((xs (nI n + 2).toNatClampNeg)), .int ((xs (nI n + 3).toNatClampNeg))]) (st0 := ([.int z1.1] : List Value)) (st1 := ([.int z2.1, .int z1.1] : List Value)) F hw.sw hA (k_X5_product e2) kl_L_108 kd_X5_product rfl ⟨by decide, by decide⟩ ⟨by decide, by decide⟩ 0 rfl rfl hl.1 rfl (Nat.le_of_ble_eq_true rfl) dL_law_948 rfl (fun H locs hw => ?_)
  replace hw := hw.ws
  exact lv_icmp_eq (tgt := 1493) hx hb dL_law_951 (by decide) (fun _ => hN _ _ _ _ _ _ _ _ _ _ _ _ _ _ _ _ _ _ _ _ _ _ _ _ _ _ _ _ _ _ _ _ _ _ _ _ _ _ _ _ _ _ _ _ _ _ _ _ _ _ _ _ _ _ _ _ _ _ hR2 H locs ls hw hl) (fun q => absurd he q)
set_option maxHeartbeats 4000000 in
set_option maxRecDepth 100000 in
theorem law_c22 (F : Fx p s m #[Value.ref b] meth c code 4 R_law ret) (hX : va_X b L xs s s.heap) (hbl : b < s.heap.size) (hbA : ¬ A b) (hA : ∀ x, s.heap.size ≤ x → A x) {n : Nat} (hn : n + 5 ≤ L) (hL : L ≤ 2560) {zp : Int32} {ze : Int32} {zf : Int32} {zg : Int32} {zn : Int32} {aG : Nat → Int32} {aW : Nat → Int32} {aR : Nat → Int32} {aN : Nat → Int32} {aF : Nat → Int32} {lC : Nat → Int64} {lS : Nat → Int64} {lP : Nat → Int64} {lX : Nat → Int64} {ztc : Int32} {aTs : Nat → Int32} {aTn : Nat → Int32} {zoc : Int32} {aOs : Nat → Int32} {aOn : Nat → Int32} {aTp : Nat → Int32} {zln : Int32} {zpl : Int32} {zfa : Int32} {aSz : Nat → Int32} {zit : Int32} {zip : Int32} {zic : Int32} {zig : Int32} {M : Nat → Nat → Int64} {yp : Int32} {ye : Int32} {yg : Int32} {bPo : Nat → Int32} {bTb : Nat → Int32} {wSh : Nat → Int64} {wTe : Nat → Int64} {wNx : Nat → Int64} {bOs : Nat → Int32} {bOn : Nat → Int32} {yop : Int32} {bSo : Nat → Int32} {bNu : Nat → Int32} {ytr : Int32} {yiw : Int32} {wMa : Nat → Int64} {wPr : Nat → Int64} {bTp : Nat → Int32} {yln : Int32} {ypl : Int32} {yfa : Int32} {wLi : Nat → Int64} {bSi : Nat → Int32} {yhp : Int32} {yhe : Int32} {yhg : Int32} {wHs : Nat → Int64} {yhi : Int32} (hR : Rel zp ze zf zg zn aG aW aR aN aF lC lS lP lX ztc aTs aTn zoc aOs aOn aTp zln zpl zfa aSz zit zip zic zig M yp ye yg bPo bTb wSh wTe wNx bOs bOn yop bSo bNu ytr yiw wMa wPr bTp yln ypl yfa wLi bSi yhp yhe yhg wHs yhi) (hN : LwN p l e s m below meth c b n G A q q2) {H : Heap} {locs : List Loc} {ls : Array Slot} (hw : Wd G s A (kW G q zp ze zf zg zn aG aW aR aN aF lC lS lP lX ++ (oW G q ztc aTs aTn zoc aOs aOn aTp zln zpl zfa aSz zit zip zic zig M ++ (mW G q2 yp ye yg bPo bTb wSh wTe wNx bOs bOn yop bSo bNu ytr yiw wMa wPr bTp yln ypl yfa wLi bSi yhp yhe yhg wHs yhi ++ []))) H locs) (hl : lv_has ls 4 [(0, .ref b), (1, .ref (q 21)), (2, .ref (q2 0)), (3, .int (nI n))]) : lwW p l e s m below meth c b H locs (F0 m 956 ls []) := by
  have hx := F.x
  have hb := F.b
  have hi1 : vp_in (nI n + 1) L := by rw [show nI n + 1 = nI (n + 1) from nI_add n 1]; exact vp_in_nI (by omega) (by omega)
  have hi2 : vp_in (nI n + 2) L := by rw [show nI n + 2 = nI (n + 2) from nI_add n 2]; exact vp_in_nI (by omega) (by omega)
  have hi3 : vp_in (nI n + 3) L := by rw [show nI n + 3 = nI (n + 3) from nI_add n 3]; exact vp_in_nI (by omega) (by omega)
  obtain ⟨z1, z2, e1, e2, he, hR2⟩ := op_raise hR ((xs (nI n + 1).toNatClampNeg)) ((xs (nI n + 2).toNatClampNeg)) ((xs (nI n + 3).toNatClampNeg))
  refine lv_aload_n hx hb dL_law_956 rfl (lv_at hl 1 rfl) ?_
  refine lv_aload_n hx hb dL_law_957 rfl (lv_at hl 0 rfl) ?_
  refine lv_iload_n hx hb dL_law_958 rfl (lv_at hl 3 rfl) ?_
  refine lv_iconst (v := 1) hx hb dL_law_959 (by decide) ?_
  refine lv_iadd hx hb dL_law_960 ?_
  refine va_sld hx hb hX hbl hbA hw.2.2.2 hi1 dL_law_961 ?_
  refine lv_aload_n hx hb dL_law_962 rfl (lv_at hl 0 rfl) ?_
  refine lv_iload_n hx hb dL_law_963 rfl (lv_at hl 3 rfl) ?_
  refine lv_iconst (v := 2) hx hb dL_law_964 (by decide) ?_
  refine lv_iadd hx hb dL_law_965 ?_
  refine va_sld hx hb hX hbl hbA hw.2.2.2 hi2 dL_law_966 ?_
  refine lv_aload_n hx hb dL_law_967 rfl (lv_at hl 0 rfl) ?_
  refine lv_iload_n hx hb dL_law_968 rfl (lv_at hl 3 rfl) ?_
  refine lv_iconst (v := 3) hx hb dL_law_969 (by decide) ?_
  refine lv_iadd hx hb dL_law_970 ?_
  refine va_sld hx hb hX hbl hbA hw.2.2.2 hi3 dL_law_971 ?_
  refine ctL (av := [.int ((xs (nI n + 1).toNatClampNeg)), .int ((xs (nI n + 2).toNatClampNeg)), .int ((xs (nI n + 3).toNatClampNeg))]) (st0 := ([] : List Value)) (st1 := ([.int z1.1] : List Value)) F hw hA (k_X4_raise e1) kl_L_109 kd_X4_raise rfl ⟨by decide, by decide⟩ ⟨by decide, by decide⟩ 21 rfl rfl hl.1 rfl (Nat.le_of_ble_eq_true rfl) dL_law_972 rfl (fun H locs hw => ?_)
  refine lv_aload_n hx hb dL_law_975 rfl (lv_at hl 2 rfl) ?_
  refine lv_aload_n hx hb dL_law_976 rfl (lv_at hl 0 rfl) ?_
  refine lv_iload_n hx hb dL_law_977 rfl (lv_at hl 3 rfl) ?_
  refine lv_iconst (v := 1) hx hb dL_law_978 (by decide) ?_
  refine lv_iadd hx hb dL_law_979 ?_
  refine va_sld hx hb hX hbl hbA hw.2.2.2 hi1 dL_law_980 ?_
  refine lv_aload_n hx hb dL_law_981 rfl (lv_at hl 0 rfl) ?_
  refine lv_iload_n hx hb dL_law_982 rfl (lv_at hl 3 rfl) ?_
  refine lv_iconst (v := 2) hx hb dL_law_983 (by decide) ?_
  refine lv_iadd hx hb dL_law_984 ?_
  refine va_sld hx hb hX hbl hbA hw.2.2.2 hi2 dL_law_985 ?_
  refine lv_aload_n hx hb dL_law_986 rfl (lv_at hl 0 rfl) ?_
  refine lv_iload_n hx hb dL_law_987 rfl (lv_at hl 3 rfl) ?_
  refine lv_iconst (v := 3) hx hb dL_law_988 (by decide) ?_
  refine lv_iadd hx hb dL_law_989 ?_
  refine va_sld hx hb hX hbl hbA hw.2.2.2 hi3 dL_law_990 ?_
  refine ctL (av := [.int ((xs (nI n + 1).toNatClampNeg)), .int ((xs (nI n + 2).toNatClampNeg)), .int ((xs (nI n + 3).toNatClampNeg))]) (st0 := ([.int z1.1] : List Value)) (st1 := ([.int z2.1, .int z1.1] : List Value)) F hw.sw hA (k_X5_raise e2) kl_L_112 kd_X5_raise rfl ⟨by decide, by decide⟩ ⟨by decide, by decide⟩ 0 rfl rfl hl.1 rfl (Nat.le_of_ble_eq_true rfl) dL_law_991 rfl (fun H locs hw => ?_)
  replace hw := hw.ws
  exact lv_icmp_eq (tgt := 1493) hx hb dL_law_994 (by decide) (fun _ => hN _ _ _ _ _ _ _ _ _ _ _ _ _ _ _ _ _ _ _ _ _ _ _ _ _ _ _ _ _ _ _ _ _ _ _ _ _ _ _ _ _ _ _ _ _ _ _ _ _ _ _ _ _ _ _ _ _ _ hR2 H locs ls hw hl) (fun q => absurd he q)
set_option maxHeartbeats 4000000 in
set_option maxRecDepth 100000 in
theorem law_c23 (F : Fx p s m #[Value.ref b] meth c code 4 R_law ret) (hX : va_X b L xs s s.heap) (hbl : b < s.heap.size) (hbA : ¬ A b) (hA : ∀ x, s.heap.size ≤ x → A x) {n : Nat} (hn : n + 5 ≤ L) (hL : L ≤ 2560) {zp : Int32} {ze : Int32} {zf : Int32} {zg : Int32} {zn : Int32} {aG : Nat → Int32} {aW : Nat → Int32} {aR : Nat → Int32} {aN : Nat → Int32} {aF : Nat → Int32} {lC : Nat → Int64} {lS : Nat → Int64} {lP : Nat → Int64} {lX : Nat → Int64} {ztc : Int32} {aTs : Nat → Int32} {aTn : Nat → Int32} {zoc : Int32} {aOs : Nat → Int32} {aOn : Nat → Int32} {aTp : Nat → Int32} {zln : Int32} {zpl : Int32} {zfa : Int32} {aSz : Nat → Int32} {zit : Int32} {zip : Int32} {zic : Int32} {zig : Int32} {M : Nat → Nat → Int64} {yp : Int32} {ye : Int32} {yg : Int32} {bPo : Nat → Int32} {bTb : Nat → Int32} {wSh : Nat → Int64} {wTe : Nat → Int64} {wNx : Nat → Int64} {bOs : Nat → Int32} {bOn : Nat → Int32} {yop : Int32} {bSo : Nat → Int32} {bNu : Nat → Int32} {ytr : Int32} {yiw : Int32} {wMa : Nat → Int64} {wPr : Nat → Int64} {bTp : Nat → Int32} {yln : Int32} {ypl : Int32} {yfa : Int32} {wLi : Nat → Int64} {bSi : Nat → Int32} {yhp : Int32} {yhe : Int32} {yhg : Int32} {wHs : Nat → Int64} {yhi : Int32} (hR : Rel zp ze zf zg zn aG aW aR aN aF lC lS lP lX ztc aTs aTn zoc aOs aOn aTp zln zpl zfa aSz zit zip zic zig M yp ye yg bPo bTb wSh wTe wNx bOs bOn yop bSo bNu ytr yiw wMa wPr bTp yln ypl yfa wLi bSi yhp yhe yhg wHs yhi) (hN : LwN p l e s m below meth c b n G A q q2) {H : Heap} {locs : List Loc} {ls : Array Slot} (hw : Wd G s A (kW G q zp ze zf zg zn aG aW aR aN aF lC lS lP lX ++ (oW G q ztc aTs aTn zoc aOs aOn aTp zln zpl zfa aSz zit zip zic zig M ++ (mW G q2 yp ye yg bPo bTb wSh wTe wNx bOs bOn yop bSo bNu ytr yiw wMa wPr bTp yln ypl yfa wLi bSi yhp yhe yhg wHs yhi ++ []))) H locs) (hl : lv_has ls 4 [(0, .ref b), (1, .ref (q 21)), (2, .ref (q2 0)), (3, .int (nI n))]) : lwW p l e s m below meth c b H locs (F0 m 999 ls []) := by
  have hx := F.x
  have hb := F.b
  have hi1 : vp_in (nI n + 1) L := by rw [show nI n + 1 = nI (n + 1) from nI_add n 1]; exact vp_in_nI (by omega) (by omega)
  have hi2 : vp_in (nI n + 2) L := by rw [show nI n + 2 = nI (n + 2) from nI_add n 2]; exact vp_in_nI (by omega) (by omega)
  have hi3 : vp_in (nI n + 3) L := by rw [show nI n + 3 = nI (n + 3) from nI_add n 3]; exact vp_in_nI (by omega) (by omega)
  obtain ⟨z1, z2, e1, e2, he, hR2⟩ := op_turn hR ((xs (nI n + 1).toNatClampNeg)) ((xs (nI n + 2).toNatClampNeg)) ((xs (nI n + 3).toNatClampNeg))
  refine lv_aload_n hx hb dL_law_999 rfl (lv_at hl 1 rfl) ?_
  refine lv_aload_n hx hb dL_law_1000 rfl (lv_at hl 0 rfl) ?_
  refine lv_iload_n hx hb dL_law_1001 rfl (lv_at hl 3 rfl) ?_
  refine lv_iconst (v := 1) hx hb dL_law_1002 (by decide) ?_
  refine lv_iadd hx hb dL_law_1003 ?_
  refine va_sld hx hb hX hbl hbA hw.2.2.2 hi1 dL_law_1004 ?_
  refine lv_aload_n hx hb dL_law_1005 rfl (lv_at hl 0 rfl) ?_
  refine lv_iload_n hx hb dL_law_1006 rfl (lv_at hl 3 rfl) ?_
  refine lv_iconst (v := 2) hx hb dL_law_1007 (by decide) ?_
  refine lv_iadd hx hb dL_law_1008 ?_
  refine va_sld hx hb hX hbl hbA hw.2.2.2 hi2 dL_law_1009 ?_
  refine lv_aload_n hx hb dL_law_1010 rfl (lv_at hl 0 rfl) ?_
  refine lv_iload_n hx hb dL_law_1011 rfl (lv_at hl 3 rfl) ?_
  refine lv_iconst (v := 3) hx hb dL_law_1012 (by decide) ?_
  refine lv_iadd hx hb dL_law_1013 ?_
  refine va_sld hx hb hX hbl hbA hw.2.2.2 hi3 dL_law_1014 ?_
  refine ctL (av := [.int ((xs (nI n + 1).toNatClampNeg)), .int ((xs (nI n + 2).toNatClampNeg)), .int ((xs (nI n + 3).toNatClampNeg))]) (st0 := ([] : List Value)) (st1 := ([.int z1.1] : List Value)) F hw hA (k_X4_turn e1) kl_L_113 kd_X4_turn rfl ⟨by decide, by decide⟩ ⟨by decide, by decide⟩ 21 rfl rfl hl.1 rfl (Nat.le_of_ble_eq_true rfl) dL_law_1015 rfl (fun H locs hw => ?_)
  refine lv_aload_n hx hb dL_law_1018 rfl (lv_at hl 2 rfl) ?_
  refine lv_aload_n hx hb dL_law_1019 rfl (lv_at hl 0 rfl) ?_
  refine lv_iload_n hx hb dL_law_1020 rfl (lv_at hl 3 rfl) ?_
  refine lv_iconst (v := 1) hx hb dL_law_1021 (by decide) ?_
  refine lv_iadd hx hb dL_law_1022 ?_
  refine va_sld hx hb hX hbl hbA hw.2.2.2 hi1 dL_law_1023 ?_
  refine lv_aload_n hx hb dL_law_1024 rfl (lv_at hl 0 rfl) ?_
  refine lv_iload_n hx hb dL_law_1025 rfl (lv_at hl 3 rfl) ?_
  refine lv_iconst (v := 2) hx hb dL_law_1026 (by decide) ?_
  refine lv_iadd hx hb dL_law_1027 ?_
  refine va_sld hx hb hX hbl hbA hw.2.2.2 hi2 dL_law_1028 ?_
  refine lv_aload_n hx hb dL_law_1029 rfl (lv_at hl 0 rfl) ?_
  refine lv_iload_n hx hb dL_law_1030 rfl (lv_at hl 3 rfl) ?_
  refine lv_iconst (v := 3) hx hb dL_law_1031 (by decide) ?_
  refine lv_iadd hx hb dL_law_1032 ?_
  refine va_sld hx hb hX hbl hbA hw.2.2.2 hi3 dL_law_1033 ?_
  refine ctL (av := [.int ((xs (nI n + 1).toNatClampNeg)), .int ((xs (nI n + 2).toNatClampNeg)), .int ((xs (nI n + 3).toNatClampNeg))]) (st0 := ([.int z1.1] : List Value)) (st1 := ([.int z2.1, .int z1.1] : List Value)) F hw.sw hA (k_X5_turn e2) kl_L_116 kd_X5_turn rfl ⟨by decide, by decide⟩ ⟨by decide, by decide⟩ 0 rfl rfl hl.1 rfl (Nat.le_of_ble_eq_true rfl) dL_law_1034 rfl (fun H locs hw => ?_)
  replace hw := hw.ws
  exact lv_icmp_eq (tgt := 1493) hx hb dL_law_1037 (by decide) (fun _ => hN _ _ _ _ _ _ _ _ _ _ _ _ _ _ _ _ _ _ _ _ _ _ _ _ _ _ _ _ _ _ _ _ _ _ _ _ _ _ _ _ _ _ _ _ _ _ _ _ _ _ _ _ _ _ _ _ _ _ hR2 H locs ls hw hl) (fun q => absurd he q)
set_option maxHeartbeats 4000000 in
set_option maxRecDepth 100000 in
theorem law_c24 (F : Fx p s m #[Value.ref b] meth c code 4 R_law ret) (hX : va_X b L xs s s.heap) (hbl : b < s.heap.size) (hbA : ¬ A b) (hA : ∀ x, s.heap.size ≤ x → A x) {n : Nat} (hn : n + 5 ≤ L) (hL : L ≤ 2560) {zp : Int32} {ze : Int32} {zf : Int32} {zg : Int32} {zn : Int32} {aG : Nat → Int32} {aW : Nat → Int32} {aR : Nat → Int32} {aN : Nat → Int32} {aF : Nat → Int32} {lC : Nat → Int64} {lS : Nat → Int64} {lP : Nat → Int64} {lX : Nat → Int64} {ztc : Int32} {aTs : Nat → Int32} {aTn : Nat → Int32} {zoc : Int32} {aOs : Nat → Int32} {aOn : Nat → Int32} {aTp : Nat → Int32} {zln : Int32} {zpl : Int32} {zfa : Int32} {aSz : Nat → Int32} {zit : Int32} {zip : Int32} {zic : Int32} {zig : Int32} {M : Nat → Nat → Int64} {yp : Int32} {ye : Int32} {yg : Int32} {bPo : Nat → Int32} {bTb : Nat → Int32} {wSh : Nat → Int64} {wTe : Nat → Int64} {wNx : Nat → Int64} {bOs : Nat → Int32} {bOn : Nat → Int32} {yop : Int32} {bSo : Nat → Int32} {bNu : Nat → Int32} {ytr : Int32} {yiw : Int32} {wMa : Nat → Int64} {wPr : Nat → Int64} {bTp : Nat → Int32} {yln : Int32} {ypl : Int32} {yfa : Int32} {wLi : Nat → Int64} {bSi : Nat → Int32} {yhp : Int32} {yhe : Int32} {yhg : Int32} {wHs : Nat → Int64} {yhi : Int32} (hR : Rel zp ze zf zg zn aG aW aR aN aF lC lS lP lX ztc aTs aTn zoc aOs aOn aTp zln zpl zfa aSz zit zip zic zig M yp ye yg bPo bTb wSh wTe wNx bOs bOn yop bSo bNu ytr yiw wMa wPr bTp yln ypl yfa wLi bSi yhp yhe yhg wHs yhi) (hN : LwN p l e s m below meth c b n G A q q2) {H : Heap} {locs : List Loc} {ls : Array Slot} (hw : Wd G s A (kW G q zp ze zf zg zn aG aW aR aN aF lC lS lP lX ++ (oW G q ztc aTs aTn zoc aOs aOn aTp zln zpl zfa aSz zit zip zic zig M ++ (mW G q2 yp ye yg bPo bTb wSh wTe wNx bOs bOn yop bSo bNu ytr yiw wMa wPr bTp yln ypl yfa wLi bSi yhp yhe yhg wHs yhi ++ []))) H locs) (hl : lv_has ls 4 [(0, .ref b), (1, .ref (q 21)), (2, .ref (q2 0)), (3, .int (nI n))]) : lwW p l e s m below meth c b H locs (F0 m 1042 ls []) := by
  have hx := F.x
  have hb := F.b
  have hi1 : vp_in (nI n + 1) L := by rw [show nI n + 1 = nI (n + 1) from nI_add n 1]; exact vp_in_nI (by omega) (by omega)
  obtain ⟨z1, z2, e1, e2, he, hR2⟩ := op_norm hR ((xs (nI n + 1).toNatClampNeg))
  refine lv_aload_n hx hb dL_law_1042 rfl (lv_at hl 1 rfl) ?_
  refine lv_aload_n hx hb dL_law_1043 rfl (lv_at hl 0 rfl) ?_
  refine lv_iload_n hx hb dL_law_1044 rfl (lv_at hl 3 rfl) ?_
  refine lv_iconst (v := 1) hx hb dL_law_1045 (by decide) ?_
  refine lv_iadd hx hb dL_law_1046 ?_
  refine va_sld hx hb hX hbl hbA hw.2.2.2 hi1 dL_law_1047 ?_
  refine ctL (av := [.int ((xs (nI n + 1).toNatClampNeg))]) (st0 := ([] : List Value)) (st1 := ([.long (z1.1)] : List Value)) F hw hA (k_X4_norm e1) kl_L_117 kd_X4_norm rfl ⟨by decide, by decide⟩ ⟨by decide, by decide⟩ 21 rfl rfl hl.1 rfl (Nat.le_of_ble_eq_true rfl) dL_law_1048 rfl (fun H locs hw => ?_)
  refine lv_aload_n hx hb dL_law_1051 rfl (lv_at hl 2 rfl) ?_
  refine lv_aload_n hx hb dL_law_1052 rfl (lv_at hl 0 rfl) ?_
  refine lv_iload_n hx hb dL_law_1053 rfl (lv_at hl 3 rfl) ?_
  refine lv_iconst (v := 1) hx hb dL_law_1054 (by decide) ?_
  refine lv_iadd hx hb dL_law_1055 ?_
  refine va_sld hx hb hX hbl hbA hw.2.2.2 hi1 dL_law_1056 ?_
  refine ctL (av := [.int ((xs (nI n + 1).toNatClampNeg))]) (st0 := ([.long (z1.1)] : List Value)) (st1 := ([.long (z2.1), .long (z1.1)] : List Value)) F hw.sw hA (k_X5_norm e2) kl_L_120 kd_X5_norm rfl ⟨by decide, by decide⟩ ⟨by decide, by decide⟩ 0 rfl rfl hl.1 rfl (Nat.le_of_ble_eq_true rfl) dL_law_1057 rfl (fun H locs hw => ?_)
  replace hw := hw.ws
  refine W.lcmp hx hb dL_law_1060 ?_
  exact lv_if_eq (tgt := 1493) hx hb dL_law_1061 (by decide) (fun _ => hN _ _ _ _ _ _ _ _ _ _ _ _ _ _ _ _ _ _ _ _ _ _ _ _ _ _ _ _ _ _ _ _ _ _ _ _ _ _ _ _ _ _ _ _ _ _ _ _ _ _ _ _ _ _ _ _ _ _ hR2 H locs ls hw hl) (fun q => absurd (by rw [he]; exact lg_cmp_same _) q)
set_option maxHeartbeats 4000000 in
set_option maxRecDepth 100000 in
theorem law_c25 (F : Fx p s m #[Value.ref b] meth c code 4 R_law ret) (hX : va_X b L xs s s.heap) (hbl : b < s.heap.size) (hbA : ¬ A b) (hA : ∀ x, s.heap.size ≤ x → A x) {n : Nat} (hn : n + 5 ≤ L) (hL : L ≤ 2560) {zp : Int32} {ze : Int32} {zf : Int32} {zg : Int32} {zn : Int32} {aG : Nat → Int32} {aW : Nat → Int32} {aR : Nat → Int32} {aN : Nat → Int32} {aF : Nat → Int32} {lC : Nat → Int64} {lS : Nat → Int64} {lP : Nat → Int64} {lX : Nat → Int64} {ztc : Int32} {aTs : Nat → Int32} {aTn : Nat → Int32} {zoc : Int32} {aOs : Nat → Int32} {aOn : Nat → Int32} {aTp : Nat → Int32} {zln : Int32} {zpl : Int32} {zfa : Int32} {aSz : Nat → Int32} {zit : Int32} {zip : Int32} {zic : Int32} {zig : Int32} {M : Nat → Nat → Int64} {yp : Int32} {ye : Int32} {yg : Int32} {bPo : Nat → Int32} {bTb : Nat → Int32} {wSh : Nat → Int64} {wTe : Nat → Int64} {wNx : Nat → Int64} {bOs : Nat → Int32} {bOn : Nat → Int32} {yop : Int32} {bSo : Nat → Int32} {bNu : Nat → Int32} {ytr : Int32} {yiw : Int32} {wMa : Nat → Int64} {wPr : Nat → Int64} {bTp : Nat → Int32} {yln : Int32} {ypl : Int32} {yfa : Int32} {wLi : Nat → Int64} {bSi : Nat → Int32} {yhp : Int32} {yhe : Int32} {yhg : Int32} {wHs : Nat → Int64} {yhi : Int32} (hR : Rel zp ze zf zg zn aG aW aR aN aF lC lS lP lX ztc aTs aTn zoc aOs aOn aTp zln zpl zfa aSz zit zip zic zig M yp ye yg bPo bTb wSh wTe wNx bOs bOn yop bSo bNu ytr yiw wMa wPr bTp yln ypl yfa wLi bSi yhp yhe yhg wHs yhi) (hN : LwN p l e s m below meth c b n G A q q2) {H : Heap} {locs : List Loc} {ls : Array Slot} (hw : Wd G s A (kW G q zp ze zf zg zn aG aW aR aN aF lC lS lP lX ++ (oW G q ztc aTs aTn zoc aOs aOn aTp zln zpl zfa aSz zit zip zic zig M ++ (mW G q2 yp ye yg bPo bTb wSh wTe wNx bOs bOn yop bSo bNu ytr yiw wMa wPr bTp yln ypl yfa wLi bSi yhp yhe yhg wHs yhi ++ []))) H locs) (hl : lv_has ls 4 [(0, .ref b), (1, .ref (q 21)), (2, .ref (q2 0)), (3, .int (nI n))]) : lwW p l e s m below meth c b H locs (F0 m 1066 ls []) := by
  have hx := F.x
  have hb := F.b
  have hi1 : vp_in (nI n + 1) L := by rw [show nI n + 1 = nI (n + 1) from nI_add n 1]; exact vp_in_nI (by omega) (by omega)
  obtain ⟨z1, z2, e1, e2, he, hR2⟩ := op_trace hR ((xs (nI n + 1).toNatClampNeg))
  refine lv_aload_n hx hb dL_law_1066 rfl (lv_at hl 1 rfl) ?_
  refine lv_aload_n hx hb dL_law_1067 rfl (lv_at hl 0 rfl) ?_
  refine lv_iload_n hx hb dL_law_1068 rfl (lv_at hl 3 rfl) ?_
  refine lv_iconst (v := 1) hx hb dL_law_1069 (by decide) ?_
  refine lv_iadd hx hb dL_law_1070 ?_
  refine va_sld hx hb hX hbl hbA hw.2.2.2 hi1 dL_law_1071 ?_
  refine ctL (av := [.int ((xs (nI n + 1).toNatClampNeg))]) (st0 := ([] : List Value)) (st1 := ([.long (z1.1)] : List Value)) F hw hA (k_X4_trace e1) kl_L_121 kd_X4_trace rfl ⟨by decide, by decide⟩ ⟨by decide, by decide⟩ 21 rfl rfl hl.1 rfl (Nat.le_of_ble_eq_true rfl) dL_law_1072 rfl (fun H locs hw => ?_)
  refine lv_aload_n hx hb dL_law_1075 rfl (lv_at hl 2 rfl) ?_
  refine lv_aload_n hx hb dL_law_1076 rfl (lv_at hl 0 rfl) ?_
  refine lv_iload_n hx hb dL_law_1077 rfl (lv_at hl 3 rfl) ?_
  refine lv_iconst (v := 1) hx hb dL_law_1078 (by decide) ?_
  refine lv_iadd hx hb dL_law_1079 ?_
  refine va_sld hx hb hX hbl hbA hw.2.2.2 hi1 dL_law_1080 ?_
  refine ctL (av := [.int ((xs (nI n + 1).toNatClampNeg))]) (st0 := ([.long (z1.1)] : List Value)) (st1 := ([.long (z2.1), .long (z1.1)] : List Value)) F hw.sw hA (k_X5_trace e2) kl_L_124 kd_X5_trace rfl ⟨by decide, by decide⟩ ⟨by decide, by decide⟩ 0 rfl rfl hl.1 rfl (Nat.le_of_ble_eq_true rfl) dL_law_1081 rfl (fun H locs hw => ?_)
  replace hw := hw.ws
  refine W.lcmp hx hb dL_law_1084 ?_
  exact lv_if_eq (tgt := 1493) hx hb dL_law_1085 (by decide) (fun _ => hN _ _ _ _ _ _ _ _ _ _ _ _ _ _ _ _ _ _ _ _ _ _ _ _ _ _ _ _ _ _ _ _ _ _ _ _ _ _ _ _ _ _ _ _ _ _ _ _ _ _ _ _ _ _ _ _ _ _ hR2 H locs ls hw hl) (fun q => absurd (by rw [he]; exact lg_cmp_same _) q)
set_option maxHeartbeats 4000000 in
set_option maxRecDepth 100000 in
theorem law_c26 (F : Fx p s m #[Value.ref b] meth c code 4 R_law ret) (hX : va_X b L xs s s.heap) (hbl : b < s.heap.size) (hbA : ¬ A b) (hA : ∀ x, s.heap.size ≤ x → A x) {n : Nat} (hn : n + 5 ≤ L) (hL : L ≤ 2560) {zp : Int32} {ze : Int32} {zf : Int32} {zg : Int32} {zn : Int32} {aG : Nat → Int32} {aW : Nat → Int32} {aR : Nat → Int32} {aN : Nat → Int32} {aF : Nat → Int32} {lC : Nat → Int64} {lS : Nat → Int64} {lP : Nat → Int64} {lX : Nat → Int64} {ztc : Int32} {aTs : Nat → Int32} {aTn : Nat → Int32} {zoc : Int32} {aOs : Nat → Int32} {aOn : Nat → Int32} {aTp : Nat → Int32} {zln : Int32} {zpl : Int32} {zfa : Int32} {aSz : Nat → Int32} {zit : Int32} {zip : Int32} {zic : Int32} {zig : Int32} {M : Nat → Nat → Int64} {yp : Int32} {ye : Int32} {yg : Int32} {bPo : Nat → Int32} {bTb : Nat → Int32} {wSh : Nat → Int64} {wTe : Nat → Int64} {wNx : Nat → Int64} {bOs : Nat → Int32} {bOn : Nat → Int32} {yop : Int32} {bSo : Nat → Int32} {bNu : Nat → Int32} {ytr : Int32} {yiw : Int32} {wMa : Nat → Int64} {wPr : Nat → Int64} {bTp : Nat → Int32} {yln : Int32} {ypl : Int32} {yfa : Int32} {wLi : Nat → Int64} {bSi : Nat → Int32} {yhp : Int32} {yhe : Int32} {yhg : Int32} {wHs : Nat → Int64} {yhi : Int32} (hR : Rel zp ze zf zg zn aG aW aR aN aF lC lS lP lX ztc aTs aTn zoc aOs aOn aTp zln zpl zfa aSz zit zip zic zig M yp ye yg bPo bTb wSh wTe wNx bOs bOn yop bSo bNu ytr yiw wMa wPr bTp yln ypl yfa wLi bSi yhp yhe yhg wHs yhi) (hN : LwN p l e s m below meth c b n G A q q2) {H : Heap} {locs : List Loc} {ls : Array Slot} (hw : Wd G s A (kW G q zp ze zf zg zn aG aW aR aN aF lC lS lP lX ++ (oW G q ztc aTs aTn zoc aOs aOn aTp zln zpl zfa aSz zit zip zic zig M ++ (mW G q2 yp ye yg bPo bTb wSh wTe wNx bOs bOn yop bSo bNu ytr yiw wMa wPr bTp yln ypl yfa wLi bSi yhp yhe yhg wHs yhi ++ []))) H locs) (hl : lv_has ls 4 [(0, .ref b), (1, .ref (q 21)), (2, .ref (q2 0)), (3, .int (nI n))]) : lwW p l e s m below meth c b H locs (F0 m 1090 ls []) := by
  have hx := F.x
  have hb := F.b
  have hi1 : vp_in (nI n + 1) L := by rw [show nI n + 1 = nI (n + 1) from nI_add n 1]; exact vp_in_nI (by omega) (by omega)
  obtain ⟨z1, z2, e1, e2, he, hR2⟩ := op_isWhole hR ((xs (nI n + 1).toNatClampNeg))
  refine lv_aload_n hx hb dL_law_1090 rfl (lv_at hl 1 rfl) ?_
  refine lv_aload_n hx hb dL_law_1091 rfl (lv_at hl 0 rfl) ?_
  refine lv_iload_n hx hb dL_law_1092 rfl (lv_at hl 3 rfl) ?_
  refine lv_iconst (v := 1) hx hb dL_law_1093 (by decide) ?_
  refine lv_iadd hx hb dL_law_1094 ?_
  refine va_sld hx hb hX hbl hbA hw.2.2.2 hi1 dL_law_1095 ?_
  refine ctL (av := [.int ((xs (nI n + 1).toNatClampNeg))]) (st0 := ([] : List Value)) (st1 := ([.int z1] : List Value)) F hw hA (k_X4_isWhole e1) kl_L_125 kd_X4_isWhole rfl ⟨by decide, by decide⟩ ⟨by decide, by decide⟩ 21 rfl rfl hl.1 rfl (Nat.le_of_ble_eq_true rfl) dL_law_1096 rfl (fun H locs hw => ?_)
  refine lv_aload_n hx hb dL_law_1099 rfl (lv_at hl 2 rfl) ?_
  refine lv_aload_n hx hb dL_law_1100 rfl (lv_at hl 0 rfl) ?_
  refine lv_iload_n hx hb dL_law_1101 rfl (lv_at hl 3 rfl) ?_
  refine lv_iconst (v := 1) hx hb dL_law_1102 (by decide) ?_
  refine lv_iadd hx hb dL_law_1103 ?_
  refine va_sld hx hb hX hbl hbA hw.2.2.2 hi1 dL_law_1104 ?_
  refine ctL (av := [.int ((xs (nI n + 1).toNatClampNeg))]) (st0 := ([.int z1] : List Value)) (st1 := ([.int z2, .int z1] : List Value)) F hw.sw hA (k_X5_isWhole e2) kl_L_128 kd_X5_isWhole rfl ⟨by decide, by decide⟩ ⟨by decide, by decide⟩ 0 rfl rfl hl.1 rfl (Nat.le_of_ble_eq_true rfl) dL_law_1105 rfl (fun H locs hw => ?_)
  replace hw := hw.ws
  exact lv_icmp_eq (tgt := 1493) hx hb dL_law_1108 (by decide) (fun _ => hN _ _ _ _ _ _ _ _ _ _ _ _ _ _ _ _ _ _ _ _ _ _ _ _ _ _ _ _ _ _ _ _ _ _ _ _ _ _ _ _ _ _ _ _ _ _ _ _ _ _ _ _ _ _ _ _ _ _ hR2 H locs ls hw hl) (fun q => absurd he q)
set_option maxHeartbeats 4000000 in
set_option maxRecDepth 100000 in
theorem law_c27 (F : Fx p s m #[Value.ref b] meth c code 4 R_law ret) (hX : va_X b L xs s s.heap) (hbl : b < s.heap.size) (hbA : ¬ A b) (hA : ∀ x, s.heap.size ≤ x → A x) {n : Nat} (hn : n + 5 ≤ L) (hL : L ≤ 2560) {zp : Int32} {ze : Int32} {zf : Int32} {zg : Int32} {zn : Int32} {aG : Nat → Int32} {aW : Nat → Int32} {aR : Nat → Int32} {aN : Nat → Int32} {aF : Nat → Int32} {lC : Nat → Int64} {lS : Nat → Int64} {lP : Nat → Int64} {lX : Nat → Int64} {ztc : Int32} {aTs : Nat → Int32} {aTn : Nat → Int32} {zoc : Int32} {aOs : Nat → Int32} {aOn : Nat → Int32} {aTp : Nat → Int32} {zln : Int32} {zpl : Int32} {zfa : Int32} {aSz : Nat → Int32} {zit : Int32} {zip : Int32} {zic : Int32} {zig : Int32} {M : Nat → Nat → Int64} {yp : Int32} {ye : Int32} {yg : Int32} {bPo : Nat → Int32} {bTb : Nat → Int32} {wSh : Nat → Int64} {wTe : Nat → Int64} {wNx : Nat → Int64} {bOs : Nat → Int32} {bOn : Nat → Int32} {yop : Int32} {bSo : Nat → Int32} {bNu : Nat → Int32} {ytr : Int32} {yiw : Int32} {wMa : Nat → Int64} {wPr : Nat → Int64} {bTp : Nat → Int32} {yln : Int32} {ypl : Int32} {yfa : Int32} {wLi : Nat → Int64} {bSi : Nat → Int32} {yhp : Int32} {yhe : Int32} {yhg : Int32} {wHs : Nat → Int64} {yhi : Int32} (hR : Rel zp ze zf zg zn aG aW aR aN aF lC lS lP lX ztc aTs aTn zoc aOs aOn aTp zln zpl zfa aSz zit zip zic zig M yp ye yg bPo bTb wSh wTe wNx bOs bOn yop bSo bNu ytr yiw wMa wPr bTp yln ypl yfa wLi bSi yhp yhe yhg wHs yhi) (hN : LwN p l e s m below meth c b n G A q q2) {H : Heap} {locs : List Loc} {ls : Array Slot} (hw : Wd G s A (kW G q zp ze zf zg zn aG aW aR aN aF lC lS lP lX ++ (oW G q ztc aTs aTn zoc aOs aOn aTp zln zpl zfa aSz zit zip zic zig M ++ (mW G q2 yp ye yg bPo bTb wSh wTe wNx bOs bOn yop bSo bNu ytr yiw wMa wPr bTp yln ypl yfa wLi bSi yhp yhe yhg wHs yhi ++ []))) H locs) (hl : lv_has ls 4 [(0, .ref b), (1, .ref (q 21)), (2, .ref (q2 0)), (3, .int (nI n))]) : lwW p l e s m below meth c b H locs (F0 m 1113 ls []) := by
  have hx := F.x
  have hb := F.b
  have hi1 : vp_in (nI n + 1) L := by rw [show nI n + 1 = nI (n + 1) from nI_add n 1]; exact vp_in_nI (by omega) (by omega)
  have hi2 : vp_in (nI n + 2) L := by rw [show nI n + 2 = nI (n + 2) from nI_add n 2]; exact vp_in_nI (by omega) (by omega)
  obtain ⟨z1, z2, e1, e2, he, hR2⟩ := op_alike hR ((xs (nI n + 1).toNatClampNeg)) ((xs (nI n + 2).toNatClampNeg))
  refine lv_aload_n hx hb dL_law_1113 rfl (lv_at hl 1 rfl) ?_
  refine lv_aload_n hx hb dL_law_1114 rfl (lv_at hl 0 rfl) ?_
  refine lv_iload_n hx hb dL_law_1115 rfl (lv_at hl 3 rfl) ?_
  refine lv_iconst (v := 1) hx hb dL_law_1116 (by decide) ?_
  refine lv_iadd hx hb dL_law_1117 ?_
  refine va_sld hx hb hX hbl hbA hw.2.2.2 hi1 dL_law_1118 ?_
  refine lv_aload_n hx hb dL_law_1119 rfl (lv_at hl 0 rfl) ?_
  refine lv_iload_n hx hb dL_law_1120 rfl (lv_at hl 3 rfl) ?_
  refine lv_iconst (v := 2) hx hb dL_law_1121 (by decide) ?_
  refine lv_iadd hx hb dL_law_1122 ?_
  refine va_sld hx hb hX hbl hbA hw.2.2.2 hi2 dL_law_1123 ?_
  refine ctL (av := [.int ((xs (nI n + 1).toNatClampNeg)), .int ((xs (nI n + 2).toNatClampNeg))]) (st0 := ([] : List Value)) (st1 := ([.int z1] : List Value)) F hw hA (k_X4_alike e1) kl_L_129 kd_X4_alike rfl ⟨by decide, by decide⟩ ⟨by decide, by decide⟩ 21 rfl rfl hl.1 rfl (Nat.le_of_ble_eq_true rfl) dL_law_1124 rfl (fun H locs hw => ?_)
  refine lv_aload_n hx hb dL_law_1127 rfl (lv_at hl 2 rfl) ?_
  refine lv_aload_n hx hb dL_law_1128 rfl (lv_at hl 0 rfl) ?_
  refine lv_iload_n hx hb dL_law_1129 rfl (lv_at hl 3 rfl) ?_
  refine lv_iconst (v := 1) hx hb dL_law_1130 (by decide) ?_
  refine lv_iadd hx hb dL_law_1131 ?_
  refine va_sld hx hb hX hbl hbA hw.2.2.2 hi1 dL_law_1132 ?_
  refine lv_aload_n hx hb dL_law_1133 rfl (lv_at hl 0 rfl) ?_
  refine lv_iload_n hx hb dL_law_1134 rfl (lv_at hl 3 rfl) ?_
  refine lv_iconst (v := 2) hx hb dL_law_1135 (by decide) ?_
  refine lv_iadd hx hb dL_law_1136 ?_
  refine va_sld hx hb hX hbl hbA hw.2.2.2 hi2 dL_law_1137 ?_
  refine ctL (av := [.int ((xs (nI n + 1).toNatClampNeg)), .int ((xs (nI n + 2).toNatClampNeg))]) (st0 := ([.int z1] : List Value)) (st1 := ([.int z2, .int z1] : List Value)) F hw.sw hA (k_X5_alike e2) kl_L_132 kd_X5_alike rfl ⟨by decide, by decide⟩ ⟨by decide, by decide⟩ 0 rfl rfl hl.1 rfl (Nat.le_of_ble_eq_true rfl) dL_law_1138 rfl (fun H locs hw => ?_)
  replace hw := hw.ws
  exact lv_icmp_eq (tgt := 1493) hx hb dL_law_1141 (by decide) (fun _ => hN _ _ _ _ _ _ _ _ _ _ _ _ _ _ _ _ _ _ _ _ _ _ _ _ _ _ _ _ _ _ _ _ _ _ _ _ _ _ _ _ _ _ _ _ _ _ _ _ _ _ _ _ _ _ _ _ _ _ hR2 H locs ls hw hl) (fun q => absurd he q)
set_option maxHeartbeats 4000000 in
set_option maxRecDepth 100000 in
theorem law_c28 (F : Fx p s m #[Value.ref b] meth c code 4 R_law ret) (hX : va_X b L xs s s.heap) (hbl : b < s.heap.size) (hbA : ¬ A b) (hA : ∀ x, s.heap.size ≤ x → A x) {n : Nat} (hn : n + 5 ≤ L) (hL : L ≤ 2560) {zp : Int32} {ze : Int32} {zf : Int32} {zg : Int32} {zn : Int32} {aG : Nat → Int32} {aW : Nat → Int32} {aR : Nat → Int32} {aN : Nat → Int32} {aF : Nat → Int32} {lC : Nat → Int64} {lS : Nat → Int64} {lP : Nat → Int64} {lX : Nat → Int64} {ztc : Int32} {aTs : Nat → Int32} {aTn : Nat → Int32} {zoc : Int32} {aOs : Nat → Int32} {aOn : Nat → Int32} {aTp : Nat → Int32} {zln : Int32} {zpl : Int32} {zfa : Int32} {aSz : Nat → Int32} {zit : Int32} {zip : Int32} {zic : Int32} {zig : Int32} {M : Nat → Nat → Int64} {yp : Int32} {ye : Int32} {yg : Int32} {bPo : Nat → Int32} {bTb : Nat → Int32} {wSh : Nat → Int64} {wTe : Nat → Int64} {wNx : Nat → Int64} {bOs : Nat → Int32} {bOn : Nat → Int32} {yop : Int32} {bSo : Nat → Int32} {bNu : Nat → Int32} {ytr : Int32} {yiw : Int32} {wMa : Nat → Int64} {wPr : Nat → Int64} {bTp : Nat → Int32} {yln : Int32} {ypl : Int32} {yfa : Int32} {wLi : Nat → Int64} {bSi : Nat → Int32} {yhp : Int32} {yhe : Int32} {yhg : Int32} {wHs : Nat → Int64} {yhi : Int32} (hR : Rel zp ze zf zg zn aG aW aR aN aF lC lS lP lX ztc aTs aTn zoc aOs aOn aTp zln zpl zfa aSz zit zip zic zig M yp ye yg bPo bTb wSh wTe wNx bOs bOn yop bSo bNu ytr yiw wMa wPr bTp yln ypl yfa wLi bSi yhp yhe yhg wHs yhi) (hN : LwN p l e s m below meth c b n G A q q2) {H : Heap} {locs : List Loc} {ls : Array Slot} (hw : Wd G s A (kW G q zp ze zf zg zn aG aW aR aN aF lC lS lP lX ++ (oW G q ztc aTs aTn zoc aOs aOn aTp zln zpl zfa aSz zit zip zic zig M ++ (mW G q2 yp ye yg bPo bTb wSh wTe wNx bOs bOn yop bSo bNu ytr yiw wMa wPr bTp yln ypl yfa wLi bSi yhp yhe yhg wHs yhi ++ []))) H locs) (hl : lv_has ls 4 [(0, .ref b), (1, .ref (q 21)), (2, .ref (q2 0)), (3, .int (nI n))]) : lwW p l e s m below meth c b H locs (F0 m 1146 ls []) := by
  have hx := F.x
  have hb := F.b
  have hi1 : vp_in (nI n + 1) L := by rw [show nI n + 1 = nI (n + 1) from nI_add n 1]; exact vp_in_nI (by omega) (by omega)
  have hi2 : vp_in (nI n + 2) L := by rw [show nI n + 2 = nI (n + 2) from nI_add n 2]; exact vp_in_nI (by omega) (by omega)
  obtain ⟨z1, z2, e1, e2, he, hR2⟩ := op_why hR ((xs (nI n + 1).toNatClampNeg)) ((xs (nI n + 2).toNatClampNeg))
  refine lv_aload_n hx hb dL_law_1146 rfl (lv_at hl 1 rfl) ?_
  refine lv_aload_n hx hb dL_law_1147 rfl (lv_at hl 0 rfl) ?_
  refine lv_iload_n hx hb dL_law_1148 rfl (lv_at hl 3 rfl) ?_
  refine lv_iconst (v := 1) hx hb dL_law_1149 (by decide) ?_
  refine lv_iadd hx hb dL_law_1150 ?_
  refine va_sld hx hb hX hbl hbA hw.2.2.2 hi1 dL_law_1151 ?_
  refine lv_aload_n hx hb dL_law_1152 rfl (lv_at hl 0 rfl) ?_
  refine lv_iload_n hx hb dL_law_1153 rfl (lv_at hl 3 rfl) ?_
  refine lv_iconst (v := 2) hx hb dL_law_1154 (by decide) ?_
  refine lv_iadd hx hb dL_law_1155 ?_
  refine va_sld hx hb hX hbl hbA hw.2.2.2 hi2 dL_law_1156 ?_
  refine ctL (av := [.int ((xs (nI n + 1).toNatClampNeg)), .int ((xs (nI n + 2).toNatClampNeg))]) (st0 := ([] : List Value)) (st1 := ([.int z1] : List Value)) F hw hA (k_X4_why e1) kl_L_133 kd_X4_why rfl ⟨by decide, by decide⟩ ⟨by decide, by decide⟩ 21 rfl rfl hl.1 rfl (Nat.le_of_ble_eq_true rfl) dL_law_1157 rfl (fun H locs hw => ?_)
  refine lv_aload_n hx hb dL_law_1160 rfl (lv_at hl 2 rfl) ?_
  refine lv_aload_n hx hb dL_law_1161 rfl (lv_at hl 0 rfl) ?_
  refine lv_iload_n hx hb dL_law_1162 rfl (lv_at hl 3 rfl) ?_
  refine lv_iconst (v := 1) hx hb dL_law_1163 (by decide) ?_
  refine lv_iadd hx hb dL_law_1164 ?_
  refine va_sld hx hb hX hbl hbA hw.2.2.2 hi1 dL_law_1165 ?_
  refine lv_aload_n hx hb dL_law_1166 rfl (lv_at hl 0 rfl) ?_
  refine lv_iload_n hx hb dL_law_1167 rfl (lv_at hl 3 rfl) ?_
  refine lv_iconst (v := 2) hx hb dL_law_1168 (by decide) ?_
  refine lv_iadd hx hb dL_law_1169 ?_
  refine va_sld hx hb hX hbl hbA hw.2.2.2 hi2 dL_law_1170 ?_
  refine ctL (av := [.int ((xs (nI n + 1).toNatClampNeg)), .int ((xs (nI n + 2).toNatClampNeg))]) (st0 := ([.int z1] : List Value)) (st1 := ([.int z2, .int z1] : List Value)) F hw.sw hA (k_X5_why e2) kl_L_136 kd_X5_why rfl ⟨by decide, by decide⟩ ⟨by decide, by decide⟩ 0 rfl rfl hl.1 rfl (Nat.le_of_ble_eq_true rfl) dL_law_1171 rfl (fun H locs hw => ?_)
  replace hw := hw.ws
  exact lv_icmp_eq (tgt := 1493) hx hb dL_law_1174 (by decide) (fun _ => hN _ _ _ _ _ _ _ _ _ _ _ _ _ _ _ _ _ _ _ _ _ _ _ _ _ _ _ _ _ _ _ _ _ _ _ _ _ _ _ _ _ _ _ _ _ _ _ _ _ _ _ _ _ _ _ _ _ _ hR2 H locs ls hw hl) (fun q => absurd he q)
set_option maxHeartbeats 4000000 in
set_option maxRecDepth 100000 in
theorem law_c29 (F : Fx p s m #[Value.ref b] meth c code 4 R_law ret) (hX : va_X b L xs s s.heap) (hbl : b < s.heap.size) (hbA : ¬ A b) (hA : ∀ x, s.heap.size ≤ x → A x) {n : Nat} (hn : n + 5 ≤ L) (hL : L ≤ 2560) {zp : Int32} {ze : Int32} {zf : Int32} {zg : Int32} {zn : Int32} {aG : Nat → Int32} {aW : Nat → Int32} {aR : Nat → Int32} {aN : Nat → Int32} {aF : Nat → Int32} {lC : Nat → Int64} {lS : Nat → Int64} {lP : Nat → Int64} {lX : Nat → Int64} {ztc : Int32} {aTs : Nat → Int32} {aTn : Nat → Int32} {zoc : Int32} {aOs : Nat → Int32} {aOn : Nat → Int32} {aTp : Nat → Int32} {zln : Int32} {zpl : Int32} {zfa : Int32} {aSz : Nat → Int32} {zit : Int32} {zip : Int32} {zic : Int32} {zig : Int32} {M : Nat → Nat → Int64} {yp : Int32} {ye : Int32} {yg : Int32} {bPo : Nat → Int32} {bTb : Nat → Int32} {wSh : Nat → Int64} {wTe : Nat → Int64} {wNx : Nat → Int64} {bOs : Nat → Int32} {bOn : Nat → Int32} {yop : Int32} {bSo : Nat → Int32} {bNu : Nat → Int32} {ytr : Int32} {yiw : Int32} {wMa : Nat → Int64} {wPr : Nat → Int64} {bTp : Nat → Int32} {yln : Int32} {ypl : Int32} {yfa : Int32} {wLi : Nat → Int64} {bSi : Nat → Int32} {yhp : Int32} {yhe : Int32} {yhg : Int32} {wHs : Nat → Int64} {yhi : Int32} (hR : Rel zp ze zf zg zn aG aW aR aN aF lC lS lP lX ztc aTs aTn zoc aOs aOn aTp zln zpl zfa aSz zit zip zic zig M yp ye yg bPo bTb wSh wTe wNx bOs bOn yop bSo bNu ytr yiw wMa wPr bTp yln ypl yfa wLi bSi yhp yhe yhg wHs yhi) (hN : LwN p l e s m below meth c b n G A q q2) {H : Heap} {locs : List Loc} {ls : Array Slot} (hw : Wd G s A (kW G q zp ze zf zg zn aG aW aR aN aF lC lS lP lX ++ (oW G q ztc aTs aTn zoc aOs aOn aTp zln zpl zfa aSz zit zip zic zig M ++ (mW G q2 yp ye yg bPo bTb wSh wTe wNx bOs bOn yop bSo bNu ytr yiw wMa wPr bTp yln ypl yfa wLi bSi yhp yhe yhg wHs yhi ++ []))) H locs) (hl : lv_has ls 4 [(0, .ref b), (1, .ref (q 21)), (2, .ref (q2 0)), (3, .int (nI n))]) : lwW p l e s m below meth c b H locs (F0 m 1179 ls []) := by
  have hx := F.x
  have hb := F.b
  have hi1 : vp_in (nI n + 1) L := by rw [show nI n + 1 = nI (n + 1) from nI_add n 1]; exact vp_in_nI (by omega) (by omega)
  obtain ⟨z1, z2, e1, e2, he, hR2⟩ := op_feed hR ((xs (nI n + 1).toNatClampNeg))
  refine lv_aload_n hx hb dL_law_1179 rfl (lv_at hl 1 rfl) ?_
  refine lv_aload_n hx hb dL_law_1180 rfl (lv_at hl 0 rfl) ?_
  refine lv_iload_n hx hb dL_law_1181 rfl (lv_at hl 3 rfl) ?_
  refine lv_iconst (v := 1) hx hb dL_law_1182 (by decide) ?_
  refine lv_iadd hx hb dL_law_1183 ?_
  refine va_sld hx hb hX hbl hbA hw.2.2.2 hi1 dL_law_1184 ?_
  refine ctL (av := [.int ((xs (nI n + 1).toNatClampNeg))]) (st0 := ([] : List Value)) (st1 := ([.int z1.1] : List Value)) F hw hA (k_X4_feed e1) kl_L_137 kd_X4_feed rfl ⟨by decide, by decide⟩ ⟨by decide, by decide⟩ 21 rfl rfl hl.1 rfl (Nat.le_of_ble_eq_true rfl) dL_law_1185 rfl (fun H locs hw => ?_)
  refine lv_aload_n hx hb dL_law_1188 rfl (lv_at hl 2 rfl) ?_
  refine lv_aload_n hx hb dL_law_1189 rfl (lv_at hl 0 rfl) ?_
  refine lv_iload_n hx hb dL_law_1190 rfl (lv_at hl 3 rfl) ?_
  refine lv_iconst (v := 1) hx hb dL_law_1191 (by decide) ?_
  refine lv_iadd hx hb dL_law_1192 ?_
  refine va_sld hx hb hX hbl hbA hw.2.2.2 hi1 dL_law_1193 ?_
  refine ctL (av := [.int ((xs (nI n + 1).toNatClampNeg))]) (st0 := ([.int z1.1] : List Value)) (st1 := ([.int z2.1, .int z1.1] : List Value)) F hw.sw hA (k_X5_feed e2) kl_L_140 kd_X5_feed rfl ⟨by decide, by decide⟩ ⟨by decide, by decide⟩ 0 rfl rfl hl.1 rfl (Nat.le_of_ble_eq_true rfl) dL_law_1194 rfl (fun H locs hw => ?_)
  replace hw := hw.ws
  exact lv_icmp_eq (tgt := 1493) hx hb dL_law_1197 (by decide) (fun _ => hN _ _ _ _ _ _ _ _ _ _ _ _ _ _ _ _ _ _ _ _ _ _ _ _ _ _ _ _ _ _ _ _ _ _ _ _ _ _ _ _ _ _ _ _ _ _ _ _ _ _ _ _ _ _ _ _ _ _ hR2 H locs ls hw hl) (fun q => absurd he q)
set_option maxHeartbeats 4000000 in
set_option maxRecDepth 100000 in
theorem law_c30 (F : Fx p s m #[Value.ref b] meth c code 4 R_law ret) (hX : va_X b L xs s s.heap) (hbl : b < s.heap.size) (hbA : ¬ A b) (hA : ∀ x, s.heap.size ≤ x → A x) {n : Nat} (hn : n + 5 ≤ L) (hL : L ≤ 2560) {zp : Int32} {ze : Int32} {zf : Int32} {zg : Int32} {zn : Int32} {aG : Nat → Int32} {aW : Nat → Int32} {aR : Nat → Int32} {aN : Nat → Int32} {aF : Nat → Int32} {lC : Nat → Int64} {lS : Nat → Int64} {lP : Nat → Int64} {lX : Nat → Int64} {ztc : Int32} {aTs : Nat → Int32} {aTn : Nat → Int32} {zoc : Int32} {aOs : Nat → Int32} {aOn : Nat → Int32} {aTp : Nat → Int32} {zln : Int32} {zpl : Int32} {zfa : Int32} {aSz : Nat → Int32} {zit : Int32} {zip : Int32} {zic : Int32} {zig : Int32} {M : Nat → Nat → Int64} {yp : Int32} {ye : Int32} {yg : Int32} {bPo : Nat → Int32} {bTb : Nat → Int32} {wSh : Nat → Int64} {wTe : Nat → Int64} {wNx : Nat → Int64} {bOs : Nat → Int32} {bOn : Nat → Int32} {yop : Int32} {bSo : Nat → Int32} {bNu : Nat → Int32} {ytr : Int32} {yiw : Int32} {wMa : Nat → Int64} {wPr : Nat → Int64} {bTp : Nat → Int32} {yln : Int32} {ypl : Int32} {yfa : Int32} {wLi : Nat → Int64} {bSi : Nat → Int32} {yhp : Int32} {yhe : Int32} {yhg : Int32} {wHs : Nat → Int64} {yhi : Int32} (hR : Rel zp ze zf zg zn aG aW aR aN aF lC lS lP lX ztc aTs aTn zoc aOs aOn aTp zln zpl zfa aSz zit zip zic zig M yp ye yg bPo bTb wSh wTe wNx bOs bOn yop bSo bNu ytr yiw wMa wPr bTp yln ypl yfa wLi bSi yhp yhe yhg wHs yhi) (hN : LwN p l e s m below meth c b n G A q q2) {H : Heap} {locs : List Loc} {ls : Array Slot} (hw : Wd G s A (kW G q zp ze zf zg zn aG aW aR aN aF lC lS lP lX ++ (oW G q ztc aTs aTn zoc aOs aOn aTp zln zpl zfa aSz zit zip zic zig M ++ (mW G q2 yp ye yg bPo bTb wSh wTe wNx bOs bOn yop bSo bNu ytr yiw wMa wPr bTp yln ypl yfa wLi bSi yhp yhe yhg wHs yhi ++ []))) H locs) (hl : lv_has ls 4 [(0, .ref b), (1, .ref (q 21)), (2, .ref (q2 0)), (3, .int (nI n))]) : lwW p l e s m below meth c b H locs (F0 m 1202 ls []) := by
  have hx := F.x
  have hb := F.b
  obtain ⟨z1, z2, e1, e2, he, hR2⟩ := op_wipe hR
  refine lv_aload_n hx hb dL_law_1202 rfl (lv_at hl 1 rfl) ?_
  refine ctL (av := []) (st0 := ([] : List Value)) (st1 := ([.int z1.1] : List Value)) F hw hA (k_X4_wipe e1) kl_L_141 kd_X4_wipe rfl ⟨by decide, by decide⟩ ⟨by decide, by decide⟩ 21 rfl rfl hl.1 rfl (Nat.le_of_ble_eq_true rfl) dL_law_1203 rfl (fun H locs hw => ?_)
  refine lv_aload_n hx hb dL_law_1206 rfl (lv_at hl 2 rfl) ?_
  refine ctL (av := []) (st0 := ([.int z1.1] : List Value)) (st1 := ([.int z2.1, .int z1.1] : List Value)) F hw.sw hA (k_X5_wipe e2) kl_L_145 kd_X5_wipe rfl ⟨by decide, by decide⟩ ⟨by decide, by decide⟩ 0 rfl rfl hl.1 rfl (Nat.le_of_ble_eq_true rfl) dL_law_1207 rfl (fun H locs hw => ?_)
  replace hw := hw.ws
  exact lv_icmp_eq (tgt := 1493) hx hb dL_law_1210 (by decide) (fun _ => hN _ _ _ _ _ _ _ _ _ _ _ _ _ _ _ _ _ _ _ _ _ _ _ _ _ _ _ _ _ _ _ _ _ _ _ _ _ _ _ _ _ _ _ _ _ _ _ _ _ _ _ _ _ _ _ _ _ _ hR2 H locs ls hw hl) (fun q => absurd he q)
set_option maxHeartbeats 4000000 in
set_option maxRecDepth 100000 in
theorem law_c31 (F : Fx p s m #[Value.ref b] meth c code 4 R_law ret) (hX : va_X b L xs s s.heap) (hbl : b < s.heap.size) (hbA : ¬ A b) (hA : ∀ x, s.heap.size ≤ x → A x) {n : Nat} (hn : n + 5 ≤ L) (hL : L ≤ 2560) {zp : Int32} {ze : Int32} {zf : Int32} {zg : Int32} {zn : Int32} {aG : Nat → Int32} {aW : Nat → Int32} {aR : Nat → Int32} {aN : Nat → Int32} {aF : Nat → Int32} {lC : Nat → Int64} {lS : Nat → Int64} {lP : Nat → Int64} {lX : Nat → Int64} {ztc : Int32} {aTs : Nat → Int32} {aTn : Nat → Int32} {zoc : Int32} {aOs : Nat → Int32} {aOn : Nat → Int32} {aTp : Nat → Int32} {zln : Int32} {zpl : Int32} {zfa : Int32} {aSz : Nat → Int32} {zit : Int32} {zip : Int32} {zic : Int32} {zig : Int32} {M : Nat → Nat → Int64} {yp : Int32} {ye : Int32} {yg : Int32} {bPo : Nat → Int32} {bTb : Nat → Int32} {wSh : Nat → Int64} {wTe : Nat → Int64} {wNx : Nat → Int64} {bOs : Nat → Int32} {bOn : Nat → Int32} {yop : Int32} {bSo : Nat → Int32} {bNu : Nat → Int32} {ytr : Int32} {yiw : Int32} {wMa : Nat → Int64} {wPr : Nat → Int64} {bTp : Nat → Int32} {yln : Int32} {ypl : Int32} {yfa : Int32} {wLi : Nat → Int64} {bSi : Nat → Int32} {yhp : Int32} {yhe : Int32} {yhg : Int32} {wHs : Nat → Int64} {yhi : Int32} (hR : Rel zp ze zf zg zn aG aW aR aN aF lC lS lP lX ztc aTs aTn zoc aOs aOn aTp zln zpl zfa aSz zit zip zic zig M yp ye yg bPo bTb wSh wTe wNx bOs bOn yop bSo bNu ytr yiw wMa wPr bTp yln ypl yfa wLi bSi yhp yhe yhg wHs yhi) (hN : LwN p l e s m below meth c b n G A q q2) {H : Heap} {locs : List Loc} {ls : Array Slot} (hw : Wd G s A (kW G q zp ze zf zg zn aG aW aR aN aF lC lS lP lX ++ (oW G q ztc aTs aTn zoc aOs aOn aTp zln zpl zfa aSz zit zip zic zig M ++ (mW G q2 yp ye yg bPo bTb wSh wTe wNx bOs bOn yop bSo bNu ytr yiw wMa wPr bTp yln ypl yfa wLi bSi yhp yhe yhg wHs yhi ++ []))) H locs) (hl : lv_has ls 4 [(0, .ref b), (1, .ref (q 21)), (2, .ref (q2 0)), (3, .int (nI n))]) : lwW p l e s m below meth c b H locs (F0 m 1215 ls []) := by
  have hx := F.x
  have hb := F.b
  have hi1 : vp_in (nI n + 1) L := by rw [show nI n + 1 = nI (n + 1) from nI_add n 1]; exact vp_in_nI (by omega) (by omega)
  obtain ⟨z1, z2, e1, e2, he, hR2⟩ := op_read hR ((xs (nI n + 1).toNatClampNeg))
  refine lv_aload_n hx hb dL_law_1215 rfl (lv_at hl 1 rfl) ?_
  refine lv_aload_n hx hb dL_law_1216 rfl (lv_at hl 0 rfl) ?_
  refine lv_iload_n hx hb dL_law_1217 rfl (lv_at hl 3 rfl) ?_
  refine lv_iconst (v := 1) hx hb dL_law_1218 (by decide) ?_
  refine lv_iadd hx hb dL_law_1219 ?_
  refine va_sld hx hb hX hbl hbA hw.2.2.2 hi1 dL_law_1220 ?_
  refine ctL (av := [.int ((xs (nI n + 1).toNatClampNeg))]) (st0 := ([] : List Value)) (st1 := ([.int z1.1] : List Value)) F hw hA (k_X4_read e1) kl_L_146 kd_X4_read rfl ⟨by decide, by decide⟩ ⟨by decide, by decide⟩ 21 rfl rfl hl.1 rfl (Nat.le_of_ble_eq_true rfl) dL_law_1221 rfl (fun H locs hw => ?_)
  refine lv_aload_n hx hb dL_law_1224 rfl (lv_at hl 2 rfl) ?_
  refine lv_aload_n hx hb dL_law_1225 rfl (lv_at hl 0 rfl) ?_
  refine lv_iload_n hx hb dL_law_1226 rfl (lv_at hl 3 rfl) ?_
  refine lv_iconst (v := 1) hx hb dL_law_1227 (by decide) ?_
  refine lv_iadd hx hb dL_law_1228 ?_
  refine va_sld hx hb hX hbl hbA hw.2.2.2 hi1 dL_law_1229 ?_
  refine ctL (av := [.int ((xs (nI n + 1).toNatClampNeg))]) (st0 := ([.int z1.1] : List Value)) (st1 := ([.int z2.1, .int z1.1] : List Value)) F hw.sw hA (k_X5_read e2) kl_L_149 kd_X5_read rfl ⟨by decide, by decide⟩ ⟨by decide, by decide⟩ 0 rfl rfl hl.1 rfl (Nat.le_of_ble_eq_true rfl) dL_law_1230 rfl (fun H locs hw => ?_)
  replace hw := hw.ws
  exact lv_icmp_eq (tgt := 1493) hx hb dL_law_1233 (by decide) (fun _ => hN _ _ _ _ _ _ _ _ _ _ _ _ _ _ _ _ _ _ _ _ _ _ _ _ _ _ _ _ _ _ _ _ _ _ _ _ _ _ _ _ _ _ _ _ _ _ _ _ _ _ _ _ _ _ _ _ _ _ hR2 H locs ls hw hl) (fun q => absurd he q)
set_option maxHeartbeats 4000000 in
set_option maxRecDepth 100000 in
theorem law_c32 (F : Fx p s m #[Value.ref b] meth c code 4 R_law ret) (hX : va_X b L xs s s.heap) (hbl : b < s.heap.size) (hbA : ¬ A b) (hA : ∀ x, s.heap.size ≤ x → A x) {n : Nat} (hn : n + 5 ≤ L) (hL : L ≤ 2560) {zp : Int32} {ze : Int32} {zf : Int32} {zg : Int32} {zn : Int32} {aG : Nat → Int32} {aW : Nat → Int32} {aR : Nat → Int32} {aN : Nat → Int32} {aF : Nat → Int32} {lC : Nat → Int64} {lS : Nat → Int64} {lP : Nat → Int64} {lX : Nat → Int64} {ztc : Int32} {aTs : Nat → Int32} {aTn : Nat → Int32} {zoc : Int32} {aOs : Nat → Int32} {aOn : Nat → Int32} {aTp : Nat → Int32} {zln : Int32} {zpl : Int32} {zfa : Int32} {aSz : Nat → Int32} {zit : Int32} {zip : Int32} {zic : Int32} {zig : Int32} {M : Nat → Nat → Int64} {yp : Int32} {ye : Int32} {yg : Int32} {bPo : Nat → Int32} {bTb : Nat → Int32} {wSh : Nat → Int64} {wTe : Nat → Int64} {wNx : Nat → Int64} {bOs : Nat → Int32} {bOn : Nat → Int32} {yop : Int32} {bSo : Nat → Int32} {bNu : Nat → Int32} {ytr : Int32} {yiw : Int32} {wMa : Nat → Int64} {wPr : Nat → Int64} {bTp : Nat → Int32} {yln : Int32} {ypl : Int32} {yfa : Int32} {wLi : Nat → Int64} {bSi : Nat → Int32} {yhp : Int32} {yhe : Int32} {yhg : Int32} {wHs : Nat → Int64} {yhi : Int32} (hR : Rel zp ze zf zg zn aG aW aR aN aF lC lS lP lX ztc aTs aTn zoc aOs aOn aTp zln zpl zfa aSz zit zip zic zig M yp ye yg bPo bTb wSh wTe wNx bOs bOn yop bSo bNu ytr yiw wMa wPr bTp yln ypl yfa wLi bSi yhp yhe yhg wHs yhi) (hN : LwN p l e s m below meth c b n G A q q2) {H : Heap} {locs : List Loc} {ls : Array Slot} (hw : Wd G s A (kW G q zp ze zf zg zn aG aW aR aN aF lC lS lP lX ++ (oW G q ztc aTs aTn zoc aOs aOn aTp zln zpl zfa aSz zit zip zic zig M ++ (mW G q2 yp ye yg bPo bTb wSh wTe wNx bOs bOn yop bSo bNu ytr yiw wMa wPr bTp yln ypl yfa wLi bSi yhp yhe yhg wHs yhi ++ []))) H locs) (hl : lv_has ls 4 [(0, .ref b), (1, .ref (q 21)), (2, .ref (q2 0)), (3, .int (nI n))]) : lwW p l e s m below meth c b H locs (F0 m 1238 ls []) := by
  have hx := F.x
  have hb := F.b
  have hi1 : vp_in (nI n + 1) L := by rw [show nI n + 1 = nI (n + 1) from nI_add n 1]; exact vp_in_nI (by omega) (by omega)
  have hi2 : vp_in (nI n + 2) L := by rw [show nI n + 2 = nI (n + 2) from nI_add n 2]; exact vp_in_nI (by omega) (by omega)
  obtain ⟨z1, z2, e1, e2, he, hR2⟩ := op_list hR ((xs (nI n + 1).toNatClampNeg)) ((xs (nI n + 2).toNatClampNeg))
  refine lv_aload_n hx hb dL_law_1238 rfl (lv_at hl 1 rfl) ?_
  refine lv_aload_n hx hb dL_law_1239 rfl (lv_at hl 0 rfl) ?_
  refine lv_iload_n hx hb dL_law_1240 rfl (lv_at hl 3 rfl) ?_
  refine lv_iconst (v := 1) hx hb dL_law_1241 (by decide) ?_
  refine lv_iadd hx hb dL_law_1242 ?_
  refine va_sld hx hb hX hbl hbA hw.2.2.2 hi1 dL_law_1243 ?_
  refine lv_aload_n hx hb dL_law_1244 rfl (lv_at hl 0 rfl) ?_
  refine lv_iload_n hx hb dL_law_1245 rfl (lv_at hl 3 rfl) ?_
  refine lv_iconst (v := 2) hx hb dL_law_1246 (by decide) ?_
  refine lv_iadd hx hb dL_law_1247 ?_
  refine va_sld hx hb hX hbl hbA hw.2.2.2 hi2 dL_law_1248 ?_
  refine ctL (av := [.int ((xs (nI n + 1).toNatClampNeg)), .int ((xs (nI n + 2).toNatClampNeg))]) (st0 := ([] : List Value)) (st1 := ([.int z1.1] : List Value)) F hw hA (k_X4_list e1) kl_L_150 kd_X4_list rfl ⟨by decide, by decide⟩ ⟨by decide, by decide⟩ 21 rfl rfl hl.1 rfl (Nat.le_of_ble_eq_true rfl) dL_law_1249 rfl (fun H locs hw => ?_)
  refine lv_aload_n hx hb dL_law_1252 rfl (lv_at hl 2 rfl) ?_
  refine lv_aload_n hx hb dL_law_1253 rfl (lv_at hl 0 rfl) ?_
  refine lv_iload_n hx hb dL_law_1254 rfl (lv_at hl 3 rfl) ?_
  refine lv_iconst (v := 1) hx hb dL_law_1255 (by decide) ?_
  refine lv_iadd hx hb dL_law_1256 ?_
  refine va_sld hx hb hX hbl hbA hw.2.2.2 hi1 dL_law_1257 ?_
  refine lv_aload_n hx hb dL_law_1258 rfl (lv_at hl 0 rfl) ?_
  refine lv_iload_n hx hb dL_law_1259 rfl (lv_at hl 3 rfl) ?_
  refine lv_iconst (v := 2) hx hb dL_law_1260 (by decide) ?_
  refine lv_iadd hx hb dL_law_1261 ?_
  refine va_sld hx hb hX hbl hbA hw.2.2.2 hi2 dL_law_1262 ?_
  refine ctL (av := [.int ((xs (nI n + 1).toNatClampNeg)), .int ((xs (nI n + 2).toNatClampNeg))]) (st0 := ([.int z1.1] : List Value)) (st1 := ([.int z2.1, .int z1.1] : List Value)) F hw.sw hA (k_X5_list e2) kl_L_153 kd_X5_list rfl ⟨by decide, by decide⟩ ⟨by decide, by decide⟩ 0 rfl rfl hl.1 rfl (Nat.le_of_ble_eq_true rfl) dL_law_1263 rfl (fun H locs hw => ?_)
  replace hw := hw.ws
  exact lv_icmp_eq (tgt := 1493) hx hb dL_law_1266 (by decide) (fun _ => hN _ _ _ _ _ _ _ _ _ _ _ _ _ _ _ _ _ _ _ _ _ _ _ _ _ _ _ _ _ _ _ _ _ _ _ _ _ _ _ _ _ _ _ _ _ _ _ _ _ _ _ _ _ _ _ _ _ _ hR2 H locs ls hw hl) (fun q => absurd he q)
set_option maxHeartbeats 4000000 in
set_option maxRecDepth 100000 in
theorem law_c33 (F : Fx p s m #[Value.ref b] meth c code 4 R_law ret) (hX : va_X b L xs s s.heap) (hbl : b < s.heap.size) (hbA : ¬ A b) (hA : ∀ x, s.heap.size ≤ x → A x) {n : Nat} (hn : n + 5 ≤ L) (hL : L ≤ 2560) {zp : Int32} {ze : Int32} {zf : Int32} {zg : Int32} {zn : Int32} {aG : Nat → Int32} {aW : Nat → Int32} {aR : Nat → Int32} {aN : Nat → Int32} {aF : Nat → Int32} {lC : Nat → Int64} {lS : Nat → Int64} {lP : Nat → Int64} {lX : Nat → Int64} {ztc : Int32} {aTs : Nat → Int32} {aTn : Nat → Int32} {zoc : Int32} {aOs : Nat → Int32} {aOn : Nat → Int32} {aTp : Nat → Int32} {zln : Int32} {zpl : Int32} {zfa : Int32} {aSz : Nat → Int32} {zit : Int32} {zip : Int32} {zic : Int32} {zig : Int32} {M : Nat → Nat → Int64} {yp : Int32} {ye : Int32} {yg : Int32} {bPo : Nat → Int32} {bTb : Nat → Int32} {wSh : Nat → Int64} {wTe : Nat → Int64} {wNx : Nat → Int64} {bOs : Nat → Int32} {bOn : Nat → Int32} {yop : Int32} {bSo : Nat → Int32} {bNu : Nat → Int32} {ytr : Int32} {yiw : Int32} {wMa : Nat → Int64} {wPr : Nat → Int64} {bTp : Nat → Int32} {yln : Int32} {ypl : Int32} {yfa : Int32} {wLi : Nat → Int64} {bSi : Nat → Int32} {yhp : Int32} {yhe : Int32} {yhg : Int32} {wHs : Nat → Int64} {yhi : Int32} (hR : Rel zp ze zf zg zn aG aW aR aN aF lC lS lP lX ztc aTs aTn zoc aOs aOn aTp zln zpl zfa aSz zit zip zic zig M yp ye yg bPo bTb wSh wTe wNx bOs bOn yop bSo bNu ytr yiw wMa wPr bTp yln ypl yfa wLi bSi yhp yhe yhg wHs yhi) (hN : LwN p l e s m below meth c b n G A q q2) {H : Heap} {locs : List Loc} {ls : Array Slot} (hw : Wd G s A (kW G q zp ze zf zg zn aG aW aR aN aF lC lS lP lX ++ (oW G q ztc aTs aTn zoc aOs aOn aTp zln zpl zfa aSz zit zip zic zig M ++ (mW G q2 yp ye yg bPo bTb wSh wTe wNx bOs bOn yop bSo bNu ytr yiw wMa wPr bTp yln ypl yfa wLi bSi yhp yhe yhg wHs yhi ++ []))) H locs) (hl : lv_has ls 4 [(0, .ref b), (1, .ref (q 21)), (2, .ref (q2 0)), (3, .int (nI n))]) : lwW p l e s m below meth c b H locs (F0 m 1271 ls []) := by
  have hx := F.x
  have hb := F.b
  have hi1 : vp_in (nI n + 1) L := by rw [show nI n + 1 = nI (n + 1) from nI_add n 1]; exact vp_in_nI (by omega) (by omega)
  have hi2 : vp_in (nI n + 2) L := by rw [show nI n + 2 = nI (n + 2) from nI_add n 2]; exact vp_in_nI (by omega) (by omega)
  have hi3 : vp_in (nI n + 3) L := by rw [show nI n + 3 = nI (n + 3) from nI_add n 3]; exact vp_in_nI (by omega) (by omega)
  have hi4 : vp_in (nI n + 4) L := by rw [show nI n + 4 = nI (n + 4) from nI_add n 4]; exact vp_in_nI (by omega) (by omega)
  obtain ⟨z1, z2, e1, e2, he, hR2⟩ := op_lay hR ((xs (nI n + 1).toNatClampNeg)) ((xs (nI n + 2).toNatClampNeg)) ((((xs (nI n + 3).toNatClampNeg).toInt64 <<< ((32 : Int32).toInt64 &&& 63)) ||| ((xs (nI n + 4).toNatClampNeg).toInt64 &&& 4294967295)))
  refine lv_aload_n hx hb dL_law_1271 rfl (lv_at hl 1 rfl) ?_
  refine lv_aload_n hx hb dL_law_1272 rfl (lv_at hl 0 rfl) ?_
  refine lv_iload_n hx hb dL_law_1273 rfl (lv_at hl 3 rfl) ?_
  refine lv_iconst (v := 1) hx hb dL_law_1274 (by decide) ?_
  refine lv_iadd hx hb dL_law_1275 ?_
  refine va_sld hx hb hX hbl hbA hw.2.2.2 hi1 dL_law_1276 ?_
  refine lv_aload_n hx hb dL_law_1277 rfl (lv_at hl 0 rfl) ?_
  refine lv_iload_n hx hb dL_law_1278 rfl (lv_at hl 3 rfl) ?_
  refine lv_iconst (v := 2) hx hb dL_law_1279 (by decide) ?_
  refine lv_iadd hx hb dL_law_1280 ?_
  refine va_sld hx hb hX hbl hbA hw.2.2.2 hi2 dL_law_1281 ?_
  refine lv_aload_n hx hb dL_law_1282 rfl (lv_at hl 0 rfl) ?_
  refine lv_iload_n hx hb dL_law_1283 rfl (lv_at hl 3 rfl) ?_
  refine lv_iconst (v := 3) hx hb dL_law_1284 (by decide) ?_
  refine lv_iadd hx hb dL_law_1285 ?_
  refine va_sld hx hb hX hbl hbA hw.2.2.2 hi3 dL_law_1286 ?_
  refine lv_i2l (v := (xs (nI n + 3).toNatClampNeg).toInt64) hx hb dL_law_1287 rfl ?_
  refine lv_bipush (v := 32) hx hb dL_law_1288 (by decide) ?_
  refine lv_lshl (v := ((xs (nI n + 3).toNatClampNeg).toInt64 <<< ((32 : Int32).toInt64 &&& 63))) hx hb dL_law_1290 rfl ?_
  refine lv_aload_n hx hb dL_law_1291 rfl (lv_at hl 0 rfl) ?_
  refine lv_iload_n hx hb dL_law_1292 rfl (lv_at hl 3 rfl) ?_
  refine lv_iconst (v := 4) hx hb dL_law_1293 (by decide) ?_
  refine lv_iadd hx hb dL_law_1294 ?_
  refine va_sld hx hb hX hbl hbA hw.2.2.2 hi4 dL_law_1295 ?_
  refine lv_i2l (v := (xs (nI n + 4).toNatClampNeg).toInt64) hx hb dL_law_1296 rfl ?_
  refine lv_ldc2 (v := 4294967295) hx hb F.ow (F.ts _ kc_L_77) dL_law_1297 ?_
  refine lv_land hx hb dL_law_1300 ?_
  refine lv_lor hx hb dL_law_1301 ?_
  refine ctL (av := [.int ((xs (nI n + 1).toNatClampNeg)), .int ((xs (nI n + 2).toNatClampNeg)), .long ((((xs (nI n + 3).toNatClampNeg).toInt64 <<< ((32 : Int32).toInt64 &&& 63)) ||| ((xs (nI n + 4).toNatClampNeg).toInt64 &&& 4294967295)))]) (st0 := ([] : List Value)) (st1 := ([.int z1.1] : List Value)) F hw hA (k_X4_lay e1) kl_L_154 kd_X4_lay rfl ⟨by decide, by decide⟩ ⟨by decide, by decide⟩ 21 rfl rfl hl.1 rfl (Nat.le_of_ble_eq_true rfl) dL_law_1302 rfl (fun H locs hw => ?_)
  refine lv_aload_n hx hb dL_law_1305 rfl (lv_at hl 2 rfl) ?_
  refine lv_aload_n hx hb dL_law_1306 rfl (lv_at hl 0 rfl) ?_
  refine lv_iload_n hx hb dL_law_1307 rfl (lv_at hl 3 rfl) ?_
  refine lv_iconst (v := 1) hx hb dL_law_1308 (by decide) ?_
  refine lv_iadd hx hb dL_law_1309 ?_
  refine va_sld hx hb hX hbl hbA hw.2.2.2 hi1 dL_law_1310 ?_
  refine lv_aload_n hx hb dL_law_1311 rfl (lv_at hl 0 rfl) ?_
  refine lv_iload_n hx hb dL_law_1312 rfl (lv_at hl 3 rfl) ?_
  refine lv_iconst (v := 2) hx hb dL_law_1313 (by decide) ?_
  refine lv_iadd hx hb dL_law_1314 ?_
  refine va_sld hx hb hX hbl hbA hw.2.2.2 hi2 dL_law_1315 ?_
  refine lv_aload_n hx hb dL_law_1316 rfl (lv_at hl 0 rfl) ?_
  refine lv_iload_n hx hb dL_law_1317 rfl (lv_at hl 3 rfl) ?_
  refine lv_iconst (v := 3) hx hb dL_law_1318 (by decide) ?_
  refine lv_iadd hx hb dL_law_1319 ?_
  refine va_sld hx hb hX hbl hbA hw.2.2.2 hi3 dL_law_1320 ?_
  refine lv_i2l (v := (xs (nI n + 3).toNatClampNeg).toInt64) hx hb dL_law_1321 rfl ?_
  refine lv_bipush (v := 32) hx hb dL_law_1322 (by decide) ?_
  refine lv_lshl (v := ((xs (nI n + 3).toNatClampNeg).toInt64 <<< ((32 : Int32).toInt64 &&& 63))) hx hb dL_law_1324 rfl ?_
  refine lv_aload_n hx hb dL_law_1325 rfl (lv_at hl 0 rfl) ?_
  refine lv_iload_n hx hb dL_law_1326 rfl (lv_at hl 3 rfl) ?_
  refine lv_iconst (v := 4) hx hb dL_law_1327 (by decide) ?_
  refine lv_iadd hx hb dL_law_1328 ?_
  refine va_sld hx hb hX hbl hbA hw.2.2.2 hi4 dL_law_1329 ?_
  refine lv_i2l (v := (xs (nI n + 4).toNatClampNeg).toInt64) hx hb dL_law_1330 rfl ?_
  refine lv_ldc2 (v := 4294967295) hx hb F.ow (F.ts _ kc_L_77) dL_law_1331 ?_
  refine lv_land hx hb dL_law_1334 ?_
  refine lv_lor hx hb dL_law_1335 ?_
  refine ctL (av := [.int ((xs (nI n + 1).toNatClampNeg)), .int ((xs (nI n + 2).toNatClampNeg)), .long ((((xs (nI n + 3).toNatClampNeg).toInt64 <<< ((32 : Int32).toInt64 &&& 63)) ||| ((xs (nI n + 4).toNatClampNeg).toInt64 &&& 4294967295)))]) (st0 := ([.int z1.1] : List Value)) (st1 := ([.int z2.1, .int z1.1] : List Value)) F hw.sw hA (k_X5_lay e2) kl_L_157 kd_X5_lay rfl ⟨by decide, by decide⟩ ⟨by decide, by decide⟩ 0 rfl rfl hl.1 rfl (Nat.le_of_ble_eq_true rfl) dL_law_1336 rfl (fun H locs hw => ?_)
  replace hw := hw.ws
  exact lv_icmp_eq (tgt := 1493) hx hb dL_law_1339 (by decide) (fun _ => hN _ _ _ _ _ _ _ _ _ _ _ _ _ _ _ _ _ _ _ _ _ _ _ _ _ _ _ _ _ _ _ _ _ _ _ _ _ _ _ _ _ _ _ _ _ _ _ _ _ _ _ _ _ _ _ _ _ _ hR2 H locs ls hw hl) (fun q => absurd he q)
set_option maxHeartbeats 4000000 in
set_option maxRecDepth 100000 in
theorem law_c34 (F : Fx p s m #[Value.ref b] meth c code 4 R_law ret) (hX : va_X b L xs s s.heap) (hbl : b < s.heap.size) (hbA : ¬ A b) (hA : ∀ x, s.heap.size ≤ x → A x) {n : Nat} (hn : n + 5 ≤ L) (hL : L ≤ 2560) {zp : Int32} {ze : Int32} {zf : Int32} {zg : Int32} {zn : Int32} {aG : Nat → Int32} {aW : Nat → Int32} {aR : Nat → Int32} {aN : Nat → Int32} {aF : Nat → Int32} {lC : Nat → Int64} {lS : Nat → Int64} {lP : Nat → Int64} {lX : Nat → Int64} {ztc : Int32} {aTs : Nat → Int32} {aTn : Nat → Int32} {zoc : Int32} {aOs : Nat → Int32} {aOn : Nat → Int32} {aTp : Nat → Int32} {zln : Int32} {zpl : Int32} {zfa : Int32} {aSz : Nat → Int32} {zit : Int32} {zip : Int32} {zic : Int32} {zig : Int32} {M : Nat → Nat → Int64} {yp : Int32} {ye : Int32} {yg : Int32} {bPo : Nat → Int32} {bTb : Nat → Int32} {wSh : Nat → Int64} {wTe : Nat → Int64} {wNx : Nat → Int64} {bOs : Nat → Int32} {bOn : Nat → Int32} {yop : Int32} {bSo : Nat → Int32} {bNu : Nat → Int32} {ytr : Int32} {yiw : Int32} {wMa : Nat → Int64} {wPr : Nat → Int64} {bTp : Nat → Int32} {yln : Int32} {ypl : Int32} {yfa : Int32} {wLi : Nat → Int64} {bSi : Nat → Int32} {yhp : Int32} {yhe : Int32} {yhg : Int32} {wHs : Nat → Int64} {yhi : Int32} (hR : Rel zp ze zf zg zn aG aW aR aN aF lC lS lP lX ztc aTs aTn zoc aOs aOn aTp zln zpl zfa aSz zit zip zic zig M yp ye yg bPo bTb wSh wTe wNx bOs bOn yop bSo bNu ytr yiw wMa wPr bTp yln ypl yfa wLi bSi yhp yhe yhg wHs yhi) (hN : LwN p l e s m below meth c b n G A q q2) {H : Heap} {locs : List Loc} {ls : Array Slot} (hw : Wd G s A (kW G q zp ze zf zg zn aG aW aR aN aF lC lS lP lX ++ (oW G q ztc aTs aTn zoc aOs aOn aTp zln zpl zfa aSz zit zip zic zig M ++ (mW G q2 yp ye yg bPo bTb wSh wTe wNx bOs bOn yop bSo bNu ytr yiw wMa wPr bTp yln ypl yfa wLi bSi yhp yhe yhg wHs yhi ++ []))) H locs) (hl : lv_has ls 4 [(0, .ref b), (1, .ref (q 21)), (2, .ref (q2 0)), (3, .int (nI n))]) : lwW p l e s m below meth c b H locs (F0 m 1344 ls []) := by
  have hx := F.x
  have hb := F.b
  have hi1 : vp_in (nI n + 1) L := by rw [show nI n + 1 = nI (n + 1) from nI_add n 1]; exact vp_in_nI (by omega) (by omega)
  have hi2 : vp_in (nI n + 2) L := by rw [show nI n + 2 = nI (n + 2) from nI_add n 2]; exact vp_in_nI (by omega) (by omega)
  obtain ⟨z1, z2, e1, e2, he, hR2⟩ := op_get hR ((xs (nI n + 1).toNatClampNeg)) ((xs (nI n + 2).toNatClampNeg))
  refine lv_aload_n hx hb dL_law_1344 rfl (lv_at hl 1 rfl) ?_
  refine lv_aload_n hx hb dL_law_1345 rfl (lv_at hl 0 rfl) ?_
  refine lv_iload_n hx hb dL_law_1346 rfl (lv_at hl 3 rfl) ?_
  refine lv_iconst (v := 1) hx hb dL_law_1347 (by decide) ?_
  refine lv_iadd hx hb dL_law_1348 ?_
  refine va_sld hx hb hX hbl hbA hw.2.2.2 hi1 dL_law_1349 ?_
  refine lv_aload_n hx hb dL_law_1350 rfl (lv_at hl 0 rfl) ?_
  refine lv_iload_n hx hb dL_law_1351 rfl (lv_at hl 3 rfl) ?_
  refine lv_iconst (v := 2) hx hb dL_law_1352 (by decide) ?_
  refine lv_iadd hx hb dL_law_1353 ?_
  refine va_sld hx hb hX hbl hbA hw.2.2.2 hi2 dL_law_1354 ?_
  refine ctL (av := [.int ((xs (nI n + 1).toNatClampNeg)), .int ((xs (nI n + 2).toNatClampNeg))]) (st0 := ([] : List Value)) (st1 := ([.long (z1)] : List Value)) F hw hA (k_X4_get e1) kl_L_158 kd_X4_get rfl ⟨by decide, by decide⟩ ⟨by decide, by decide⟩ 21 rfl rfl hl.1 rfl (Nat.le_of_ble_eq_true rfl) dL_law_1355 rfl (fun H locs hw => ?_)
  refine lv_aload_n hx hb dL_law_1358 rfl (lv_at hl 2 rfl) ?_
  refine lv_aload_n hx hb dL_law_1359 rfl (lv_at hl 0 rfl) ?_
  refine lv_iload_n hx hb dL_law_1360 rfl (lv_at hl 3 rfl) ?_
  refine lv_iconst (v := 1) hx hb dL_law_1361 (by decide) ?_
  refine lv_iadd hx hb dL_law_1362 ?_
  refine va_sld hx hb hX hbl hbA hw.2.2.2 hi1 dL_law_1363 ?_
  refine lv_aload_n hx hb dL_law_1364 rfl (lv_at hl 0 rfl) ?_
  refine lv_iload_n hx hb dL_law_1365 rfl (lv_at hl 3 rfl) ?_
  refine lv_iconst (v := 2) hx hb dL_law_1366 (by decide) ?_
  refine lv_iadd hx hb dL_law_1367 ?_
  refine va_sld hx hb hX hbl hbA hw.2.2.2 hi2 dL_law_1368 ?_
  refine ctL (av := [.int ((xs (nI n + 1).toNatClampNeg)), .int ((xs (nI n + 2).toNatClampNeg))]) (st0 := ([.long (z1)] : List Value)) (st1 := ([.long (z2), .long (z1)] : List Value)) F hw.sw hA (k_X5_get e2) kl_L_161 kd_X5_get rfl ⟨by decide, by decide⟩ ⟨by decide, by decide⟩ 0 rfl rfl hl.1 rfl (Nat.le_of_ble_eq_true rfl) dL_law_1369 rfl (fun H locs hw => ?_)
  replace hw := hw.ws
  refine W.lcmp hx hb dL_law_1372 ?_
  exact lv_if_eq (tgt := 1493) hx hb dL_law_1373 (by decide) (fun _ => hN _ _ _ _ _ _ _ _ _ _ _ _ _ _ _ _ _ _ _ _ _ _ _ _ _ _ _ _ _ _ _ _ _ _ _ _ _ _ _ _ _ _ _ _ _ _ _ _ _ _ _ _ _ _ _ _ _ _ hR2 H locs ls hw hl) (fun q => absurd (by rw [he]; exact lg_cmp_same _) q)
set_option maxHeartbeats 4000000 in
set_option maxRecDepth 100000 in
theorem law_c35 (F : Fx p s m #[Value.ref b] meth c code 4 R_law ret) (hX : va_X b L xs s s.heap) (hbl : b < s.heap.size) (hbA : ¬ A b) (hA : ∀ x, s.heap.size ≤ x → A x) {n : Nat} (hn : n + 5 ≤ L) (hL : L ≤ 2560) {zp : Int32} {ze : Int32} {zf : Int32} {zg : Int32} {zn : Int32} {aG : Nat → Int32} {aW : Nat → Int32} {aR : Nat → Int32} {aN : Nat → Int32} {aF : Nat → Int32} {lC : Nat → Int64} {lS : Nat → Int64} {lP : Nat → Int64} {lX : Nat → Int64} {ztc : Int32} {aTs : Nat → Int32} {aTn : Nat → Int32} {zoc : Int32} {aOs : Nat → Int32} {aOn : Nat → Int32} {aTp : Nat → Int32} {zln : Int32} {zpl : Int32} {zfa : Int32} {aSz : Nat → Int32} {zit : Int32} {zip : Int32} {zic : Int32} {zig : Int32} {M : Nat → Nat → Int64} {yp : Int32} {ye : Int32} {yg : Int32} {bPo : Nat → Int32} {bTb : Nat → Int32} {wSh : Nat → Int64} {wTe : Nat → Int64} {wNx : Nat → Int64} {bOs : Nat → Int32} {bOn : Nat → Int32} {yop : Int32} {bSo : Nat → Int32} {bNu : Nat → Int32} {ytr : Int32} {yiw : Int32} {wMa : Nat → Int64} {wPr : Nat → Int64} {bTp : Nat → Int32} {yln : Int32} {ypl : Int32} {yfa : Int32} {wLi : Nat → Int64} {bSi : Nat → Int32} {yhp : Int32} {yhe : Int32} {yhg : Int32} {wHs : Nat → Int64} {yhi : Int32} (hR : Rel zp ze zf zg zn aG aW aR aN aF lC lS lP lX ztc aTs aTn zoc aOs aOn aTp zln zpl zfa aSz zit zip zic zig M yp ye yg bPo bTb wSh wTe wNx bOs bOn yop bSo bNu ytr yiw wMa wPr bTp yln ypl yfa wLi bSi yhp yhe yhg wHs yhi) (hN : LwN p l e s m below meth c b n G A q q2) {H : Heap} {locs : List Loc} {ls : Array Slot} (hw : Wd G s A (kW G q zp ze zf zg zn aG aW aR aN aF lC lS lP lX ++ (oW G q ztc aTs aTn zoc aOs aOn aTp zln zpl zfa aSz zit zip zic zig M ++ (mW G q2 yp ye yg bPo bTb wSh wTe wNx bOs bOn yop bSo bNu ytr yiw wMa wPr bTp yln ypl yfa wLi bSi yhp yhe yhg wHs yhi ++ []))) H locs) (hl : lv_has ls 4 [(0, .ref b), (1, .ref (q 21)), (2, .ref (q2 0)), (3, .int (nI n))]) : lwW p l e s m below meth c b H locs (F0 m 1378 ls []) := by
  have hx := F.x
  have hb := F.b
  have hi1 : vp_in (nI n + 1) L := by rw [show nI n + 1 = nI (n + 1) from nI_add n 1]; exact vp_in_nI (by omega) (by omega)
  have hi2 : vp_in (nI n + 2) L := by rw [show nI n + 2 = nI (n + 2) from nI_add n 2]; exact vp_in_nI (by omega) (by omega)
  obtain ⟨z1, z2, e1, e2, he, hR2⟩ := op_film hR ((xs (nI n + 1).toNatClampNeg)) ((xs (nI n + 2).toNatClampNeg))
  refine lv_aload_n hx hb dL_law_1378 rfl (lv_at hl 1 rfl) ?_
  refine lv_aload_n hx hb dL_law_1379 rfl (lv_at hl 0 rfl) ?_
  refine lv_iload_n hx hb dL_law_1380 rfl (lv_at hl 3 rfl) ?_
  refine lv_iconst (v := 1) hx hb dL_law_1381 (by decide) ?_
  refine lv_iadd hx hb dL_law_1382 ?_
  refine va_sld hx hb hX hbl hbA hw.2.2.2 hi1 dL_law_1383 ?_
  refine lv_aload_n hx hb dL_law_1384 rfl (lv_at hl 0 rfl) ?_
  refine lv_iload_n hx hb dL_law_1385 rfl (lv_at hl 3 rfl) ?_
  refine lv_iconst (v := 2) hx hb dL_law_1386 (by decide) ?_
  refine lv_iadd hx hb dL_law_1387 ?_
  refine va_sld hx hb hX hbl hbA hw.2.2.2 hi2 dL_law_1388 ?_
  refine ctL (av := [.int ((xs (nI n + 1).toNatClampNeg)), .int ((xs (nI n + 2).toNatClampNeg))]) (st0 := ([] : List Value)) (st1 := ([.int z1.1] : List Value)) F hw hA (k_X4_film e1) kl_L_162 kd_X4_film rfl ⟨by decide, by decide⟩ ⟨by decide, by decide⟩ 21 rfl rfl hl.1 rfl (Nat.le_of_ble_eq_true rfl) dL_law_1389 rfl (fun H locs hw => ?_)
  refine lv_aload_n hx hb dL_law_1392 rfl (lv_at hl 2 rfl) ?_
  refine lv_aload_n hx hb dL_law_1393 rfl (lv_at hl 0 rfl) ?_
  refine lv_iload_n hx hb dL_law_1394 rfl (lv_at hl 3 rfl) ?_
  refine lv_iconst (v := 1) hx hb dL_law_1395 (by decide) ?_
  refine lv_iadd hx hb dL_law_1396 ?_
  refine va_sld hx hb hX hbl hbA hw.2.2.2 hi1 dL_law_1397 ?_
  refine lv_aload_n hx hb dL_law_1398 rfl (lv_at hl 0 rfl) ?_
  refine lv_iload_n hx hb dL_law_1399 rfl (lv_at hl 3 rfl) ?_
  refine lv_iconst (v := 2) hx hb dL_law_1400 (by decide) ?_
  refine lv_iadd hx hb dL_law_1401 ?_
  refine va_sld hx hb hX hbl hbA hw.2.2.2 hi2 dL_law_1402 ?_
  refine ctL (av := [.int ((xs (nI n + 1).toNatClampNeg)), .int ((xs (nI n + 2).toNatClampNeg))]) (st0 := ([.int z1.1] : List Value)) (st1 := ([.int z2.1, .int z1.1] : List Value)) F hw.sw hA (k_X5_film e2) kl_L_165 kd_X5_film rfl ⟨by decide, by decide⟩ ⟨by decide, by decide⟩ 0 rfl rfl hl.1 rfl (Nat.le_of_ble_eq_true rfl) dL_law_1403 rfl (fun H locs hw => ?_)
  replace hw := hw.ws
  exact lv_icmp_eq (tgt := 1493) hx hb dL_law_1406 (by decide) (fun _ => hN _ _ _ _ _ _ _ _ _ _ _ _ _ _ _ _ _ _ _ _ _ _ _ _ _ _ _ _ _ _ _ _ _ _ _ _ _ _ _ _ _ _ _ _ _ _ _ _ _ _ _ _ _ _ _ _ _ _ hR2 H locs ls hw hl) (fun q => absurd he q)
set_option maxHeartbeats 4000000 in
set_option maxRecDepth 100000 in
theorem law_c36 (F : Fx p s m #[Value.ref b] meth c code 4 R_law ret) (hX : va_X b L xs s s.heap) (hbl : b < s.heap.size) (hbA : ¬ A b) (hA : ∀ x, s.heap.size ≤ x → A x) {n : Nat} (hn : n + 5 ≤ L) (hL : L ≤ 2560) {zp : Int32} {ze : Int32} {zf : Int32} {zg : Int32} {zn : Int32} {aG : Nat → Int32} {aW : Nat → Int32} {aR : Nat → Int32} {aN : Nat → Int32} {aF : Nat → Int32} {lC : Nat → Int64} {lS : Nat → Int64} {lP : Nat → Int64} {lX : Nat → Int64} {ztc : Int32} {aTs : Nat → Int32} {aTn : Nat → Int32} {zoc : Int32} {aOs : Nat → Int32} {aOn : Nat → Int32} {aTp : Nat → Int32} {zln : Int32} {zpl : Int32} {zfa : Int32} {aSz : Nat → Int32} {zit : Int32} {zip : Int32} {zic : Int32} {zig : Int32} {M : Nat → Nat → Int64} {yp : Int32} {ye : Int32} {yg : Int32} {bPo : Nat → Int32} {bTb : Nat → Int32} {wSh : Nat → Int64} {wTe : Nat → Int64} {wNx : Nat → Int64} {bOs : Nat → Int32} {bOn : Nat → Int32} {yop : Int32} {bSo : Nat → Int32} {bNu : Nat → Int32} {ytr : Int32} {yiw : Int32} {wMa : Nat → Int64} {wPr : Nat → Int64} {bTp : Nat → Int32} {yln : Int32} {ypl : Int32} {yfa : Int32} {wLi : Nat → Int64} {bSi : Nat → Int32} {yhp : Int32} {yhe : Int32} {yhg : Int32} {wHs : Nat → Int64} {yhi : Int32} (hR : Rel zp ze zf zg zn aG aW aR aN aF lC lS lP lX ztc aTs aTn zoc aOs aOn aTp zln zpl zfa aSz zit zip zic zig M yp ye yg bPo bTb wSh wTe wNx bOs bOn yop bSo bNu ytr yiw wMa wPr bTp yln ypl yfa wLi bSi yhp yhe yhg wHs yhi) (hN : LwN p l e s m below meth c b n G A q q2) {H : Heap} {locs : List Loc} {ls : Array Slot} (hw : Wd G s A (kW G q zp ze zf zg zn aG aW aR aN aF lC lS lP lX ++ (oW G q ztc aTs aTn zoc aOs aOn aTp zln zpl zfa aSz zit zip zic zig M ++ (mW G q2 yp ye yg bPo bTb wSh wTe wNx bOs bOn yop bSo bNu ytr yiw wMa wPr bTp yln ypl yfa wLi bSi yhp yhe yhg wHs yhi ++ []))) H locs) (hl : lv_has ls 4 [(0, .ref b), (1, .ref (q 21)), (2, .ref (q2 0)), (3, .int (nI n))]) : lwW p l e s m below meth c b H locs (F0 m 1411 ls []) := by
  have hx := F.x
  have hb := F.b
  have hi1 : vp_in (nI n + 1) L := by rw [show nI n + 1 = nI (n + 1) from nI_add n 1]; exact vp_in_nI (by omega) (by omega)
  have hi2 : vp_in (nI n + 2) L := by rw [show nI n + 2 = nI (n + 2) from nI_add n 2]; exact vp_in_nI (by omega) (by omega)
  obtain ⟨z1, z2, e1, e2, he, hR2⟩ := op_judge hR ((xs (nI n + 1).toNatClampNeg)) ((xs (nI n + 2).toNatClampNeg))
  refine lv_aload_n hx hb dL_law_1411 rfl (lv_at hl 1 rfl) ?_
  refine lv_aload_n hx hb dL_law_1412 rfl (lv_at hl 0 rfl) ?_
  refine lv_iload_n hx hb dL_law_1413 rfl (lv_at hl 3 rfl) ?_
  refine lv_iconst (v := 1) hx hb dL_law_1414 (by decide) ?_
  refine lv_iadd hx hb dL_law_1415 ?_
  refine va_sld hx hb hX hbl hbA hw.2.2.2 hi1 dL_law_1416 ?_
  refine lv_aload_n hx hb dL_law_1417 rfl (lv_at hl 0 rfl) ?_
  refine lv_iload_n hx hb dL_law_1418 rfl (lv_at hl 3 rfl) ?_
  refine lv_iconst (v := 2) hx hb dL_law_1419 (by decide) ?_
  refine lv_iadd hx hb dL_law_1420 ?_
  refine va_sld hx hb hX hbl hbA hw.2.2.2 hi2 dL_law_1421 ?_
  refine ctL (av := [.int ((xs (nI n + 1).toNatClampNeg)), .int ((xs (nI n + 2).toNatClampNeg))]) (st0 := ([] : List Value)) (st1 := ([.int z1] : List Value)) F hw hA (k_X4_judge e1) kl_L_166 kd_X4_judge rfl ⟨by decide, by decide⟩ ⟨by decide, by decide⟩ 21 rfl rfl hl.1 rfl (Nat.le_of_ble_eq_true rfl) dL_law_1422 rfl (fun H locs hw => ?_)
  refine lv_aload_n hx hb dL_law_1425 rfl (lv_at hl 2 rfl) ?_
  refine lv_aload_n hx hb dL_law_1426 rfl (lv_at hl 0 rfl) ?_
  refine lv_iload_n hx hb dL_law_1427 rfl (lv_at hl 3 rfl) ?_
  refine lv_iconst (v := 1) hx hb dL_law_1428 (by decide) ?_
  refine lv_iadd hx hb dL_law_1429 ?_
  refine va_sld hx hb hX hbl hbA hw.2.2.2 hi1 dL_law_1430 ?_
  refine lv_aload_n hx hb dL_law_1431 rfl (lv_at hl 0 rfl) ?_
  refine lv_iload_n hx hb dL_law_1432 rfl (lv_at hl 3 rfl) ?_
  refine lv_iconst (v := 2) hx hb dL_law_1433 (by decide) ?_
  refine lv_iadd hx hb dL_law_1434 ?_
  refine va_sld hx hb hX hbl hbA hw.2.2.2 hi2 dL_law_1435 ?_
  refine ctL (av := [.int ((xs (nI n + 1).toNatClampNeg)), .int ((xs (nI n + 2).toNatClampNeg))]) (st0 := ([.int z1] : List Value)) (st1 := ([.int z2, .int z1] : List Value)) F hw.sw hA (k_X5_judge e2) kl_L_169 kd_X5_judge rfl ⟨by decide, by decide⟩ ⟨by decide, by decide⟩ 0 rfl rfl hl.1 rfl (Nat.le_of_ble_eq_true rfl) dL_law_1436 rfl (fun H locs hw => ?_)
  replace hw := hw.ws
  exact lv_icmp_eq (tgt := 1493) hx hb dL_law_1439 (by decide) (fun _ => hN _ _ _ _ _ _ _ _ _ _ _ _ _ _ _ _ _ _ _ _ _ _ _ _ _ _ _ _ _ _ _ _ _ _ _ _ _ _ _ _ _ _ _ _ _ _ _ _ _ _ _ _ _ _ _ _ _ _ hR2 H locs ls hw hl) (fun q => absurd he q)
set_option maxHeartbeats 4000000 in
set_option maxRecDepth 100000 in
theorem law_c37 (F : Fx p s m #[Value.ref b] meth c code 4 R_law ret) (hX : va_X b L xs s s.heap) (hbl : b < s.heap.size) (hbA : ¬ A b) (hA : ∀ x, s.heap.size ≤ x → A x) {n : Nat} (hn : n + 5 ≤ L) (hL : L ≤ 2560) {zp : Int32} {ze : Int32} {zf : Int32} {zg : Int32} {zn : Int32} {aG : Nat → Int32} {aW : Nat → Int32} {aR : Nat → Int32} {aN : Nat → Int32} {aF : Nat → Int32} {lC : Nat → Int64} {lS : Nat → Int64} {lP : Nat → Int64} {lX : Nat → Int64} {ztc : Int32} {aTs : Nat → Int32} {aTn : Nat → Int32} {zoc : Int32} {aOs : Nat → Int32} {aOn : Nat → Int32} {aTp : Nat → Int32} {zln : Int32} {zpl : Int32} {zfa : Int32} {aSz : Nat → Int32} {zit : Int32} {zip : Int32} {zic : Int32} {zig : Int32} {M : Nat → Nat → Int64} {yp : Int32} {ye : Int32} {yg : Int32} {bPo : Nat → Int32} {bTb : Nat → Int32} {wSh : Nat → Int64} {wTe : Nat → Int64} {wNx : Nat → Int64} {bOs : Nat → Int32} {bOn : Nat → Int32} {yop : Int32} {bSo : Nat → Int32} {bNu : Nat → Int32} {ytr : Int32} {yiw : Int32} {wMa : Nat → Int64} {wPr : Nat → Int64} {bTp : Nat → Int32} {yln : Int32} {ypl : Int32} {yfa : Int32} {wLi : Nat → Int64} {bSi : Nat → Int32} {yhp : Int32} {yhe : Int32} {yhg : Int32} {wHs : Nat → Int64} {yhi : Int32} (hR : Rel zp ze zf zg zn aG aW aR aN aF lC lS lP lX ztc aTs aTn zoc aOs aOn aTp zln zpl zfa aSz zit zip zic zig M yp ye yg bPo bTb wSh wTe wNx bOs bOn yop bSo bNu ytr yiw wMa wPr bTp yln ypl yfa wLi bSi yhp yhe yhg wHs yhi) (hN : LwN p l e s m below meth c b n G A q q2) {H : Heap} {locs : List Loc} {ls : Array Slot} (hw : Wd G s A (kW G q zp ze zf zg zn aG aW aR aN aF lC lS lP lX ++ (oW G q ztc aTs aTn zoc aOs aOn aTp zln zpl zfa aSz zit zip zic zig M ++ (mW G q2 yp ye yg bPo bTb wSh wTe wNx bOs bOn yop bSo bNu ytr yiw wMa wPr bTp yln ypl yfa wLi bSi yhp yhe yhg wHs yhi ++ []))) H locs) (hl : lv_has ls 4 [(0, .ref b), (1, .ref (q 21)), (2, .ref (q2 0)), (3, .int (nI n))]) : lwW p l e s m below meth c b H locs (F0 m 1444 ls []) := by
  have hx := F.x
  have hb := F.b
  obtain ⟨z1, z2, e1, e2, he, hR2⟩ := op_image hR
  refine lv_aload_n hx hb dL_law_1444 rfl (lv_at hl 1 rfl) ?_
  refine ctL (av := []) (st0 := ([] : List Value)) (st1 := ([.int z1.1] : List Value)) F hw hA (k_X4_image e1) kl_L_170 kd_X4_image rfl ⟨by decide, by decide⟩ ⟨by decide, by decide⟩ 21 rfl rfl hl.1 rfl (Nat.le_of_ble_eq_true rfl) dL_law_1445 rfl (fun H locs hw => ?_)
  refine lv_aload_n hx hb dL_law_1448 rfl (lv_at hl 2 rfl) ?_
  refine ctL (av := []) (st0 := ([.int z1.1] : List Value)) (st1 := ([.int z2.1, .int z1.1] : List Value)) F hw.sw hA (k_X5_image e2) kl_L_173 kd_X5_image rfl ⟨by decide, by decide⟩ ⟨by decide, by decide⟩ 0 rfl rfl hl.1 rfl (Nat.le_of_ble_eq_true rfl) dL_law_1449 rfl (fun H locs hw => ?_)
  replace hw := hw.ws
  exact lv_icmp_eq (tgt := 1493) hx hb dL_law_1452 (by decide) (fun _ => hN _ _ _ _ _ _ _ _ _ _ _ _ _ _ _ _ _ _ _ _ _ _ _ _ _ _ _ _ _ _ _ _ _ _ _ _ _ _ _ _ _ _ _ _ _ _ _ _ _ _ _ _ _ _ _ _ _ _ hR2 H locs ls hw hl) (fun q => absurd he q)
set_option maxHeartbeats 4000000 in
set_option maxRecDepth 100000 in
theorem law_c38 (F : Fx p s m #[Value.ref b] meth c code 4 R_law ret) (hX : va_X b L xs s s.heap) (hbl : b < s.heap.size) (hbA : ¬ A b) (hA : ∀ x, s.heap.size ≤ x → A x) {n : Nat} (hn : n + 5 ≤ L) (hL : L ≤ 2560) {zp : Int32} {ze : Int32} {zf : Int32} {zg : Int32} {zn : Int32} {aG : Nat → Int32} {aW : Nat → Int32} {aR : Nat → Int32} {aN : Nat → Int32} {aF : Nat → Int32} {lC : Nat → Int64} {lS : Nat → Int64} {lP : Nat → Int64} {lX : Nat → Int64} {ztc : Int32} {aTs : Nat → Int32} {aTn : Nat → Int32} {zoc : Int32} {aOs : Nat → Int32} {aOn : Nat → Int32} {aTp : Nat → Int32} {zln : Int32} {zpl : Int32} {zfa : Int32} {aSz : Nat → Int32} {zit : Int32} {zip : Int32} {zic : Int32} {zig : Int32} {M : Nat → Nat → Int64} {yp : Int32} {ye : Int32} {yg : Int32} {bPo : Nat → Int32} {bTb : Nat → Int32} {wSh : Nat → Int64} {wTe : Nat → Int64} {wNx : Nat → Int64} {bOs : Nat → Int32} {bOn : Nat → Int32} {yop : Int32} {bSo : Nat → Int32} {bNu : Nat → Int32} {ytr : Int32} {yiw : Int32} {wMa : Nat → Int64} {wPr : Nat → Int64} {bTp : Nat → Int32} {yln : Int32} {ypl : Int32} {yfa : Int32} {wLi : Nat → Int64} {bSi : Nat → Int32} {yhp : Int32} {yhe : Int32} {yhg : Int32} {wHs : Nat → Int64} {yhi : Int32} (hR : Rel zp ze zf zg zn aG aW aR aN aF lC lS lP lX ztc aTs aTn zoc aOs aOn aTp zln zpl zfa aSz zit zip zic zig M yp ye yg bPo bTb wSh wTe wNx bOs bOn yop bSo bNu ytr yiw wMa wPr bTp yln ypl yfa wLi bSi yhp yhe yhg wHs yhi) (hN : LwN p l e s m below meth c b n G A q q2) {H : Heap} {locs : List Loc} {ls : Array Slot} (hw : Wd G s A (kW G q zp ze zf zg zn aG aW aR aN aF lC lS lP lX ++ (oW G q ztc aTs aTn zoc aOs aOn aTp zln zpl zfa aSz zit zip zic zig M ++ (mW G q2 yp ye yg bPo bTb wSh wTe wNx bOs bOn yop bSo bNu ytr yiw wMa wPr bTp yln ypl yfa wLi bSi yhp yhe yhg wHs yhi ++ []))) H locs) (hl : lv_has ls 4 [(0, .ref b), (1, .ref (q 21)), (2, .ref (q2 0)), (3, .int (nI n))]) : lwW p l e s m below meth c b H locs (F0 m 1457 ls []) := by
  have hx := F.x
  have hb := F.b
  obtain ⟨z1, z2, e1, e2, he, hR2⟩ := op_undo hR
  refine lv_aload_n hx hb dL_law_1457 rfl (lv_at hl 1 rfl) ?_
  refine ctL (av := []) (st0 := ([] : List Value)) (st1 := ([.int z1.1] : List Value)) F hw hA (k_X4_undo e1) kl_L_174 kd_X4_undo rfl ⟨by decide, by decide⟩ ⟨by decide, by decide⟩ 21 rfl rfl hl.1 rfl (Nat.le_of_ble_eq_true rfl) dL_law_1458 rfl (fun H locs hw => ?_)
  refine lv_aload_n hx hb dL_law_1461 rfl (lv_at hl 2 rfl) ?_
  refine ctL (av := []) (st0 := ([.int z1.1] : List Value)) (st1 := ([.int z2.1, .int z1.1] : List Value)) F hw.sw hA (k_X5_undo e2) kl_L_177 kd_X5_undo rfl ⟨by decide, by decide⟩ ⟨by decide, by decide⟩ 0 rfl rfl hl.1 rfl (Nat.le_of_ble_eq_true rfl) dL_law_1462 rfl (fun H locs hw => ?_)
  replace hw := hw.ws
  exact lv_icmp_eq (tgt := 1493) hx hb dL_law_1465 (by decide) (fun _ => hN _ _ _ _ _ _ _ _ _ _ _ _ _ _ _ _ _ _ _ _ _ _ _ _ _ _ _ _ _ _ _ _ _ _ _ _ _ _ _ _ _ _ _ _ _ _ _ _ _ _ _ _ _ _ _ _ _ _ hR2 H locs ls hw hl) (fun q => absurd he q)
set_option maxHeartbeats 4000000 in
set_option maxRecDepth 100000 in
theorem law_c39 (F : Fx p s m #[Value.ref b] meth c code 4 R_law ret) (hX : va_X b L xs s s.heap) (hbl : b < s.heap.size) (hbA : ¬ A b) (hA : ∀ x, s.heap.size ≤ x → A x) {n : Nat} (hn : n + 5 ≤ L) (hL : L ≤ 2560) {zp : Int32} {ze : Int32} {zf : Int32} {zg : Int32} {zn : Int32} {aG : Nat → Int32} {aW : Nat → Int32} {aR : Nat → Int32} {aN : Nat → Int32} {aF : Nat → Int32} {lC : Nat → Int64} {lS : Nat → Int64} {lP : Nat → Int64} {lX : Nat → Int64} {ztc : Int32} {aTs : Nat → Int32} {aTn : Nat → Int32} {zoc : Int32} {aOs : Nat → Int32} {aOn : Nat → Int32} {aTp : Nat → Int32} {zln : Int32} {zpl : Int32} {zfa : Int32} {aSz : Nat → Int32} {zit : Int32} {zip : Int32} {zic : Int32} {zig : Int32} {M : Nat → Nat → Int64} {yp : Int32} {ye : Int32} {yg : Int32} {bPo : Nat → Int32} {bTb : Nat → Int32} {wSh : Nat → Int64} {wTe : Nat → Int64} {wNx : Nat → Int64} {bOs : Nat → Int32} {bOn : Nat → Int32} {yop : Int32} {bSo : Nat → Int32} {bNu : Nat → Int32} {ytr : Int32} {yiw : Int32} {wMa : Nat → Int64} {wPr : Nat → Int64} {bTp : Nat → Int32} {yln : Int32} {ypl : Int32} {yfa : Int32} {wLi : Nat → Int64} {bSi : Nat → Int32} {yhp : Int32} {yhe : Int32} {yhg : Int32} {wHs : Nat → Int64} {yhi : Int32} (hR : Rel zp ze zf zg zn aG aW aR aN aF lC lS lP lX ztc aTs aTn zoc aOs aOn aTp zln zpl zfa aSz zit zip zic zig M yp ye yg bPo bTb wSh wTe wNx bOs bOn yop bSo bNu ytr yiw wMa wPr bTp yln ypl yfa wLi bSi yhp yhe yhg wHs yhi) (hN : LwN p l e s m below meth c b n G A q q2) {H : Heap} {locs : List Loc} {ls : Array Slot} (hw : Wd G s A (kW G q zp ze zf zg zn aG aW aR aN aF lC lS lP lX ++ (oW G q ztc aTs aTn zoc aOs aOn aTp zln zpl zfa aSz zit zip zic zig M ++ (mW G q2 yp ye yg bPo bTb wSh wTe wNx bOs bOn yop bSo bNu ytr yiw wMa wPr bTp yln ypl yfa wLi bSi yhp yhe yhg wHs yhi ++ []))) H locs) (hl : lv_has ls 4 [(0, .ref b), (1, .ref (q 21)), (2, .ref (q2 0)), (3, .int (nI n))]) : lwW p l e s m below meth c b H locs (F0 m 1470 ls []) := by
  have hx := F.x
  have hb := F.b
  have hi1 : vp_in (nI n + 1) L := by rw [show nI n + 1 = nI (n + 1) from nI_add n 1]; exact vp_in_nI (by omega) (by omega)
  obtain ⟨z1, z2, e1, e2, he, hR2⟩ := op_count hR ((xs (nI n + 1).toNatClampNeg))
  refine lv_aload_n hx hb dL_law_1470 rfl (lv_at hl 1 rfl) ?_
  refine lv_aload_n hx hb dL_law_1471 rfl (lv_at hl 0 rfl) ?_
  refine lv_iload_n hx hb dL_law_1472 rfl (lv_at hl 3 rfl) ?_
  refine lv_iconst (v := 1) hx hb dL_law_1473 (by decide) ?_
  refine lv_iadd hx hb dL_law_1474 ?_
  refine va_sld hx hb hX hbl hbA hw.2.2.2 hi1 dL_law_1475 ?_
  refine ctL (av := [.int ((xs (nI n + 1).toNatClampNeg))]) (st0 := ([] : List Value)) (st1 := ([.int z1] : List Value)) F hw hA (k_X4_count e1) kl_L_178 kd_X4_count rfl ⟨by decide, by decide⟩ ⟨by decide, by decide⟩ 21 rfl rfl hl.1 rfl (Nat.le_of_ble_eq_true rfl) dL_law_1476 rfl (fun H locs hw => ?_)
  refine lv_aload_n hx hb dL_law_1479 rfl (lv_at hl 2 rfl) ?_
  refine lv_aload_n hx hb dL_law_1480 rfl (lv_at hl 0 rfl) ?_
  refine lv_iload_n hx hb dL_law_1481 rfl (lv_at hl 3 rfl) ?_
  refine lv_iconst (v := 1) hx hb dL_law_1482 (by decide) ?_
  refine lv_iadd hx hb dL_law_1483 ?_
  refine va_sld hx hb hX hbl hbA hw.2.2.2 hi1 dL_law_1484 ?_
  refine ctL (av := [.int ((xs (nI n + 1).toNatClampNeg))]) (st0 := ([.int z1] : List Value)) (st1 := ([.int z2, .int z1] : List Value)) F hw.sw hA (k_X5_count e2) kl_L_181 kd_X5_count rfl ⟨by decide, by decide⟩ ⟨by decide, by decide⟩ 0 rfl rfl hl.1 rfl (Nat.le_of_ble_eq_true rfl) dL_law_1485 rfl (fun H locs hw => ?_)
  replace hw := hw.ws
  exact lv_icmp_eq (tgt := 1493) hx hb dL_law_1488 (by decide) (fun _ => hN _ _ _ _ _ _ _ _ _ _ _ _ _ _ _ _ _ _ _ _ _ _ _ _ _ _ _ _ _ _ _ _ _ _ _ _ _ _ _ _ _ _ _ _ _ _ _ _ _ _ _ _ _ _ _ _ _ _ hR2 H locs ls hw hl) (fun q => absurd he q)
end LW
