theorem d_Mo_place_19 : decode b_Mo_place 19 = .ok (.aload_n 0, 1) := by decide +kernel
theorem d_Mo_place_20 : decode b_Mo_place 20 = .ok (.getfield 20, 3) := by decide +kernel
theorem d_Mo_place_23 : decode b_Mo_place 23 = .ok (.iload_n 2, 1) := by decide +kernel
theorem d_Mo_place_24 : decode b_Mo_place 24 = .ok (.baload, 1) := by decide +kernel
theorem d_Mo_place_25 : decode b_Mo_place 25 = .ok (.ifCond .eq 23, 3) := by decide +kernel
theorem d_Mo_place_28 : decode b_Mo_place 28 = .ok (.iload_n 3, 1) := by decide +kernel
theorem d_Mo_place_29 : decode b_Mo_place 29 = .ok (.ifCond .lt 19, 3) := by decide +kernel
theorem d_Mo_place_32 : decode b_Mo_place 32 = .ok (.iload_n 3, 1) := by decide +kernel
theorem d_Mo_place_33 : decode b_Mo_place 33 = .ok (.aload_n 0, 1) := by decide +kernel
theorem d_Mo_place_34 : decode b_Mo_place 34 = .ok (.getfield 26, 3) := by decide +kernel
theorem d_Mo_place_37 : decode b_Mo_place 37 = .ok (.aload_n 0, 1) := by decide +kernel
theorem d_Mo_place_38 : decode b_Mo_place 38 = .ok (.getfield 13, 3) := by decide +kernel
theorem d_Mo_place_41 : decode b_Mo_place 41 = .ok (.iload_n 2, 1) := by decide +kernel
theorem d_Mo_place_42 : decode b_Mo_place 42 = .ok (.laload, 1) := by decide +kernel
theorem d_Mo_place_43 : decode b_Mo_place 43 = .ok (.l2i, 1) := by decide +kernel
theorem d_Mo_place_44 : decode b_Mo_place 44 = .ok (.iaload, 1) := by decide +kernel
theorem d_Mo_place_45 : decode b_Mo_place 45 = .ok (.if_icmp .lt 7, 3) := by decide +kernel
theorem d_Mo_place_48 : decode b_Mo_place 48 = .ok (.iconst 2, 1) := by decide +kernel
theorem d_Mo_place_49 : decode b_Mo_place 49 = .ok (.goto 4, 3) := by decide +kernel
theorem d_Mo_place_52 : decode b_Mo_place 52 = .ok (.iconst 0, 1) := by decide +kernel
theorem d_Mo_place_53 : decode b_Mo_place 53 = .ok (.putfield 43, 3) := by decide +kernel
theorem d_Mo_place_56 : decode b_Mo_place 56 = .ok (.aload_n 0, 1) := by decide +kernel
theorem d_Mo_place_57 : decode b_Mo_place 57 = .ok (.getfield 43, 3) := by decide +kernel
theorem d_Mo_place_60 : decode b_Mo_place 60 = .ok (.ifCond .le 7, 3) := by decide +kernel
theorem d_Mo_place_63 : decode b_Mo_place 63 = .ok (.iconst (-1), 1) := by decide +kernel
theorem d_Mo_place_64 : decode b_Mo_place 64 = .ok (.goto 15, 3) := by decide +kernel
theorem d_Mo_place_67 : decode b_Mo_place 67 = .ok (.bipush 16, 2) := by decide +kernel
theorem d_Mo_place_69 : decode b_Mo_place 69 = .ok (.aload_n 0, 1) := by decide +kernel
theorem d_Mo_place_70 : decode b_Mo_place 70 = .ok (.getfield 13, 3) := by decide +kernel
theorem d_Mo_place_73 : decode b_Mo_place 73 = .ok (.iload_n 2, 1) := by decide +kernel
theorem d_Mo_place_74 : decode b_Mo_place 74 = .ok (.laload, 1) := by decide +kernel
theorem d_Mo_place_75 : decode b_Mo_place 75 = .ok (.l2i, 1) := by decide +kernel
theorem d_Mo_place_76 : decode b_Mo_place 76 = .ok (.imul, 1) := by decide +kernel
theorem d_Mo_place_77 : decode b_Mo_place 77 = .ok (.iload_n 3, 1) := by decide +kernel
theorem d_Mo_place_78 : decode b_Mo_place 78 = .ok (.iadd, 1) := by decide +kernel
theorem d_Mo_place_79 : decode b_Mo_place 79 = .ok (.ireturn, 1) := by decide +kernel
theorem d_Mo_get_0 : decode b_Mo_get 0 = .ok (.aload_n 0, 1) := by decide +kernel
theorem d_Mo_get_1 : decode b_Mo_get 1 = .ok (.iload_n 1, 1) := by decide +kernel
theorem d_Mo_get_2 : decode b_Mo_get 2 = .ok (.iload_n 2, 1) := by decide +kernel
theorem d_Mo_get_3 : decode b_Mo_get 3 = .ok (.iload_n 3, 1) := by decide +kernel
theorem d_Mo_get_4 : decode b_Mo_get 4 = .ok (.invokevirtual 69, 3) := by decide +kernel
theorem d_Mo_get_7 : decode b_Mo_get 7 = .ok (.istore 4, 2) := by decide +kernel
theorem d_Mo_get_9 : decode b_Mo_get 9 = .ok (.iload 4, 2) := by decide +kernel
theorem d_Mo_get_11 : decode b_Mo_get 11 = .ok (.ifCond .ge 4, 3) := by decide +kernel
theorem d_Mo_get_14 : decode b_Mo_get 14 = .ok (.return_, 1) := by decide +kernel
theorem d_Mo_get_15 : decode b_Mo_get 15 = .ok (.aload_n 0, 1) := by decide +kernel
theorem d_Mo_get_16 : decode b_Mo_get 16 = .ok (.getfield 13, 3) := by decide +kernel
theorem d_Mo_get_19 : decode b_Mo_get 19 = .ok (.iload_n 1, 1) := by decide +kernel
theorem d_Mo_get_20 : decode b_Mo_get 20 = .ok (.aload_n 0, 1) := by decide +kernel
theorem d_Mo_get_21 : decode b_Mo_get 21 = .ok (.getfield 9, 3) := by decide +kernel
theorem d_Mo_get_24 : decode b_Mo_get 24 = .ok (.iload 4, 2) := by decide +kernel
theorem d_Mo_get_26 : decode b_Mo_get 26 = .ok (.laload, 1) := by decide +kernel
theorem d_Mo_get_27 : decode b_Mo_get 27 = .ok (.lastore, 1) := by decide +kernel
theorem d_Mo_get_28 : decode b_Mo_get 28 = .ok (.aload_n 0, 1) := by decide +kernel
theorem d_Mo_get_29 : decode b_Mo_get 29 = .ok (.getfield 20, 3) := by decide +kernel
theorem d_Mo_get_32 : decode b_Mo_get 32 = .ok (.iload_n 1, 1) := by decide +kernel
theorem d_Mo_get_33 : decode b_Mo_get 33 = .ok (.aload_n 0, 1) := by decide +kernel
theorem d_Mo_get_34 : decode b_Mo_get 34 = .ok (.getfield 16, 3) := by decide +kernel
theorem d_Mo_get_37 : decode b_Mo_get 37 = .ok (.iload 4, 2) := by decide +kernel
theorem d_Mo_get_39 : decode b_Mo_get 39 = .ok (.baload, 1) := by decide +kernel
theorem d_Mo_get_40 : decode b_Mo_get 40 = .ok (.bastore, 1) := by decide +kernel
theorem d_Mo_get_41 : decode b_Mo_get 41 = .ok (.return_, 1) := by decide +kernel
theorem d_Mo_set_0 : decode b_Mo_set 0 = .ok (.aload_n 0, 1) := by decide +kernel
theorem d_Mo_set_1 : decode b_Mo_set 1 = .ok (.iload_n 3, 1) := by decide +kernel
theorem d_Mo_set_2 : decode b_Mo_set 2 = .ok (.iload_n 1, 1) := by decide +kernel
theorem d_Mo_set_3 : decode b_Mo_set 3 = .ok (.iload_n 2, 1) := by decide +kernel
theorem d_Mo_set_4 : decode b_Mo_set 4 = .ok (.invokevirtual 69, 3) := by decide +kernel
theorem d_Mo_set_7 : decode b_Mo_set 7 = .ok (.istore 4, 2) := by decide +kernel
theorem d_Mo_set_9 : decode b_Mo_set 9 = .ok (.iload 4, 2) := by decide +kernel
theorem d_Mo_set_11 : decode b_Mo_set 11 = .ok (.ifCond .ge 4, 3) := by decide +kernel
theorem d_Mo_set_14 : decode b_Mo_set 14 = .ok (.return_, 1) := by decide +kernel
theorem d_Mo_set_15 : decode b_Mo_set 15 = .ok (.aload_n 0, 1) := by decide +kernel
theorem d_Mo_set_16 : decode b_Mo_set 16 = .ok (.getfield 9, 3) := by decide +kernel
theorem d_Mo_set_19 : decode b_Mo_set 19 = .ok (.iload 4, 2) := by decide +kernel
theorem d_Mo_set_21 : decode b_Mo_set 21 = .ok (.aload_n 0, 1) := by decide +kernel
theorem d_Mo_set_22 : decode b_Mo_set 22 = .ok (.getfield 13, 3) := by decide +kernel
theorem d_Mo_set_25 : decode b_Mo_set 25 = .ok (.iload_n 3, 1) := by decide +kernel
theorem d_Mo_set_26 : decode b_Mo_set 26 = .ok (.laload, 1) := by decide +kernel
theorem d_Mo_set_27 : decode b_Mo_set 27 = .ok (.lastore, 1) := by decide +kernel
theorem d_Mo_set_28 : decode b_Mo_set 28 = .ok (.aload_n 0, 1) := by decide +kernel
theorem d_Mo_set_29 : decode b_Mo_set 29 = .ok (.getfield 16, 3) := by decide +kernel
theorem d_Mo_set_32 : decode b_Mo_set 32 = .ok (.iload 4, 2) := by decide +kernel
theorem d_Mo_set_34 : decode b_Mo_set 34 = .ok (.aload_n 0, 1) := by decide +kernel
theorem d_Mo_set_35 : decode b_Mo_set 35 = .ok (.getfield 20, 3) := by decide +kernel
theorem d_Mo_set_38 : decode b_Mo_set 38 = .ok (.iload_n 3, 1) := by decide +kernel
theorem d_Mo_set_39 : decode b_Mo_set 39 = .ok (.baload, 1) := by decide +kernel
theorem d_Mo_set_40 : decode b_Mo_set 40 = .ok (.bastore, 1) := by decide +kernel
theorem d_Mo_set_41 : decode b_Mo_set 41 = .ok (.return_, 1) := by decide +kernel
theorem d_Mo_step_0 : decode b_Mo_step 0 = .ok (.aload_n 0, 1) := by decide +kernel
theorem d_Mo_step_1 : decode b_Mo_step 1 = .ok (.iload_n 1, 1) := by decide +kernel
theorem d_Mo_step_2 : decode b_Mo_step 2 = .ok (.iconst 1, 1) := by decide +kernel
theorem d_Mo_step_3 : decode b_Mo_step 3 = .ok (.if_icmp .lt 10, 3) := by decide +kernel
theorem d_Mo_step_6 : decode b_Mo_step 6 = .ok (.iload_n 1, 1) := by decide +kernel
theorem d_Mo_step_7 : decode b_Mo_step 7 = .ok (.sipush 1000, 3) := by decide +kernel
theorem d_Mo_step_10 : decode b_Mo_step 10 = .ok (.if_icmp .le 7, 3) := by decide +kernel
theorem d_Mo_step_13 : decode b_Mo_step 13 = .ok (.iconst 1, 1) := by decide +kernel
theorem d_Mo_step_14 : decode b_Mo_step 14 = .ok (.goto 4, 3) := by decide +kernel
theorem d_Mo_step_17 : decode b_Mo_step 17 = .ok (.iconst 0, 1) := by decide +kernel
theorem d_Mo_step_18 : decode b_Mo_step 18 = .ok (.putfield 43, 3) := by decide +kernel
theorem d_Mo_step_21 : decode b_Mo_step 21 = .ok (.return_, 1) := by decide +kernel
theorem d_Mo_pace_0 : decode b_Mo_pace 0 = .ok (.aload_n 0, 1) := by decide +kernel
theorem d_Mo_pace_1 : decode b_Mo_pace 1 = .ok (.iload_n 1, 1) := by decide +kernel
theorem d_Mo_pace_2 : decode b_Mo_pace 2 = .ok (.ifCond .lt 9, 3) := by decide +kernel
theorem d_Mo_pace_5 : decode b_Mo_pace 5 = .ok (.iload_n 1, 1) := by decide +kernel
theorem d_Mo_pace_6 : decode b_Mo_pace 6 = .ok (.bipush 50, 2) := by decide +kernel
theorem d_Mo_pace_8 : decode b_Mo_pace 8 = .ok (.if_icmp .le 7, 3) := by decide +kernel
theorem d_Mo_pace_11 : decode b_Mo_pace 11 = .ok (.iconst 1, 1) := by decide +kernel
theorem d_Mo_pace_12 : decode b_Mo_pace 12 = .ok (.goto 4, 3) := by decide +kernel
theorem d_Mo_pace_15 : decode b_Mo_pace 15 = .ok (.iconst 0, 1) := by decide +kernel
theorem d_Mo_pace_16 : decode b_Mo_pace 16 = .ok (.putfield 43, 3) := by decide +kernel
theorem d_Mo_pace_19 : decode b_Mo_pace 19 = .ok (.aload_n 0, 1) := by decide +kernel
theorem d_Mo_pace_20 : decode b_Mo_pace 20 = .ok (.getfield 43, 3) := by decide +kernel
theorem d_Mo_pace_23 : decode b_Mo_pace 23 = .ok (.ifCond .le 5, 3) := by decide +kernel
theorem d_Mo_pace_26 : decode b_Mo_pace 26 = .ok (.iconst 0, 1) := by decide +kernel
theorem d_Mo_pace_27 : decode b_Mo_pace 27 = .ok (.ireturn, 1) := by decide +kernel
theorem d_Mo_pace_28 : decode b_Mo_pace 28 = .ok (.aload_n 0, 1) := by decide +kernel
theorem d_Mo_pace_29 : decode b_Mo_pace 29 = .ok (.getfield 39, 3) := by decide +kernel
theorem d_Mo_pace_32 : decode b_Mo_pace 32 = .ok (.istore_n 2, 1) := by decide +kernel
theorem d_Mo_pace_33 : decode b_Mo_pace 33 = .ok (.aload_n 0, 1) := by decide +kernel
theorem d_Mo_pace_34 : decode b_Mo_pace 34 = .ok (.iload_n 1, 1) := by decide +kernel
theorem d_Mo_pace_35 : decode b_Mo_pace 35 = .ok (.putfield 39, 3) := by decide +kernel
theorem d_Mo_pace_38 : decode b_Mo_pace 38 = .ok (.iload_n 2, 1) := by decide +kernel
theorem d_Mo_pace_39 : decode b_Mo_pace 39 = .ok (.ireturn, 1) := by decide +kernel
theorem d_Mo_size_0 : decode b_Mo_size 0 = .ok (.aload_n 0, 1) := by decide +kernel
theorem d_Mo_size_1 : decode b_Mo_size 1 = .ok (.iload_n 1, 1) := by decide +kernel
theorem d_Mo_size_2 : decode b_Mo_size 2 = .ok (.invokestatic 59, 3) := by decide +kernel
theorem d_Mo_size_5 : decode b_Mo_size 5 = .ok (.ifCond .eq 7, 3) := by decide +kernel
theorem d_Mo_size_8 : decode b_Mo_size 8 = .ok (.iconst 0, 1) := by decide +kernel
theorem d_Mo_size_9 : decode b_Mo_size 9 = .ok (.goto 4, 3) := by decide +kernel
theorem d_Mo_size_12 : decode b_Mo_size 12 = .ok (.iconst 1, 1) := by decide +kernel
theorem d_Mo_size_13 : decode b_Mo_size 13 = .ok (.putfield 43, 3) := by decide +kernel
theorem d_Mo_size_16 : decode b_Mo_size 16 = .ok (.aload_n 0, 1) := by decide +kernel
theorem d_Mo_size_17 : decode b_Mo_size 17 = .ok (.getfield 43, 3) := by decide +kernel
theorem d_Mo_size_20 : decode b_Mo_size 20 = .ok (.ifCond .le 5, 3) := by decide +kernel
theorem d_Mo_size_23 : decode b_Mo_size 23 = .ok (.iconst 0, 1) := by decide +kernel
theorem d_Mo_size_24 : decode b_Mo_size 24 = .ok (.ireturn, 1) := by decide +kernel
theorem d_Mo_size_25 : decode b_Mo_size 25 = .ok (.aload_n 0, 1) := by decide +kernel
theorem d_Mo_size_26 : decode b_Mo_size 26 = .ok (.getfield 20, 3) := by decide +kernel
theorem d_Mo_size_29 : decode b_Mo_size 29 = .ok (.iload_n 1, 1) := by decide +kernel
theorem d_Mo_size_30 : decode b_Mo_size 30 = .ok (.baload, 1) := by decide +kernel
theorem d_Mo_size_31 : decode b_Mo_size 31 = .ok (.ifCond .eq 18, 3) := by decide +kernel
theorem d_Mo_size_34 : decode b_Mo_size 34 = .ok (.aload_n 0, 1) := by decide +kernel
theorem d_Mo_size_35 : decode b_Mo_size 35 = .ok (.getfield 26, 3) := by decide +kernel
theorem d_Mo_size_38 : decode b_Mo_size 38 = .ok (.aload_n 0, 1) := by decide +kernel
theorem d_Mo_size_39 : decode b_Mo_size 39 = .ok (.getfield 13, 3) := by decide +kernel
theorem d_Mo_size_42 : decode b_Mo_size 42 = .ok (.iload_n 1, 1) := by decide +kernel
theorem d_Mo_size_43 : decode b_Mo_size 43 = .ok (.laload, 1) := by decide +kernel
theorem d_Mo_size_44 : decode b_Mo_size 44 = .ok (.l2i, 1) := by decide +kernel
theorem d_Mo_size_45 : decode b_Mo_size 45 = .ok (.iaload, 1) := by decide +kernel
theorem d_Mo_size_46 : decode b_Mo_size 46 = .ok (.goto 4, 3) := by decide +kernel
theorem d_Mo_size_49 : decode b_Mo_size 49 = .ok (.iconst (-1), 1) := by decide +kernel
theorem d_Mo_size_50 : decode b_Mo_size 50 = .ok (.ireturn, 1) := by decide +kernel
theorem d_Mo_value_0 : decode b_Mo_value 0 = .ok (.aload_n 0, 1) := by decide +kernel
theorem d_Mo_value_1 : decode b_Mo_value 1 = .ok (.iload_n 1, 1) := by decide +kernel
theorem d_Mo_value_2 : decode b_Mo_value 2 = .ok (.invokestatic 59, 3) := by decide +kernel
theorem d_Mo_value_5 : decode b_Mo_value 5 = .ok (.ifCond .eq 7, 3) := by decide +kernel
theorem d_Mo_value_8 : decode b_Mo_value 8 = .ok (.iconst 0, 1) := by decide +kernel
theorem d_Mo_value_9 : decode b_Mo_value 9 = .ok (.goto 4, 3) := by decide +kernel
theorem d_Mo_value_12 : decode b_Mo_value 12 = .ok (.iconst 1, 1) := by decide +kernel
theorem d_Mo_value_13 : decode b_Mo_value 13 = .ok (.putfield 43, 3) := by decide +kernel
theorem d_Mo_value_16 : decode b_Mo_value 16 = .ok (.aload_n 0, 1) := by decide +kernel
theorem d_Mo_value_17 : decode b_Mo_value 17 = .ok (.getfield 43, 3) := by decide +kernel
theorem d_Mo_value_20 : decode b_Mo_value 20 = .ok (.ifCond .gt 12, 3) := by decide +kernel
theorem d_Mo_value_23 : decode b_Mo_value 23 = .ok (.aload_n 0, 1) := by decide +kernel
theorem d_Mo_value_24 : decode b_Mo_value 24 = .ok (.getfield 20, 3) := by decide +kernel
theorem d_Mo_value_27 : decode b_Mo_value 27 = .ok (.iload_n 1, 1) := by decide +kernel
theorem d_Mo_value_28 : decode b_Mo_value 28 = .ok (.baload, 1) := by decide +kernel
theorem d_Mo_value_29 : decode b_Mo_value 29 = .ok (.ifCond .eq 7, 3) := by decide +kernel
theorem d_Mo_value_32 : decode b_Mo_value 32 = .ok (.lconst 0, 1) := by decide +kernel
theorem d_Mo_value_33 : decode b_Mo_value 33 = .ok (.goto 9, 3) := by decide +kernel
theorem d_Mo_value_36 : decode b_Mo_value 36 = .ok (.aload_n 0, 1) := by decide +kernel
theorem d_Mo_value_37 : decode b_Mo_value 37 = .ok (.getfield 13, 3) := by decide +kernel
theorem d_Mo_value_40 : decode b_Mo_value 40 = .ok (.iload_n 1, 1) := by decide +kernel
theorem d_Mo_value_41 : decode b_Mo_value 41 = .ok (.laload, 1) := by decide +kernel
theorem d_Mo_value_42 : decode b_Mo_value 42 = .ok (.lreturn, 1) := by decide +kernel
theorem d_Mo_same_0 : decode b_Mo_same 0 = .ok (.aload_n 0, 1) := by decide +kernel
theorem d_Mo_same_1 : decode b_Mo_same 1 = .ok (.iload_n 1, 1) := by decide +kernel
theorem d_Mo_same_2 : decode b_Mo_same 2 = .ok (.invokestatic 59, 3) := by decide +kernel
theorem d_Mo_same_5 : decode b_Mo_same 5 = .ok (.ifCond .eq 14, 3) := by decide +kernel
theorem d_Mo_same_8 : decode b_Mo_same 8 = .ok (.iload_n 2, 1) := by decide +kernel
theorem d_Mo_same_9 : decode b_Mo_same 9 = .ok (.invokestatic 59, 3) := by decide +kernel
theorem d_Mo_same_12 : decode b_Mo_same 12 = .ok (.ifCond .eq 7, 3) := by decide +kernel
theorem d_Mo_same_15 : decode b_Mo_same 15 = .ok (.iconst 0, 1) := by decide +kernel
theorem d_Mo_same_16 : decode b_Mo_same 16 = .ok (.goto 4, 3) := by decide +kernel
theorem d_Mo_same_19 : decode b_Mo_same 19 = .ok (.iconst 1, 1) := by decide +kernel
theorem d_Mo_same_20 : decode b_Mo_same 20 = .ok (.putfield 43, 3) := by decide +kernel
theorem d_Mo_same_23 : decode b_Mo_same 23 = .ok (.aload_n 0, 1) := by decide +kernel
theorem d_Mo_same_24 : decode b_Mo_same 24 = .ok (.getfield 43, 3) := by decide +kernel
theorem d_Mo_same_27 : decode b_Mo_same 27 = .ok (.ifCond .ne 38, 3) := by decide +kernel
theorem d_Mo_same_30 : decode b_Mo_same 30 = .ok (.aload_n 0, 1) := by decide +kernel
theorem d_Mo_same_31 : decode b_Mo_same 31 = .ok (.getfield 13, 3) := by decide +kernel
theorem d_Mo_same_34 : decode b_Mo_same 34 = .ok (.iload_n 1, 1) := by decide +kernel
theorem d_Mo_same_35 : decode b_Mo_same 35 = .ok (.laload, 1) := by decide +kernel
theorem d_Mo_same_36 : decode b_Mo_same 36 = .ok (.aload_n 0, 1) := by decide +kernel
theorem d_Mo_same_37 : decode b_Mo_same 37 = .ok (.getfield 13, 3) := by decide +kernel
theorem d_Mo_same_40 : decode b_Mo_same 40 = .ok (.iload_n 2, 1) := by decide +kernel
theorem d_Mo_same_41 : decode b_Mo_same 41 = .ok (.laload, 1) := by decide +kernel
theorem d_Mo_same_42 : decode b_Mo_same 42 = .ok (.lcmp, 1) := by decide +kernel
theorem d_Mo_same_43 : decode b_Mo_same 43 = .ok (.ifCond .ne 22, 3) := by decide +kernel
theorem d_Mo_same_46 : decode b_Mo_same 46 = .ok (.aload_n 0, 1) := by decide +kernel
theorem d_Mo_same_47 : decode b_Mo_same 47 = .ok (.getfield 20, 3) := by decide +kernel
theorem d_Mo_same_50 : decode b_Mo_same 50 = .ok (.iload_n 1, 1) := by decide +kernel
theorem d_Mo_same_51 : decode b_Mo_same 51 = .ok (.baload, 1) := by decide +kernel
theorem d_Mo_same_52 : decode b_Mo_same 52 = .ok (.aload_n 0, 1) := by decide +kernel
theorem d_Mo_same_53 : decode b_Mo_same 53 = .ok (.getfield 20, 3) := by decide +kernel
theorem d_Mo_same_56 : decode b_Mo_same 56 = .ok (.iload_n 2, 1) := by decide +kernel
theorem d_Mo_same_57 : decode b_Mo_same 57 = .ok (.baload, 1) := by decide +kernel
theorem d_Mo_same_58 : decode b_Mo_same 58 = .ok (.if_icmp .ne 7, 3) := by decide +kernel
theorem d_Mo_same_61 : decode b_Mo_same 61 = .ok (.iconst 1, 1) := by decide +kernel
theorem d_Mo_same_62 : decode b_Mo_same 62 = .ok (.goto 4, 3) := by decide +kernel
theorem d_Mo_same_65 : decode b_Mo_same 65 = .ok (.iconst 0, 1) := by decide +kernel
theorem d_Mo_same_66 : decode b_Mo_same 66 = .ok (.ireturn, 1) := by decide +kernel
theorem d_Mo_count_0 : decode b_Mo_count 0 = .ok (.aload_n 0, 1) := by decide +kernel
theorem d_Mo_count_1 : decode b_Mo_count 1 = .ok (.iload_n 1, 1) := by decide +kernel
theorem d_Mo_count_2 : decode b_Mo_count 2 = .ok (.ifCond .lt 8, 3) := by decide +kernel
theorem d_Mo_count_5 : decode b_Mo_count 5 = .ok (.iload_n 1, 1) := by decide +kernel
theorem d_Mo_count_6 : decode b_Mo_count 6 = .ok (.iconst 2, 1) := by decide +kernel
theorem d_Mo_count_7 : decode b_Mo_count 7 = .ok (.if_icmp .le 7, 3) := by decide +kernel
theorem d_Mo_count_10 : decode b_Mo_count 10 = .ok (.iconst 1, 1) := by decide +kernel
theorem d_Mo_count_11 : decode b_Mo_count 11 = .ok (.goto 4, 3) := by decide +kernel
theorem d_Mo_count_14 : decode b_Mo_count 14 = .ok (.iconst 0, 1) := by decide +kernel
theorem d_Mo_count_15 : decode b_Mo_count 15 = .ok (.putfield 43, 3) := by decide +kernel
theorem d_Mo_count_18 : decode b_Mo_count 18 = .ok (.aload_n 0, 1) := by decide +kernel
theorem d_Mo_count_19 : decode b_Mo_count 19 = .ok (.getfield 43, 3) := by decide +kernel
theorem d_Mo_count_22 : decode b_Mo_count 22 = .ok (.ifCond .le 5, 3) := by decide +kernel
theorem d_Mo_count_25 : decode b_Mo_count 25 = .ok (.iconst 0, 1) := by decide +kernel
theorem d_Mo_count_26 : decode b_Mo_count 26 = .ok (.ireturn, 1) := by decide +kernel
theorem d_Mo_count_27 : decode b_Mo_count 27 = .ok (.aload_n 0, 1) := by decide +kernel
theorem d_Mo_count_28 : decode b_Mo_count 28 = .ok (.invokevirtual 63, 3) := by decide +kernel
theorem d_Mo_count_31 : decode b_Mo_count 31 = .ok (.iload_n 1, 1) := by decide +kernel
theorem d_Mo_count_32 : decode b_Mo_count 32 = .ok (.ifCond .ne 10, 3) := by decide +kernel
theorem d_Mo_count_35 : decode b_Mo_count 35 = .ok (.aload_n 0, 1) := by decide +kernel
theorem d_Mo_count_36 : decode b_Mo_count 36 = .ok (.getfield 46, 3) := by decide +kernel
theorem d_Mo_count_39 : decode b_Mo_count 39 = .ok (.goto 19, 3) := by decide +kernel
theorem d_Mo_count_42 : decode b_Mo_count 42 = .ok (.iload_n 1, 1) := by decide +kernel
theorem d_Mo_count_43 : decode b_Mo_count 43 = .ok (.iconst 1, 1) := by decide +kernel
theorem d_Mo_count_44 : decode b_Mo_count 44 = .ok (.if_icmp .ne 10, 3) := by decide +kernel
theorem d_Mo_count_47 : decode b_Mo_count 47 = .ok (.aload_n 0, 1) := by decide +kernel
theorem d_Mo_count_48 : decode b_Mo_count 48 = .ok (.getfield 49, 3) := by decide +kernel
theorem d_Mo_count_51 : decode b_Mo_count 51 = .ok (.goto 7, 3) := by decide +kernel
theorem d_Mo_count_54 : decode b_Mo_count 54 = .ok (.aload_n 0, 1) := by decide +kernel
theorem d_Mo_count_55 : decode b_Mo_count 55 = .ok (.getfield 66, 3) := by decide +kernel
theorem d_Mo_count_58 : decode b_Mo_count 58 = .ok (.ireturn, 1) := by decide +kernel
theorem d_Mo_digest_0 : decode b_Mo_digest 0 = .ok (.aload_n 0, 1) := by decide +kernel
theorem d_Mo_digest_1 : decode b_Mo_digest 1 = .ok (.iconst 0, 1) := by decide +kernel
theorem d_Mo_digest_2 : decode b_Mo_digest 2 = .ok (.putfield 43, 3) := by decide +kernel
theorem d_Mo_digest_5 : decode b_Mo_digest 5 = .ok (.iconst 0, 1) := by decide +kernel
theorem d_Mo_digest_6 : decode b_Mo_digest 6 = .ok (.istore_n 1, 1) := by decide +kernel
theorem d_Mo_digest_7 : decode b_Mo_digest 7 = .ok (.iload_n 1, 1) := by decide +kernel
theorem d_Mo_digest_8 : decode b_Mo_digest 8 = .ok (.sipush 640, 3) := by decide +kernel
theorem d_Mo_digest_11 : decode b_Mo_digest 11 = .ok (.if_icmp .ge 16, 3) := by decide +kernel
theorem d_Mo_digest_14 : decode b_Mo_digest 14 = .ok (.aload_n 0, 1) := by decide +kernel
theorem d_Mo_digest_15 : decode b_Mo_digest 15 = .ok (.getfield 33, 3) := by decide +kernel
theorem d_Mo_digest_18 : decode b_Mo_digest 18 = .ok (.iload_n 1, 1) := by decide +kernel
theorem d_Mo_digest_19 : decode b_Mo_digest 19 = .ok (.iconst 0, 1) := by decide +kernel
theorem d_Mo_digest_20 : decode b_Mo_digest 20 = .ok (.iastore, 1) := by decide +kernel
theorem d_Mo_digest_21 : decode b_Mo_digest 21 = .ok (.iinc 1 1, 3) := by decide +kernel
theorem d_Mo_digest_24 : decode b_Mo_digest 24 = .ok (.goto (-17), 3) := by decide +kernel
theorem d_Mo_digest_27 : decode b_Mo_digest 27 = .ok (.ldc2_w 73, 3) := by decide +kernel
theorem d_Mo_digest_30 : decode b_Mo_digest 30 = .ok (.lstore_n 1, 1) := by decide +kernel
theorem d_Mo_digest_31 : decode b_Mo_digest 31 = .ok (.iconst 0, 1) := by decide +kernel
theorem d_Mo_digest_32 : decode b_Mo_digest 32 = .ok (.istore_n 3, 1) := by decide +kernel
theorem d_Mo_digest_33 : decode b_Mo_digest 33 = .ok (.iconst 0, 1) := by decide +kernel
theorem d_Mo_digest_34 : decode b_Mo_digest 34 = .ok (.istore 4, 2) := by decide +kernel
theorem d_Mo_digest_36 : decode b_Mo_digest 36 = .ok (.iconst 0, 1) := by decide +kernel
theorem d_Mo_digest_37 : decode b_Mo_digest 37 = .ok (.istore 5, 2) := by decide +kernel
theorem d_Mo_digest_39 : decode b_Mo_digest 39 = .ok (.iload 5, 2) := by decide +kernel
theorem d_Mo_digest_41 : decode b_Mo_digest 41 = .ok (.bipush 16, 2) := by decide +kernel
theorem d_Mo_digest_43 : decode b_Mo_digest 43 = .ok (.if_icmp .ge 238, 3) := by decide +kernel
theorem d_Mo_digest_46 : decode b_Mo_digest 46 = .ok (.aload_n 0, 1) := by decide +kernel
theorem d_Mo_digest_47 : decode b_Mo_digest 47 = .ok (.getfield 13, 3) := by decide +kernel
theorem d_Mo_digest_50 : decode b_Mo_digest 50 = .ok (.iload 5, 2) := by decide +kernel
theorem d_Mo_digest_52 : decode b_Mo_digest 52 = .ok (.laload, 1) := by decide +kernel
theorem d_Mo_digest_53 : decode b_Mo_digest 53 = .ok (.lstore 6, 2) := by decide +kernel
theorem d_Mo_digest_55 : decode b_Mo_digest 55 = .ok (.aload_n 0, 1) := by decide +kernel
theorem d_Mo_digest_56 : decode b_Mo_digest 56 = .ok (.getfield 20, 3) := by decide +kernel
theorem d_Mo_digest_59 : decode b_Mo_digest 59 = .ok (.iload 5, 2) := by decide +kernel
theorem d_Mo_digest_61 : decode b_Mo_digest 61 = .ok (.baload, 1) := by decide +kernel
theorem d_Mo_digest_62 : decode b_Mo_digest 62 = .ok (.istore 8, 2) := by decide +kernel
theorem d_Mo_digest_64 : decode b_Mo_digest 64 = .ok (.iload 8, 2) := by decide +kernel
theorem d_Mo_digest_66 : decode b_Mo_digest 66 = .ok (.ifCond .ne 15, 3) := by decide +kernel
theorem d_Mo_digest_69 : decode b_Mo_digest 69 = .ok (.ldc2_w 75, 3) := by decide +kernel
theorem d_Mo_digest_72 : decode b_Mo_digest 72 = .ok (.lload_n 1, 1) := by decide +kernel
theorem d_Mo_digest_73 : decode b_Mo_digest 73 = .ok (.lmul, 1) := by decide +kernel
theorem d_Mo_digest_74 : decode b_Mo_digest 74 = .ok (.lload 6, 2) := by decide +kernel
theorem d_Mo_digest_76 : decode b_Mo_digest 76 = .ok (.ladd, 1) := by decide +kernel
theorem d_Mo_digest_77 : decode b_Mo_digest 77 = .ok (.lstore_n 1, 1) := by decide +kernel
theorem d_Mo_digest_78 : decode b_Mo_digest 78 = .ok (.goto 94, 3) := by decide +kernel
theorem d_Mo_digest_81 : decode b_Mo_digest 81 = .ok (.aload_n 0, 1) := by decide +kernel
theorem d_Mo_digest_82 : decode b_Mo_digest 82 = .ok (.getfield 33, 3) := by decide +kernel
theorem d_Mo_digest_85 : decode b_Mo_digest 85 = .ok (.lload 6, 2) := by decide +kernel
theorem d_Mo_digest_87 : decode b_Mo_digest 87 = .ok (.l2i, 1) := by decide +kernel
theorem d_Mo_digest_88 : decode b_Mo_digest 88 = .ok (.iaload, 1) := by decide +kernel
theorem d_Mo_digest_89 : decode b_Mo_digest 89 = .ok (.ifCond .le 26, 3) := by decide +kernel
theorem d_Mo_digest_92 : decode b_Mo_digest 92 = .ok (.ldc2_w 75, 3) := by decide +kernel
theorem d_Mo_digest_95 : decode b_Mo_digest 95 = .ok (.lload_n 1, 1) := by decide +kernel
theorem d_Mo_digest_96 : decode b_Mo_digest 96 = .ok (.lmul, 1) := by decide +kernel
theorem d_Mo_digest_97 : decode b_Mo_digest 97 = .ok (.ldc2_w 77, 3) := by decide +kernel
theorem d_Mo_digest_100 : decode b_Mo_digest 100 = .ok (.ladd, 1) := by decide +kernel
theorem d_Mo_digest_101 : decode b_Mo_digest 101 = .ok (.aload_n 0, 1) := by decide +kernel
theorem d_Mo_digest_102 : decode b_Mo_digest 102 = .ok (.getfield 33, 3) := by decide +kernel
theorem d_Mo_digest_105 : decode b_Mo_digest 105 = .ok (.lload 6, 2) := by decide +kernel
theorem d_Mo_digest_107 : decode b_Mo_digest 107 = .ok (.l2i, 1) := by decide +kernel
theorem d_Mo_digest_108 : decode b_Mo_digest 108 = .ok (.iaload, 1) := by decide +kernel
theorem d_Mo_digest_109 : decode b_Mo_digest 109 = .ok (.i2l, 1) := by decide +kernel
theorem d_Mo_digest_110 : decode b_Mo_digest 110 = .ok (.ladd, 1) := by decide +kernel
theorem d_Mo_digest_111 : decode b_Mo_digest 111 = .ok (.lstore_n 1, 1) := by decide +kernel
theorem d_Mo_digest_112 : decode b_Mo_digest 112 = .ok (.goto 60, 3) := by decide +kernel
theorem d_Mo_digest_115 : decode b_Mo_digest 115 = .ok (.iinc 3 1, 3) := by decide +kernel
theorem d_Mo_digest_118 : decode b_Mo_digest 118 = .ok (.aload_n 0, 1) := by decide +kernel
theorem d_Mo_digest_119 : decode b_Mo_digest 119 = .ok (.getfield 33, 3) := by decide +kernel
theorem d_Mo_digest_122 : decode b_Mo_digest 122 = .ok (.lload 6, 2) := by decide +kernel
theorem d_Mo_digest_124 : decode b_Mo_digest 124 = .ok (.l2i, 1) := by decide +kernel
theorem d_Mo_digest_125 : decode b_Mo_digest 125 = .ok (.iload_n 3, 1) := by decide +kernel
theorem d_Mo_digest_126 : decode b_Mo_digest 126 = .ok (.iastore, 1) := by decide +kernel
theorem d_Mo_digest_127 : decode b_Mo_digest 127 = .ok (.ldc2_w 75, 3) := by decide +kernel
theorem d_Mo_digest_130 : decode b_Mo_digest 130 = .ok (.ldc2_w 75, 3) := by decide +kernel
theorem d_Mo_digest_133 : decode b_Mo_digest 133 = .ok (.lload_n 1, 1) := by decide +kernel
theorem d_Mo_digest_134 : decode b_Mo_digest 134 = .ok (.lmul, 1) := by decide +kernel
theorem d_Mo_digest_135 : decode b_Mo_digest 135 = .ok (.ldc2_w 79, 3) := by decide +kernel
theorem d_Mo_digest_138 : decode b_Mo_digest 138 = .ok (.ladd, 1) := by decide +kernel
theorem d_Mo_digest_139 : decode b_Mo_digest 139 = .ok (.lmul, 1) := by decide +kernel
theorem d_Mo_digest_140 : decode b_Mo_digest 140 = .ok (.aload_n 0, 1) := by decide +kernel
theorem d_Mo_digest_141 : decode b_Mo_digest 141 = .ok (.getfield 26, 3) := by decide +kernel
theorem d_Mo_digest_144 : decode b_Mo_digest 144 = .ok (.lload 6, 2) := by decide +kernel
theorem d_Mo_digest_146 : decode b_Mo_digest 146 = .ok (.l2i, 1) := by decide +kernel
theorem d_Mo_digest_147 : decode b_Mo_digest 147 = .ok (.iaload, 1) := by decide +kernel
theorem d_Mo_digest_148 : decode b_Mo_digest 148 = .ok (.i2l, 1) := by decide +kernel
theorem d_Mo_digest_149 : decode b_Mo_digest 149 = .ok (.ladd, 1) := by decide +kernel
theorem d_Mo_digest_150 : decode b_Mo_digest 150 = .ok (.lstore_n 1, 1) := by decide +kernel
theorem d_Mo_digest_151 : decode b_Mo_digest 151 = .ok (.aload_n 0, 1) := by decide +kernel
theorem d_Mo_digest_152 : decode b_Mo_digest 152 = .ok (.getfield 30, 3) := by decide +kernel
theorem d_Mo_digest_155 : decode b_Mo_digest 155 = .ok (.iload 4, 2) := by decide +kernel
theorem d_Mo_digest_157 : decode b_Mo_digest 157 = .ok (.lload 6, 2) := by decide +kernel
theorem d_Mo_digest_159 : decode b_Mo_digest 159 = .ok (.l2i, 1) := by decide +kernel
theorem d_Mo_digest_160 : decode b_Mo_digest 160 = .ok (.iastore, 1) := by decide +kernel
theorem d_Mo_digest_161 : decode b_Mo_digest 161 = .ok (.aload_n 0, 1) := by decide +kernel
theorem d_Mo_digest_162 : decode b_Mo_digest 162 = .ok (.getfield 36, 3) := by decide +kernel
theorem d_Mo_digest_165 : decode b_Mo_digest 165 = .ok (.iload 4, 2) := by decide +kernel
theorem d_Mo_digest_167 : decode b_Mo_digest 167 = .ok (.iconst 0, 1) := by decide +kernel
theorem d_Mo_digest_168 : decode b_Mo_digest 168 = .ok (.iastore, 1) := by decide +kernel
theorem d_Mo_digest_169 : decode b_Mo_digest 169 = .ok (.iinc 4 1, 3) := by decide +kernel
theorem d_Mo_digest_172 : decode b_Mo_digest 172 = .ok (.iload 4, 2) := by decide +kernel
theorem d_Mo_digest_174 : decode b_Mo_digest 174 = .ok (.ifCond .le 35, 3) := by decide +kernel
theorem d_Mo_digest_177 : decode b_Mo_digest 177 = .ok (.aload_n 0, 1) := by decide +kernel
theorem d_Mo_digest_178 : decode b_Mo_digest 178 = .ok (.getfield 36, 3) := by decide +kernel
theorem d_Mo_digest_181 : decode b_Mo_digest 181 = .ok (.iload 4, 2) := by decide +kernel
theorem d_Mo_digest_183 : decode b_Mo_digest 183 = .ok (.iconst 1, 1) := by decide +kernel
theorem d_Mo_digest_184 : decode b_Mo_digest 184 = .ok (.isub, 1) := by decide +kernel
theorem d_Mo_digest_185 : decode b_Mo_digest 185 = .ok (.iaload, 1) := by decide +kernel
theorem d_Mo_digest_186 : decode b_Mo_digest 186 = .ok (.aload_n 0, 1) := by decide +kernel
theorem d_Mo_digest_187 : decode b_Mo_digest 187 = .ok (.getfield 26, 3) := by decide +kernel
theorem d_Mo_digest_190 : decode b_Mo_digest 190 = .ok (.aload_n 0, 1) := by decide +kernel
theorem d_Mo_digest_191 : decode b_Mo_digest 191 = .ok (.getfield 30, 3) := by decide +kernel
theorem d_Mo_digest_194 : decode b_Mo_digest 194 = .ok (.iload 4, 2) := by decide +kernel
theorem d_Mo_digest_196 : decode b_Mo_digest 196 = .ok (.iconst 1, 1) := by decide +kernel
theorem d_Mo_digest_197 : decode b_Mo_digest 197 = .ok (.isub, 1) := by decide +kernel
theorem d_Mo_digest_198 : decode b_Mo_digest 198 = .ok (.iaload, 1) := by decide +kernel
theorem d_Mo_digest_199 : decode b_Mo_digest 199 = .ok (.iaload, 1) := by decide +kernel
theorem d_Mo_digest_200 : decode b_Mo_digest 200 = .ok (.if_icmp .ne 9, 3) := by decide +kernel
theorem d_Mo_digest_203 : decode b_Mo_digest 203 = .ok (.iinc 4 (-1), 3) := by decide +kernel
theorem d_Mo_digest_206 : decode b_Mo_digest 206 = .ok (.goto (-34), 3) := by decide +kernel
theorem d_Mo_digest_209 : decode b_Mo_digest 209 = .ok (.iload 4, 2) := by decide +kernel
theorem d_Mo_digest_211 : decode b_Mo_digest 211 = .ok (.ifCond .ne 6, 3) := by decide +kernel
theorem d_Mo_digest_214 : decode b_Mo_digest 214 = .ok (.goto 61, 3) := by decide +kernel
theorem d_Mo_digest_217 : decode b_Mo_digest 217 = .ok (.bipush 16, 2) := by decide +kernel
theorem d_Mo_digest_219 : decode b_Mo_digest 219 = .ok (.aload_n 0, 1) := by decide +kernel
theorem d_Mo_digest_220 : decode b_Mo_digest 220 = .ok (.getfield 30, 3) := by decide +kernel
theorem d_Mo_digest_223 : decode b_Mo_digest 223 = .ok (.iload 4, 2) := by decide +kernel
theorem d_Mo_digest_225 : decode b_Mo_digest 225 = .ok (.iconst 1, 1) := by decide +kernel
theorem d_Mo_digest_226 : decode b_Mo_digest 226 = .ok (.isub, 1) := by decide +kernel
theorem d_Mo_digest_227 : decode b_Mo_digest 227 = .ok (.iaload, 1) := by decide +kernel
theorem d_Mo_digest_228 : decode b_Mo_digest 228 = .ok (.imul, 1) := by decide +kernel
theorem d_Mo_digest_229 : decode b_Mo_digest 229 = .ok (.aload_n 0, 1) := by decide +kernel
theorem d_Mo_digest_230 : decode b_Mo_digest 230 = .ok (.getfield 36, 3) := by decide +kernel
theorem d_Mo_digest_233 : decode b_Mo_digest 233 = .ok (.iload 4, 2) := by decide +kernel
theorem d_Mo_digest_235 : decode b_Mo_digest 235 = .ok (.iconst 1, 1) := by decide +kernel
theorem d_Mo_digest_236 : decode b_Mo_digest 236 = .ok (.isub, 1) := by decide +kernel
theorem d_Mo_digest_237 : decode b_Mo_digest 237 = .ok (.iaload, 1) := by decide +kernel
theorem d_Mo_digest_238 : decode b_Mo_digest 238 = .ok (.iadd, 1) := by decide +kernel
theorem d_Mo_digest_239 : decode b_Mo_digest 239 = .ok (.istore 9, 2) := by decide +kernel
theorem d_Mo_digest_241 : decode b_Mo_digest 241 = .ok (.aload_n 0, 1) := by decide +kernel
theorem d_Mo_digest_242 : decode b_Mo_digest 242 = .ok (.getfield 36, 3) := by decide +kernel
theorem d_Mo_digest_245 : decode b_Mo_digest 245 = .ok (.iload 4, 2) := by decide +kernel
theorem d_Mo_digest_247 : decode b_Mo_digest 247 = .ok (.iconst 1, 1) := by decide +kernel
theorem d_Mo_digest_248 : decode b_Mo_digest 248 = .ok (.isub, 1) := by decide +kernel
theorem d_Mo_digest_249 : decode b_Mo_digest 249 = .ok (.dup2, 1) := by decide +kernel
theorem d_Mo_digest_250 : decode b_Mo_digest 250 = .ok (.iaload, 1) := by decide +kernel
theorem d_Mo_digest_251 : decode b_Mo_digest 251 = .ok (.iconst 1, 1) := by decide +kernel
theorem d_Mo_digest_252 : decode b_Mo_digest 252 = .ok (.iadd, 1) := by decide +kernel
theorem d_Mo_digest_253 : decode b_Mo_digest 253 = .ok (.iastore, 1) := by decide +kernel
theorem d_Mo_digest_254 : decode b_Mo_digest 254 = .ok (.aload_n 0, 1) := by decide +kernel
theorem d_Mo_digest_255 : decode b_Mo_digest 255 = .ok (.getfield 9, 3) := by decide +kernel
theorem d_Mo_digest_258 : decode b_Mo_digest 258 = .ok (.iload 9, 2) := by decide +kernel
theorem d_Mo_digest_260 : decode b_Mo_digest 260 = .ok (.laload, 1) := by decide +kernel
theorem d_Mo_digest_261 : decode b_Mo_digest 261 = .ok (.lstore 6, 2) := by decide +kernel
theorem d_Mo_digest_263 : decode b_Mo_digest 263 = .ok (.aload_n 0, 1) := by decide +kernel
theorem d_Mo_digest_264 : decode b_Mo_digest 264 = .ok (.getfield 16, 3) := by decide +kernel
theorem d_Mo_digest_267 : decode b_Mo_digest 267 = .ok (.iload 9, 2) := by decide +kernel
theorem d_Mo_digest_269 : decode b_Mo_digest 269 = .ok (.baload, 1) := by decide +kernel
theorem d_Mo_digest_270 : decode b_Mo_digest 270 = .ok (.istore 8, 2) := by decide +kernel
theorem d_Mo_digest_272 : decode b_Mo_digest 272 = .ok (.goto (-208), 3) := by decide +kernel
theorem d_Mo_digest_275 : decode b_Mo_digest 275 = .ok (.iinc 5 1, 3) := by decide +kernel
theorem d_Mo_digest_278 : decode b_Mo_digest 278 = .ok (.goto (-239), 3) := by decide +kernel
theorem d_Mo_digest_281 : decode b_Mo_digest 281 = .ok (.lload_n 1, 1) := by decide +kernel
theorem d_Mo_digest_282 : decode b_Mo_digest 282 = .ok (.lreturn, 1) := by decide +kernel
theorem d_Mo_collect_0 : decode b_Mo_collect 0 = .ok (.aload_n 0, 1) := by decide +kernel
theorem d_Mo_collect_1 : decode b_Mo_collect 1 = .ok (.iconst 0, 1) := by decide +kernel
theorem d_Mo_collect_2 : decode b_Mo_collect 2 = .ok (.putfield 43, 3) := by decide +kernel
theorem d_Mo_collect_5 : decode b_Mo_collect 5 = .ok (.aload_n 0, 1) := by decide +kernel
theorem d_Mo_collect_6 : decode b_Mo_collect 6 = .ok (.invokevirtual 63, 3) := by decide +kernel
theorem d_Mo_collect_9 : decode b_Mo_collect 9 = .ok (.aload_n 0, 1) := by decide +kernel
theorem d_Mo_collect_10 : decode b_Mo_collect 10 = .ok (.getfield 46, 3) := by decide +kernel
theorem d_Mo_collect_13 : decode b_Mo_collect 13 = .ok (.ireturn, 1) := by decide +kernel
theorem d_Mo_check_0 : decode b_Mo_check 0 = .ok (.aload_n 0, 1) := by decide +kernel
theorem d_Mo_check_1 : decode b_Mo_check 1 = .ok (.iconst 0, 1) := by decide +kernel
theorem d_Mo_check_2 : decode b_Mo_check 2 = .ok (.putfield 43, 3) := by decide +kernel
theorem d_Mo_check_5 : decode b_Mo_check 5 = .ok (.iconst 0, 1) := by decide +kernel
theorem d_Mo_check_6 : decode b_Mo_check 6 = .ok (.ireturn, 1) := by decide +kernel
theorem d_Au_init_0 : decode b_Au_init 0 = .ok (.aload_n 0, 1) := by decide +kernel
theorem d_Au_init_1 : decode b_Au_init 1 = .ok (.invokespecial 3, 3) := by decide +kernel
theorem d_Au_init_4 : decode b_Au_init 4 = .ok (.aload_n 0, 1) := by decide +kernel
theorem d_Au_init_5 : decode b_Au_init 5 = .ok (.aload_n 1, 1) := by decide +kernel
theorem d_Au_init_6 : decode b_Au_init 6 = .ok (.putfield 9, 3) := by decide +kernel
theorem d_Au_init_9 : decode b_Au_init 9 = .ok (.aload_n 0, 1) := by decide +kernel
theorem d_Au_init_10 : decode b_Au_init 10 = .ok (.aload_n 2, 1) := by decide +kernel
theorem d_Au_init_11 : decode b_Au_init 11 = .ok (.putfield 15, 3) := by decide +kernel
theorem d_Au_init_14 : decode b_Au_init 14 = .ok (.aload_n 0, 1) := by decide +kernel
theorem d_Au_init_15 : decode b_Au_init 15 = .ok (.aload_n 3, 1) := by decide +kernel
theorem d_Au_init_16 : decode b_Au_init 16 = .ok (.putfield 19, 3) := by decide +kernel
theorem d_Au_init_19 : decode b_Au_init 19 = .ok (.aload_n 0, 1) := by decide +kernel
theorem d_Au_init_20 : decode b_Au_init 20 = .ok (.new 23, 3) := by decide +kernel
theorem d_Au_init_23 : decode b_Au_init 23 = .ok (.dup, 1) := by decide +kernel
theorem d_Au_init_24 : decode b_Au_init 24 = .ok (.aload_n 1, 1) := by decide +kernel
theorem d_Au_init_25 : decode b_Au_init 25 = .ok (.invokespecial 25, 3) := by decide +kernel
theorem d_Au_init_28 : decode b_Au_init 28 = .ok (.putfield 28, 3) := by decide +kernel
theorem d_Au_init_31 : decode b_Au_init 31 = .ok (.aload_n 0, 1) := by decide +kernel
theorem d_Au_init_32 : decode b_Au_init 32 = .ok (.sipush 601, 3) := by decide +kernel
theorem d_Au_init_35 : decode b_Au_init 35 = .ok (.newarray .int, 2) := by decide +kernel
theorem d_Au_init_37 : decode b_Au_init 37 = .ok (.putfield 32, 3) := by decide +kernel
theorem d_Au_init_40 : decode b_Au_init 40 = .ok (.return_, 1) := by decide +kernel
theorem d_Au_faults_0 : decode b_Au_faults 0 = .ok (.aload_n 0, 1) := by decide +kernel
theorem d_Au_faults_1 : decode b_Au_faults 1 = .ok (.getfield 19, 3) := by decide +kernel
theorem d_Au_faults_4 : decode b_Au_faults 4 = .ok (.invokevirtual 36, 3) := by decide +kernel
theorem d_Au_faults_7 : decode b_Au_faults 7 = .ok (.aload_n 0, 1) := by decide +kernel
theorem d_Au_faults_8 : decode b_Au_faults 8 = .ok (.getfield 9, 3) := by decide +kernel
theorem d_Au_faults_11 : decode b_Au_faults 11 = .ok (.aload_n 0, 1) := by decide +kernel
theorem d_Au_faults_12 : decode b_Au_faults 12 = .ok (.getfield 32, 3) := by decide +kernel
theorem d_Au_faults_15 : decode b_Au_faults 15 = .ok (.invokevirtual 41, 3) := by decide +kernel
theorem d_Au_faults_18 : decode b_Au_faults 18 = .ok (.aload_n 0, 1) := by decide +kernel
theorem d_Au_faults_19 : decode b_Au_faults 19 = .ok (.invokevirtual 47, 3) := by decide +kernel
theorem d_Au_faults_22 : decode b_Au_faults 22 = .ok (.iconst 0, 1) := by decide +kernel
theorem d_Au_faults_23 : decode b_Au_faults 23 = .ok (.istore_n 1, 1) := by decide +kernel
theorem d_Au_faults_24 : decode b_Au_faults 24 = .ok (.aload_n 0, 1) := by decide +kernel
theorem d_Au_faults_25 : decode b_Au_faults 25 = .ok (.getfield 9, 3) := by decide +kernel
theorem d_Au_faults_28 : decode b_Au_faults 28 = .ok (.invokevirtual 50, 3) := by decide +kernel
theorem d_Au_faults_31 : decode b_Au_faults 31 = .ok (.istore_n 2, 1) := by decide +kernel
theorem d_Au_faults_32 : decode b_Au_faults 32 = .ok (.iconst 1, 1) := by decide +kernel
theorem d_Au_faults_33 : decode b_Au_faults 33 = .ok (.istore_n 3, 1) := by decide +kernel
theorem d_Au_faults_34 : decode b_Au_faults 34 = .ok (.iload_n 3, 1) := by decide +kernel
theorem d_Au_faults_35 : decode b_Au_faults 35 = .ok (.iload_n 2, 1) := by decide +kernel
theorem d_Au_faults_36 : decode b_Au_faults 36 = .ok (.if_icmp .gt 82, 3) := by decide +kernel
theorem d_Au_faults_39 : decode b_Au_faults 39 = .ok (.iload_n 3, 1) := by decide +kernel
theorem d_Au_faults_40 : decode b_Au_faults 40 = .ok (.aload_n 0, 1) := by decide +kernel
theorem d_Au_faults_41 : decode b_Au_faults 41 = .ok (.getfield 32, 3) := by decide +kernel
theorem d_Au_faults_44 : decode b_Au_faults 44 = .ok (.arraylength, 1) := by decide +kernel
theorem d_Au_faults_45 : decode b_Au_faults 45 = .ok (.if_icmp .ge 73, 3) := by decide +kernel
theorem d_Au_faults_48 : decode b_Au_faults 48 = .ok (.iload_n 1, 1) := by decide +kernel
theorem d_Au_faults_49 : decode b_Au_faults 49 = .ok (.aload_n 0, 1) := by decide +kernel
theorem d_Au_faults_50 : decode b_Au_faults 50 = .ok (.getfield 19, 3) := by decide +kernel
theorem d_Au_faults_53 : decode b_Au_faults 53 = .ok (.iload_n 3, 1) := by decide +kernel
theorem d_Au_faults_54 : decode b_Au_faults 54 = .ok (.invokevirtual 54, 3) := by decide +kernel
theorem d_Au_faults_57 : decode b_Au_faults 57 = .ok (.ifCond .eq 18, 3) := by decide +kernel
theorem d_Au_faults_60 : decode b_Au_faults 60 = .ok (.aload_n 0, 1) := by decide +kernel
theorem d_Au_faults_61 : decode b_Au_faults 61 = .ok (.getfield 9, 3) := by decide +kernel
theorem d_Au_faults_64 : decode b_Au_faults 64 = .ok (.iload_n 3, 1) := by decide +kernel
theorem d_Au_faults_65 : decode b_Au_faults 65 = .ok (.invokevirtual 58, 3) := by decide +kernel
theorem d_Au_faults_68 : decode b_Au_faults 68 = .ok (.ifCond .eq 7, 3) := by decide +kernel
theorem d_Au_faults_71 : decode b_Au_faults 71 = .ok (.iconst 1, 1) := by decide +kernel
theorem d_Au_faults_72 : decode b_Au_faults 72 = .ok (.goto 4, 3) := by decide +kernel
theorem d_Au_faults_75 : decode b_Au_faults 75 = .ok (.iconst 0, 1) := by decide +kernel
theorem d_Au_faults_76 : decode b_Au_faults 76 = .ok (.iadd, 1) := by decide +kernel
theorem d_Au_faults_77 : decode b_Au_faults 77 = .ok (.istore_n 1, 1) := by decide +kernel
theorem d_Au_faults_78 : decode b_Au_faults 78 = .ok (.iload_n 1, 1) := by decide +kernel
theorem d_Au_faults_79 : decode b_Au_faults 79 = .ok (.aload_n 0, 1) := by decide +kernel
theorem d_Au_faults_80 : decode b_Au_faults 80 = .ok (.getfield 32, 3) := by decide +kernel
theorem d_Au_faults_83 : decode b_Au_faults 83 = .ok (.iload_n 3, 1) := by decide +kernel
theorem d_Au_faults_84 : decode b_Au_faults 84 = .ok (.iaload, 1) := by decide +kernel
theorem d_Au_faults_85 : decode b_Au_faults 85 = .ok (.iconst 1, 1) := by decide +kernel
theorem d_Au_faults_86 : decode b_Au_faults 86 = .ok (.if_icmp .ne 7, 3) := by decide +kernel
theorem d_Au_faults_89 : decode b_Au_faults 89 = .ok (.iconst 0, 1) := by decide +kernel
theorem d_Au_faults_90 : decode b_Au_faults 90 = .ok (.goto 4, 3) := by decide +kernel
theorem d_Au_faults_93 : decode b_Au_faults 93 = .ok (.iconst 1, 1) := by decide +kernel
theorem d_Au_faults_94 : decode b_Au_faults 94 = .ok (.iadd, 1) := by decide +kernel
theorem d_Au_faults_95 : decode b_Au_faults 95 = .ok (.istore_n 1, 1) := by decide +kernel
theorem d_Au_faults_96 : decode b_Au_faults 96 = .ok (.iload_n 1, 1) := by decide +kernel
theorem d_Au_faults_97 : decode b_Au_faults 97 = .ok (.aload_n 0, 1) := by decide +kernel
theorem d_Au_faults_98 : decode b_Au_faults 98 = .ok (.iload_n 3, 1) := by decide +kernel
theorem d_Au_faults_99 : decode b_Au_faults 99 = .ok (.invokevirtual 61, 3) := by decide +kernel
theorem d_Au_faults_102 : decode b_Au_faults 102 = .ok (.ifCond .eq 7, 3) := by decide +kernel
theorem d_Au_faults_105 : decode b_Au_faults 105 = .ok (.iconst 1, 1) := by decide +kernel
theorem d_Au_faults_106 : decode b_Au_faults 106 = .ok (.goto 4, 3) := by decide +kernel
theorem d_Au_faults_109 : decode b_Au_faults 109 = .ok (.iconst 0, 1) := by decide +kernel
theorem d_Au_faults_110 : decode b_Au_faults 110 = .ok (.iadd, 1) := by decide +kernel
theorem d_Au_faults_111 : decode b_Au_faults 111 = .ok (.istore_n 1, 1) := by decide +kernel
theorem d_Au_faults_112 : decode b_Au_faults 112 = .ok (.iinc 3 1, 3) := by decide +kernel
theorem d_Au_faults_115 : decode b_Au_faults 115 = .ok (.goto (-81), 3) := by decide +kernel
theorem d_Au_faults_118 : decode b_Au_faults 118 = .ok (.iload_n 1, 1) := by decide +kernel
theorem d_Au_faults_119 : decode b_Au_faults 119 = .ok (.ireturn, 1) := by decide +kernel
theorem d_Au_markToTheEnd_0 : decode b_Au_markToTheEnd 0 = .ok (.aload_n 0, 1) := by decide +kernel
theorem d_Au_markToTheEnd_1 : decode b_Au_markToTheEnd 1 = .ok (.getfield 28, 3) := by decide +kernel
theorem d_Au_markToTheEnd_4 : decode b_Au_markToTheEnd 4 = .ok (.aload_n 0, 1) := by decide +kernel
theorem d_Au_markToTheEnd_5 : decode b_Au_markToTheEnd 5 = .ok (.getfield 15, 3) := by decide +kernel
theorem d_Au_markToTheEnd_8 : decode b_Au_markToTheEnd 8 = .ok (.invokevirtual 64, 3) := by decide +kernel
theorem d_Au_markToTheEnd_11 : decode b_Au_markToTheEnd 11 = .ok (.invokevirtual 70, 3) := by decide +kernel
theorem d_Au_markToTheEnd_14 : decode b_Au_markToTheEnd 14 = .ok (.aload_n 0, 1) := by decide +kernel
theorem d_Au_markToTheEnd_15 : decode b_Au_markToTheEnd 15 = .ok (.getfield 15, 3) := by decide +kernel
theorem d_Au_markToTheEnd_18 : decode b_Au_markToTheEnd 18 = .ok (.invokevirtual 74, 3) := by decide +kernel
theorem d_Au_markToTheEnd_21 : decode b_Au_markToTheEnd 21 = .ok (.getstatic 78, 3) := by decide +kernel
theorem d_Au_markToTheEnd_24 : decode b_Au_markToTheEnd 24 = .ok (.if_acmp .ne 7, 3) := by decide +kernel
theorem d_Au_markToTheEnd_27 : decode b_Au_markToTheEnd 27 = .ok (.iconst 1, 1) := by decide +kernel
theorem d_Au_markToTheEnd_28 : decode b_Au_markToTheEnd 28 = .ok (.goto 4, 3) := by decide +kernel
theorem d_Au_markToTheEnd_31 : decode b_Au_markToTheEnd 31 = .ok (.iconst 0, 1) := by decide +kernel
theorem d_Au_markToTheEnd_32 : decode b_Au_markToTheEnd 32 = .ok (.istore_n 1, 1) := by decide +kernel
theorem d_Au_markToTheEnd_33 : decode b_Au_markToTheEnd 33 = .ok (.iconst 0, 1) := by decide +kernel
theorem d_Au_markToTheEnd_34 : decode b_Au_markToTheEnd 34 = .ok (.istore_n 2, 1) := by decide +kernel
theorem d_Au_markToTheEnd_35 : decode b_Au_markToTheEnd 35 = .ok (.iload_n 1, 1) := by decide +kernel
theorem d_Au_markToTheEnd_36 : decode b_Au_markToTheEnd 36 = .ok (.ifCond .eq 33, 3) := by decide +kernel
theorem d_Au_markToTheEnd_39 : decode b_Au_markToTheEnd 39 = .ok (.iload_n 2, 1) := by decide +kernel
theorem d_Au_markToTheEnd_40 : decode b_Au_markToTheEnd 40 = .ok (.sipush 600, 3) := by decide +kernel
theorem d_Au_markToTheEnd_43 : decode b_Au_markToTheEnd 43 = .ok (.if_icmp .ge 26, 3) := by decide +kernel
theorem d_Au_markToTheEnd_46 : decode b_Au_markToTheEnd 46 = .ok (.aload_n 0, 1) := by decide +kernel
theorem d_Au_markToTheEnd_47 : decode b_Au_markToTheEnd 47 = .ok (.getfield 28, 3) := by decide +kernel
theorem d_Au_markToTheEnd_50 : decode b_Au_markToTheEnd 50 = .ok (.invokevirtual 84, 3) := by decide +kernel
theorem d_Au_markToTheEnd_53 : decode b_Au_markToTheEnd 53 = .ok (.ifCond .ne 16, 3) := by decide +kernel
theorem d_Au_markToTheEnd_56 : decode b_Au_markToTheEnd 56 = .ok (.aload_n 0, 1) := by decide +kernel
theorem d_Au_markToTheEnd_57 : decode b_Au_markToTheEnd 57 = .ok (.getfield 28, 3) := by decide +kernel
theorem d_Au_markToTheEnd_60 : decode b_Au_markToTheEnd 60 = .ok (.invokevirtual 88, 3) := by decide +kernel
theorem d_Au_markToTheEnd_63 : decode b_Au_markToTheEnd 63 = .ok (.iinc 2 1, 3) := by decide +kernel
theorem d_Au_markToTheEnd_66 : decode b_Au_markToTheEnd 66 = .ok (.goto (-31), 3) := by decide +kernel
theorem d_Au_markToTheEnd_69 : decode b_Au_markToTheEnd 69 = .ok (.return_, 1) := by decide +kernel
theorem d_Au_isMarkWrong_0 : decode b_Au_isMarkWrong 0 = .ok (.aload_n 0, 1) := by decide +kernel
theorem d_Au_isMarkWrong_1 : decode b_Au_isMarkWrong 1 = .ok (.getfield 9, 3) := by decide +kernel
theorem d_Au_isMarkWrong_4 : decode b_Au_isMarkWrong 4 = .ok (.iload_n 1, 1) := by decide +kernel
theorem d_Au_isMarkWrong_5 : decode b_Au_isMarkWrong 5 = .ok (.invokevirtual 58, 3) := by decide +kernel
theorem d_Au_isMarkWrong_8 : decode b_Au_isMarkWrong 8 = .ok (.ifCond .ne 11, 3) := by decide +kernel
theorem d_Au_isMarkWrong_11 : decode b_Au_isMarkWrong 11 = .ok (.aload_n 0, 1) := by decide +kernel
theorem d_Au_isMarkWrong_12 : decode b_Au_isMarkWrong 12 = .ok (.iload_n 1, 1) := by decide +kernel
theorem d_Au_isMarkWrong_13 : decode b_Au_isMarkWrong 13 = .ok (.invokevirtual 91, 3) := by decide +kernel
theorem d_Au_isMarkWrong_16 : decode b_Au_isMarkWrong 16 = .ok (.ifCond .ne 23, 3) := by decide +kernel
theorem d_Au_isMarkWrong_19 : decode b_Au_isMarkWrong 19 = .ok (.aload_n 0, 1) := by decide +kernel
theorem d_Au_isMarkWrong_20 : decode b_Au_isMarkWrong 20 = .ok (.getfield 15, 3) := by decide +kernel
theorem d_Au_isMarkWrong_23 : decode b_Au_isMarkWrong 23 = .ok (.invokevirtual 64, 3) := by decide +kernel
theorem d_Au_isMarkWrong_26 : decode b_Au_isMarkWrong 26 = .ok (.iload_n 1, 1) := by decide +kernel
theorem d_Au_isMarkWrong_27 : decode b_Au_isMarkWrong 27 = .ok (.invokevirtual 94, 3) := by decide +kernel
theorem d_Au_isMarkWrong_30 : decode b_Au_isMarkWrong 30 = .ok (.ifCond .ne 7, 3) := by decide +kernel
theorem d_Au_isMarkWrong_33 : decode b_Au_isMarkWrong 33 = .ok (.iconst 1, 1) := by decide +kernel
theorem d_Au_isMarkWrong_34 : decode b_Au_isMarkWrong 34 = .ok (.goto 4, 3) := by decide +kernel
theorem d_Au_isMarkWrong_37 : decode b_Au_isMarkWrong 37 = .ok (.iconst 0, 1) := by decide +kernel
theorem d_Au_isMarkWrong_38 : decode b_Au_isMarkWrong 38 = .ok (.ireturn, 1) := by decide +kernel
theorem d_Au_isMarkWrong_39 : decode b_Au_isMarkWrong 39 = .ok (.aload_n 0, 1) := by decide +kernel
theorem d_Au_isMarkWrong_40 : decode b_Au_isMarkWrong 40 = .ok (.getfield 28, 3) := by decide +kernel
theorem d_Au_isMarkWrong_43 : decode b_Au_isMarkWrong 43 = .ok (.iload_n 1, 1) := by decide +kernel
theorem d_Au_isMarkWrong_44 : decode b_Au_isMarkWrong 44 = .ok (.invokevirtual 97, 3) := by decide +kernel
theorem d_Au_isMarkWrong_47 : decode b_Au_isMarkWrong 47 = .ok (.ifCond .ne 25, 3) := by decide +kernel
theorem d_Au_isMarkWrong_50 : decode b_Au_isMarkWrong 50 = .ok (.aload_n 0, 1) := by decide +kernel
theorem d_Au_isMarkWrong_51 : decode b_Au_isMarkWrong 51 = .ok (.getfield 19, 3) := by decide +kernel
theorem d_Au_isMarkWrong_54 : decode b_Au_isMarkWrong 54 = .ok (.iload_n 1, 1) := by decide +kernel
theorem d_Au_isMarkWrong_55 : decode b_Au_isMarkWrong 55 = .ok (.invokevirtual 54, 3) := by decide +kernel
theorem d_Au_isMarkWrong_58 : decode b_Au_isMarkWrong 58 = .ok (.ifCond .eq 18, 3) := by decide +kernel
theorem d_Au_isMarkWrong_61 : decode b_Au_isMarkWrong 61 = .ok (.aload_n 0, 1) := by decide +kernel
theorem d_Au_isMarkWrong_62 : decode b_Au_isMarkWrong 62 = .ok (.getfield 28, 3) := by decide +kernel
theorem d_Au_isMarkWrong_65 : decode b_Au_isMarkWrong 65 = .ok (.iload_n 1, 1) := by decide +kernel
theorem d_Au_isMarkWrong_66 : decode b_Au_isMarkWrong 66 = .ok (.invokevirtual 100, 3) := by decide +kernel
theorem d_Au_isMarkWrong_69 : decode b_Au_isMarkWrong 69 = .ok (.ifCond .ne 7, 3) := by decide +kernel
theorem d_Au_isMarkWrong_72 : decode b_Au_isMarkWrong 72 = .ok (.iconst 1, 1) := by decide +kernel
theorem d_Au_isMarkWrong_73 : decode b_Au_isMarkWrong 73 = .ok (.goto 4, 3) := by decide +kernel
theorem d_Au_isMarkWrong_76 : decode b_Au_isMarkWrong 76 = .ok (.iconst 0, 1) := by decide +kernel
theorem d_Au_isMarkWrong_77 : decode b_Au_isMarkWrong 77 = .ok (.ireturn, 1) := by decide +kernel
theorem d_Au_isMarkInUse_0 : decode b_Au_isMarkInUse 0 = .ok (.aload_n 0, 1) := by decide +kernel
theorem d_Au_isMarkInUse_1 : decode b_Au_isMarkInUse 1 = .ok (.getfield 15, 3) := by decide +kernel
theorem d_Au_isMarkInUse_4 : decode b_Au_isMarkInUse 4 = .ok (.invokevirtual 74, 3) := by decide +kernel
theorem d_Au_isMarkInUse_7 : decode b_Au_isMarkInUse 7 = .ok (.getstatic 78, 3) := by decide +kernel
theorem d_Au_isMarkInUse_10 : decode b_Au_isMarkInUse 10 = .ok (.if_acmp .eq 14, 3) := by decide +kernel
theorem d_Au_isMarkInUse_13 : decode b_Au_isMarkInUse 13 = .ok (.aload_n 0, 1) := by decide +kernel
theorem d_Au_isMarkInUse_14 : decode b_Au_isMarkInUse 14 = .ok (.getfield 15, 3) := by decide +kernel
theorem d_Au_isMarkInUse_17 : decode b_Au_isMarkInUse 17 = .ok (.iload_n 1, 1) := by decide +kernel
theorem d_Au_isMarkInUse_18 : decode b_Au_isMarkInUse 18 = .ok (.invokevirtual 103, 3) := by decide +kernel
theorem d_Au_isMarkInUse_21 : decode b_Au_isMarkInUse 21 = .ok (.ifCond .eq 7, 3) := by decide +kernel
theorem d_Au_isMarkInUse_24 : decode b_Au_isMarkInUse 24 = .ok (.iconst 1, 1) := by decide +kernel
theorem d_Au_isMarkInUse_25 : decode b_Au_isMarkInUse 25 = .ok (.goto 4, 3) := by decide +kernel
theorem d_Au_isMarkInUse_28 : decode b_Au_isMarkInUse 28 = .ok (.iconst 0, 1) := by decide +kernel
theorem d_Au_isMarkInUse_29 : decode b_Au_isMarkInUse 29 = .ok (.ireturn, 1) := by decide +kernel
theorem d_Co_init_0 : decode b_Co_init 0 = .ok (.aload_n 0, 1) := by decide +kernel
theorem d_Co_init_1 : decode b_Co_init 1 = .ok (.invokespecial 3, 3) := by decide +kernel
theorem d_Co_init_4 : decode b_Co_init 4 = .ok (.aload_n 0, 1) := by decide +kernel
theorem d_Co_init_5 : decode b_Co_init 5 = .ok (.aload_n 1, 1) := by decide +kernel
theorem d_Co_init_6 : decode b_Co_init 6 = .ok (.putfield 9, 3) := by decide +kernel
theorem d_Co_init_9 : decode b_Co_init 9 = .ok (.aload_n 0, 1) := by decide +kernel
theorem d_Co_init_10 : decode b_Co_init 10 = .ok (.new 15, 3) := by decide +kernel
theorem d_Co_init_13 : decode b_Co_init 13 = .ok (.dup, 1) := by decide +kernel
theorem d_Co_init_14 : decode b_Co_init 14 = .ok (.aload_n 1, 1) := by decide +kernel
theorem d_Co_init_15 : decode b_Co_init 15 = .ok (.invokespecial 17, 3) := by decide +kernel
theorem d_Co_init_18 : decode b_Co_init 18 = .ok (.putfield 20, 3) := by decide +kernel
theorem d_Co_init_21 : decode b_Co_init 21 = .ok (.aload_n 0, 1) := by decide +kernel
theorem d_Co_init_22 : decode b_Co_init 22 = .ok (.getstatic 24, 3) := by decide +kernel
theorem d_Co_init_25 : decode b_Co_init 25 = .ok (.putfield 30, 3) := by decide +kernel
theorem d_Co_init_28 : decode b_Co_init 28 = .ok (.aload_n 0, 1) := by decide +kernel
theorem d_Co_init_29 : decode b_Co_init 29 = .ok (.iconst 1, 1) := by decide +kernel
theorem d_Co_init_30 : decode b_Co_init 30 = .ok (.putfield 33, 3) := by decide +kernel
theorem d_Co_init_33 : decode b_Co_init 33 = .ok (.return_, 1) := by decide +kernel
theorem d_Co_phase_0 : decode b_Co_phase 0 = .ok (.aload_n 0, 1) := by decide +kernel
theorem d_Co_phase_1 : decode b_Co_phase 1 = .ok (.getfield 30, 3) := by decide +kernel
theorem d_Co_phase_4 : decode b_Co_phase 4 = .ok (.areturn, 1) := by decide +kernel
theorem d_Co_marking_0 : decode b_Co_marking 0 = .ok (.aload_n 0, 1) := by decide +kernel
theorem d_Co_marking_1 : decode b_Co_marking 1 = .ok (.getfield 20, 3) := by decide +kernel
theorem d_Co_marking_4 : decode b_Co_marking 4 = .ok (.areturn, 1) := by decide +kernel
theorem d_Co_work_0 : decode b_Co_work 0 = .ok (.iconst 0, 1) := by decide +kernel
theorem d_Co_work_1 : decode b_Co_work 1 = .ok (.istore_n 2, 1) := by decide +kernel
theorem d_Co_work_2 : decode b_Co_work 2 = .ok (.iload_n 2, 1) := by decide +kernel
theorem d_Co_work_3 : decode b_Co_work 3 = .ok (.iload_n 1, 1) := by decide +kernel
theorem d_Co_work_4 : decode b_Co_work 4 = .ok (.if_icmp .ge 13, 3) := by decide +kernel
theorem d_Co_work_7 : decode b_Co_work 7 = .ok (.aload_n 0, 1) := by decide +kernel
theorem d_Co_work_8 : decode b_Co_work 8 = .ok (.invokevirtual 37, 3) := by decide +kernel
theorem d_Co_work_11 : decode b_Co_work 11 = .ok (.iinc 2 1, 3) := by decide +kernel
theorem d_Co_work_14 : decode b_Co_work 14 = .ok (.goto (-12), 3) := by decide +kernel
theorem d_Co_work_17 : decode b_Co_work 17 = .ok (.return_, 1) := by decide +kernel
theorem d_Co_collectWhole_0 : decode b_Co_collectWhole 0 = .ok (.aload_n 0, 1) := by decide +kernel
theorem d_Co_collectWhole_1 : decode b_Co_collectWhole 1 = .ok (.getfield 20, 3) := by decide +kernel
theorem d_Co_collectWhole_4 : decode b_Co_collectWhole 4 = .ok (.invokevirtual 40, 3) := by decide +kernel
theorem d_Co_collectWhole_7 : decode b_Co_collectWhole 7 = .ok (.aload_n 0, 1) := by decide +kernel
theorem d_Co_collectWhole_8 : decode b_Co_collectWhole 8 = .ok (.invokevirtual 43, 3) := by decide +kernel
theorem d_Co_collectWhole_11 : decode b_Co_collectWhole 11 = .ok (.iconst 0, 1) := by decide +kernel
theorem d_Co_collectWhole_12 : decode b_Co_collectWhole 12 = .ok (.istore_n 1, 1) := by decide +kernel
theorem d_Co_collectWhole_13 : decode b_Co_collectWhole 13 = .ok (.iload_n 1, 1) := by decide +kernel
theorem d_Co_collectWhole_14 : decode b_Co_collectWhole 14 = .ok (.sipush 1200, 3) := by decide +kernel
theorem d_Co_collectWhole_17 : decode b_Co_collectWhole 17 = .ok (.if_icmp .ge 23, 3) := by decide +kernel
theorem d_Co_collectWhole_20 : decode b_Co_collectWhole 20 = .ok (.aload_n 0, 1) := by decide +kernel
theorem d_Co_collectWhole_21 : decode b_Co_collectWhole 21 = .ok (.getfield 30, 3) := by decide +kernel
theorem d_Co_collectWhole_24 : decode b_Co_collectWhole 24 = .ok (.getstatic 24, 3) := by decide +kernel
theorem d_Co_collectWhole_27 : decode b_Co_collectWhole 27 = .ok (.if_acmp .eq 13, 3) := by decide +kernel
theorem d_Co_collectWhole_30 : decode b_Co_collectWhole 30 = .ok (.aload_n 0, 1) := by decide +kernel
theorem d_Co_collectWhole_31 : decode b_Co_collectWhole 31 = .ok (.invokevirtual 37, 3) := by decide +kernel
theorem d_Co_collectWhole_34 : decode b_Co_collectWhole 34 = .ok (.iinc 1 1, 3) := by decide +kernel
theorem d_Co_collectWhole_37 : decode b_Co_collectWhole 37 = .ok (.goto (-24), 3) := by decide +kernel
theorem d_Co_collectWhole_40 : decode b_Co_collectWhole 40 = .ok (.return_, 1) := by decide +kernel
theorem d_Co_allocate_0 : decode b_Co_allocate 0 = .ok (.aload_n 0, 1) := by decide +kernel
theorem d_Co_allocate_1 : decode b_Co_allocate 1 = .ok (.getfield 9, 3) := by decide +kernel
theorem d_Co_allocate_4 : decode b_Co_allocate 4 = .ok (.iload_n 1, 1) := by decide +kernel
theorem d_Co_allocate_5 : decode b_Co_allocate 5 = .ok (.invokevirtual 46, 3) := by decide +kernel
theorem d_Co_allocate_8 : decode b_Co_allocate 8 = .ok (.istore_n 2, 1) := by decide +kernel
theorem d_Co_allocate_9 : decode b_Co_allocate 9 = .ok (.aload_n 0, 1) := by decide +kernel
theorem d_Co_allocate_10 : decode b_Co_allocate 10 = .ok (.getfield 30, 3) := by decide +kernel
theorem d_Co_allocate_13 : decode b_Co_allocate 13 = .ok (.getstatic 52, 3) := by decide +kernel
theorem d_Co_allocate_16 : decode b_Co_allocate 16 = .ok (.if_acmp .eq 11, 3) := by decide +kernel
theorem d_Co_allocate_19 : decode b_Co_allocate 19 = .ok (.aload_n 0, 1) := by decide +kernel
theorem d_Co_allocate_20 : decode b_Co_allocate 20 = .ok (.iload_n 2, 1) := by decide +kernel
theorem d_Co_allocate_21 : decode b_Co_allocate 21 = .ok (.invokevirtual 55, 3) := by decide +kernel
theorem d_Co_allocate_24 : decode b_Co_allocate 24 = .ok (.ifCond .eq 11, 3) := by decide +kernel
theorem d_Co_allocate_27 : decode b_Co_allocate 27 = .ok (.aload_n 0, 1) := by decide +kernel
theorem d_Co_allocate_28 : decode b_Co_allocate 28 = .ok (.getfield 20, 3) := by decide +kernel
theorem d_Co_allocate_31 : decode b_Co_allocate 31 = .ok (.iload_n 2, 1) := by decide +kernel
theorem d_Co_allocate_32 : decode b_Co_allocate 32 = .ok (.invokevirtual 59, 3) := by decide +kernel
theorem d_Co_allocate_35 : decode b_Co_allocate 35 = .ok (.iload_n 2, 1) := by decide +kernel
theorem d_Co_allocate_36 : decode b_Co_allocate 36 = .ok (.ireturn, 1) := by decide +kernel
theorem d_Co_beforeOverwrite_0 : decode b_Co_beforeOverwrite 0 = .ok (.aload_n 0, 1) := by decide +kernel
theorem d_Co_beforeOverwrite_1 : decode b_Co_beforeOverwrite 1 = .ok (.getfield 30, 3) := by decide +kernel
theorem d_Co_beforeOverwrite_4 : decode b_Co_beforeOverwrite 4 = .ok (.getstatic 52, 3) := by decide +kernel
theorem d_Co_beforeOverwrite_7 : decode b_Co_beforeOverwrite 7 = .ok (.if_acmp .ne 18, 3) := by decide +kernel
theorem d_Co_beforeOverwrite_10 : decode b_Co_beforeOverwrite 10 = .ok (.aload_n 0, 1) := by decide +kernel
theorem d_Co_beforeOverwrite_11 : decode b_Co_beforeOverwrite 11 = .ok (.getfield 20, 3) := by decide +kernel
theorem d_Co_beforeOverwrite_14 : decode b_Co_beforeOverwrite 14 = .ok (.aload_n 0, 1) := by decide +kernel
theorem d_Co_beforeOverwrite_15 : decode b_Co_beforeOverwrite 15 = .ok (.getfield 9, 3) := by decide +kernel
theorem d_Co_beforeOverwrite_18 : decode b_Co_beforeOverwrite 18 = .ok (.iload_n 1, 1) := by decide +kernel
theorem d_Co_beforeOverwrite_19 : decode b_Co_beforeOverwrite 19 = .ok (.invokevirtual 63, 3) := by decide +kernel
theorem d_Co_beforeOverwrite_22 : decode b_Co_beforeOverwrite 22 = .ok (.invokevirtual 66, 3) := by decide +kernel
theorem d_Co_beforeOverwrite_25 : decode b_Co_beforeOverwrite 25 = .ok (.return_, 1) := by decide +kernel
theorem d_Co_isYetToBeSwept_0 : decode b_Co_isYetToBeSwept 0 = .ok (.aload_n 0, 1) := by decide +kernel
theorem d_Co_isYetToBeSwept_1 : decode b_Co_isYetToBeSwept 1 = .ok (.getfield 30, 3) := by decide +kernel
theorem d_Co_isYetToBeSwept_4 : decode b_Co_isYetToBeSwept 4 = .ok (.getstatic 69, 3) := by decide +kernel
theorem d_Co_isYetToBeSwept_7 : decode b_Co_isYetToBeSwept 7 = .ok (.if_acmp .ne 15, 3) := by decide +kernel
theorem d_Co_isYetToBeSwept_10 : decode b_Co_isYetToBeSwept 10 = .ok (.iload_n 1, 1) := by decide +kernel
theorem d_Co_isYetToBeSwept_11 : decode b_Co_isYetToBeSwept 11 = .ok (.aload_n 0, 1) := by decide +kernel
theorem d_Co_isYetToBeSwept_12 : decode b_Co_isYetToBeSwept 12 = .ok (.getfield 33, 3) := by decide +kernel
theorem d_Co_isYetToBeSwept_15 : decode b_Co_isYetToBeSwept 15 = .ok (.if_icmp .lt 7, 3) := by decide +kernel
theorem d_Co_isYetToBeSwept_18 : decode b_Co_isYetToBeSwept 18 = .ok (.iconst 1, 1) := by decide +kernel
theorem d_Co_isYetToBeSwept_19 : decode b_Co_isYetToBeSwept 19 = .ok (.goto 4, 3) := by decide +kernel
theorem d_Co_isYetToBeSwept_22 : decode b_Co_isYetToBeSwept 22 = .ok (.iconst 0, 1) := by decide +kernel
theorem d_Co_isYetToBeSwept_23 : decode b_Co_isYetToBeSwept 23 = .ok (.ireturn, 1) := by decide +kernel
theorem d_Co_advance_0 : decode b_Co_advance 0 = .ok (.aload_n 0, 1) := by decide +kernel
theorem d_Co_advance_1 : decode b_Co_advance 1 = .ok (.getfield 30, 3) := by decide +kernel
theorem d_Co_advance_4 : decode b_Co_advance 4 = .ok (.getstatic 24, 3) := by decide +kernel
theorem d_Co_advance_7 : decode b_Co_advance 7 = .ok (.if_acmp .ne 7, 3) := by decide +kernel
theorem d_Co_advance_10 : decode b_Co_advance 10 = .ok (.aload_n 0, 1) := by decide +kernel
theorem d_Co_advance_11 : decode b_Co_advance 11 = .ok (.invokevirtual 43, 3) := by decide +kernel
theorem d_Co_advance_14 : decode b_Co_advance 14 = .ok (.aload_n 0, 1) := by decide +kernel
theorem d_Co_advance_15 : decode b_Co_advance 15 = .ok (.getfield 30, 3) := by decide +kernel
theorem d_Co_advance_18 : decode b_Co_advance 18 = .ok (.getstatic 52, 3) := by decide +kernel
theorem d_Co_advance_21 : decode b_Co_advance 21 = .ok (.if_acmp .ne 25, 3) := by decide +kernel
theorem d_Co_advance_24 : decode b_Co_advance 24 = .ok (.aload_n 0, 1) := by decide +kernel
