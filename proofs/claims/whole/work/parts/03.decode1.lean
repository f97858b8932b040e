theorem d_Sh_init_0 : decode b_Sh_init 0 = .ok (.aload_n 0, 1) := by decide +kernel
theorem d_Sh_init_1 : decode b_Sh_init 1 = .ok (.invokespecial 3, 3) := by decide +kernel
theorem d_Sh_init_4 : decode b_Sh_init 4 = .ok (.aload_n 0, 1) := by decide +kernel
theorem d_Sh_init_5 : decode b_Sh_init 5 = .ok (.new 9, 3) := by decide +kernel
theorem d_Sh_init_8 : decode b_Sh_init 8 = .ok (.dup, 1) := by decide +kernel
theorem d_Sh_init_9 : decode b_Sh_init 9 = .ok (.invokespecial 11, 3) := by decide +kernel
theorem d_Sh_init_12 : decode b_Sh_init 12 = .ok (.putfield 12, 3) := by decide +kernel
theorem d_Sh_init_15 : decode b_Sh_init 15 = .ok (.aload_n 0, 1) := by decide +kernel
theorem d_Sh_init_16 : decode b_Sh_init 16 = .ok (.new 16, 3) := by decide +kernel
theorem d_Sh_init_19 : decode b_Sh_init 19 = .ok (.dup, 1) := by decide +kernel
theorem d_Sh_init_20 : decode b_Sh_init 20 = .ok (.aload_n 0, 1) := by decide +kernel
theorem d_Sh_init_21 : decode b_Sh_init 21 = .ok (.getfield 12, 3) := by decide +kernel
theorem d_Sh_init_24 : decode b_Sh_init 24 = .ok (.invokespecial 18, 3) := by decide +kernel
theorem d_Sh_init_27 : decode b_Sh_init 27 = .ok (.putfield 21, 3) := by decide +kernel
theorem d_Sh_init_30 : decode b_Sh_init 30 = .ok (.aload_n 0, 1) := by decide +kernel
theorem d_Sh_init_31 : decode b_Sh_init 31 = .ok (.new 25, 3) := by decide +kernel
theorem d_Sh_init_34 : decode b_Sh_init 34 = .ok (.dup, 1) := by decide +kernel
theorem d_Sh_init_35 : decode b_Sh_init 35 = .ok (.aload_n 0, 1) := by decide +kernel
theorem d_Sh_init_36 : decode b_Sh_init 36 = .ok (.getfield 12, 3) := by decide +kernel
theorem d_Sh_init_39 : decode b_Sh_init 39 = .ok (.invokespecial 27, 3) := by decide +kernel
theorem d_Sh_init_42 : decode b_Sh_init 42 = .ok (.putfield 28, 3) := by decide +kernel
theorem d_Sh_init_45 : decode b_Sh_init 45 = .ok (.aload_n 0, 1) := by decide +kernel
theorem d_Sh_init_46 : decode b_Sh_init 46 = .ok (.new 32, 3) := by decide +kernel
theorem d_Sh_init_49 : decode b_Sh_init 49 = .ok (.dup, 1) := by decide +kernel
theorem d_Sh_init_50 : decode b_Sh_init 50 = .ok (.aload_n 0, 1) := by decide +kernel
theorem d_Sh_init_51 : decode b_Sh_init 51 = .ok (.getfield 12, 3) := by decide +kernel
theorem d_Sh_init_54 : decode b_Sh_init 54 = .ok (.aload_n 0, 1) := by decide +kernel
theorem d_Sh_init_55 : decode b_Sh_init 55 = .ok (.getfield 21, 3) := by decide +kernel
theorem d_Sh_init_58 : decode b_Sh_init 58 = .ok (.aload_n 0, 1) := by decide +kernel
theorem d_Sh_init_59 : decode b_Sh_init 59 = .ok (.getfield 28, 3) := by decide +kernel
theorem d_Sh_init_62 : decode b_Sh_init 62 = .ok (.invokespecial 34, 3) := by decide +kernel
theorem d_Sh_init_65 : decode b_Sh_init 65 = .ok (.putfield 37, 3) := by decide +kernel
theorem d_Sh_init_68 : decode b_Sh_init 68 = .ok (.aload_n 0, 1) := by decide +kernel
theorem d_Sh_init_69 : decode b_Sh_init 69 = .ok (.iconst 3, 1) := by decide +kernel
theorem d_Sh_init_70 : decode b_Sh_init 70 = .ok (.putfield 41, 3) := by decide +kernel
theorem d_Sh_init_73 : decode b_Sh_init 73 = .ok (.aload_n 0, 1) := by decide +kernel
theorem d_Sh_init_74 : decode b_Sh_init 74 = .ok (.iconst 0, 1) := by decide +kernel
theorem d_Sh_init_75 : decode b_Sh_init 75 = .ok (.putfield 45, 3) := by decide +kernel
theorem d_Sh_init_78 : decode b_Sh_init 78 = .ok (.return_, 1) := by decide +kernel
theorem d_Sh_tuple_0 : decode b_Sh_tuple 0 = .ok (.aload_n 0, 1) := by decide +kernel
theorem d_Sh_tuple_1 : decode b_Sh_tuple 1 = .ok (.getfield 21, 3) := by decide +kernel
theorem d_Sh_tuple_4 : decode b_Sh_tuple 4 = .ok (.aload_n 0, 1) := by decide +kernel
theorem d_Sh_tuple_5 : decode b_Sh_tuple 5 = .ok (.getfield 41, 3) := by decide +kernel
theorem d_Sh_tuple_8 : decode b_Sh_tuple 8 = .ok (.invokevirtual 48, 3) := by decide +kernel
theorem d_Sh_tuple_11 : decode b_Sh_tuple 11 = .ok (.iload_n 1, 1) := by decide +kernel
theorem d_Sh_tuple_12 : decode b_Sh_tuple 12 = .ok (.invokestatic 52, 3) := by decide +kernel
theorem d_Sh_tuple_15 : decode b_Sh_tuple 15 = .ok (.iload_n 2, 1) := by decide +kernel
theorem d_Sh_tuple_16 : decode b_Sh_tuple 16 = .ok (.iconst 0, 1) := by decide +kernel
theorem d_Sh_tuple_17 : decode b_Sh_tuple 17 = .ok (.bipush 16, 2) := by decide +kernel
theorem d_Sh_tuple_19 : decode b_Sh_tuple 19 = .ok (.invokestatic 55, 3) := by decide +kernel
theorem d_Sh_tuple_22 : decode b_Sh_tuple 22 = .ok (.aload_n 0, 1) := by decide +kernel
theorem d_Sh_tuple_23 : decode b_Sh_tuple 23 = .ok (.getfield 12, 3) := by decide +kernel
theorem d_Sh_tuple_26 : decode b_Sh_tuple 26 = .ok (.iload_n 2, 1) := by decide +kernel
theorem d_Sh_tuple_27 : decode b_Sh_tuple 27 = .ok (.invokevirtual 59, 3) := by decide +kernel
theorem d_Sh_tuple_30 : decode b_Sh_tuple 30 = .ok (.ifCond .ne 10, 3) := by decide +kernel
theorem d_Sh_tuple_33 : decode b_Sh_tuple 33 = .ok (.aload_n 0, 1) := by decide +kernel
theorem d_Sh_tuple_34 : decode b_Sh_tuple 34 = .ok (.getfield 21, 3) := by decide +kernel
theorem d_Sh_tuple_37 : decode b_Sh_tuple 37 = .ok (.invokevirtual 63, 3) := by decide +kernel
theorem d_Sh_tuple_40 : decode b_Sh_tuple 40 = .ok (.aload_n 0, 1) := by decide +kernel
theorem d_Sh_tuple_41 : decode b_Sh_tuple 41 = .ok (.getfield 12, 3) := by decide +kernel
theorem d_Sh_tuple_44 : decode b_Sh_tuple 44 = .ok (.iload_n 2, 1) := by decide +kernel
theorem d_Sh_tuple_45 : decode b_Sh_tuple 45 = .ok (.invokevirtual 59, 3) := by decide +kernel
theorem d_Sh_tuple_48 : decode b_Sh_tuple 48 = .ok (.ifCond .ne 13, 3) := by decide +kernel
theorem d_Sh_tuple_51 : decode b_Sh_tuple 51 = .ok (.new 66, 3) := by decide +kernel
theorem d_Sh_tuple_54 : decode b_Sh_tuple 54 = .ok (.dup, 1) := by decide +kernel
theorem d_Sh_tuple_55 : decode b_Sh_tuple 55 = .ok (.ldc 68, 2) := by decide +kernel
theorem d_Sh_tuple_57 : decode b_Sh_tuple 57 = .ok (.invokespecial 70, 3) := by decide +kernel
theorem d_Sh_tuple_60 : decode b_Sh_tuple 60 = .ok (.athrow, 1) := by decide +kernel
theorem d_Sh_tuple_61 : decode b_Sh_tuple 61 = .ok (.aload_n 0, 1) := by decide +kernel
theorem d_Sh_tuple_62 : decode b_Sh_tuple 62 = .ok (.getfield 12, 3) := by decide +kernel
theorem d_Sh_tuple_65 : decode b_Sh_tuple 65 = .ok (.iload_n 1, 1) := by decide +kernel
theorem d_Sh_tuple_66 : decode b_Sh_tuple 66 = .ok (.invokestatic 73, 3) := by decide +kernel
theorem d_Sh_tuple_69 : decode b_Sh_tuple 69 = .ok (.aload_n 0, 1) := by decide +kernel
theorem d_Sh_tuple_70 : decode b_Sh_tuple 70 = .ok (.getfield 21, 3) := by decide +kernel
theorem d_Sh_tuple_73 : decode b_Sh_tuple 73 = .ok (.iload_n 2, 1) := by decide +kernel
theorem d_Sh_tuple_74 : decode b_Sh_tuple 74 = .ok (.invokevirtual 77, 3) := by decide +kernel
theorem d_Sh_tuple_77 : decode b_Sh_tuple 77 = .ok (.invokevirtual 80, 3) := by decide +kernel
theorem d_Sh_tuple_80 : decode b_Sh_tuple 80 = .ok (.aload_n 0, 1) := by decide +kernel
theorem d_Sh_tuple_81 : decode b_Sh_tuple 81 = .ok (.dup, 1) := by decide +kernel
theorem d_Sh_tuple_82 : decode b_Sh_tuple 82 = .ok (.getfield 45, 3) := by decide +kernel
theorem d_Sh_tuple_85 : decode b_Sh_tuple 85 = .ok (.iconst 1, 1) := by decide +kernel
theorem d_Sh_tuple_86 : decode b_Sh_tuple 86 = .ok (.iadd, 1) := by decide +kernel
theorem d_Sh_tuple_87 : decode b_Sh_tuple 87 = .ok (.putfield 45, 3) := by decide +kernel
theorem d_Sh_tuple_90 : decode b_Sh_tuple 90 = .ok (.aload_n 0, 1) := by decide +kernel
theorem d_Sh_tuple_91 : decode b_Sh_tuple 91 = .ok (.getfield 45, 3) := by decide +kernel
theorem d_Sh_tuple_94 : decode b_Sh_tuple 94 = .ok (.ireturn, 1) := by decide +kernel
theorem d_Sh_number_0 : decode b_Sh_number 0 = .ok (.aload_n 0, 1) := by decide +kernel
theorem d_Sh_number_1 : decode b_Sh_number 1 = .ok (.getfield 21, 3) := by decide +kernel
theorem d_Sh_number_4 : decode b_Sh_number 4 = .ok (.aload_n 0, 1) := by decide +kernel
theorem d_Sh_number_5 : decode b_Sh_number 5 = .ok (.getfield 41, 3) := by decide +kernel
theorem d_Sh_number_8 : decode b_Sh_number 8 = .ok (.invokevirtual 48, 3) := by decide +kernel
theorem d_Sh_number_11 : decode b_Sh_number 11 = .ok (.iload_n 1, 1) := by decide +kernel
theorem d_Sh_number_12 : decode b_Sh_number 12 = .ok (.invokestatic 52, 3) := by decide +kernel
theorem d_Sh_number_15 : decode b_Sh_number 15 = .ok (.aload_n 0, 1) := by decide +kernel
theorem d_Sh_number_16 : decode b_Sh_number 16 = .ok (.getfield 12, 3) := by decide +kernel
theorem d_Sh_number_19 : decode b_Sh_number 19 = .ok (.iload_n 1, 1) := by decide +kernel
theorem d_Sh_number_20 : decode b_Sh_number 20 = .ok (.invokestatic 73, 3) := by decide +kernel
theorem d_Sh_number_23 : decode b_Sh_number 23 = .ok (.lload_n 2, 1) := by decide +kernel
theorem d_Sh_number_24 : decode b_Sh_number 24 = .ok (.invokevirtual 84, 3) := by decide +kernel
theorem d_Sh_number_27 : decode b_Sh_number 27 = .ok (.return_, 1) := by decide +kernel
theorem d_Sh_copy_0 : decode b_Sh_copy 0 = .ok (.aload_n 0, 1) := by decide +kernel
theorem d_Sh_copy_1 : decode b_Sh_copy 1 = .ok (.getfield 21, 3) := by decide +kernel
theorem d_Sh_copy_4 : decode b_Sh_copy 4 = .ok (.aload_n 0, 1) := by decide +kernel
theorem d_Sh_copy_5 : decode b_Sh_copy 5 = .ok (.getfield 41, 3) := by decide +kernel
theorem d_Sh_copy_8 : decode b_Sh_copy 8 = .ok (.invokevirtual 48, 3) := by decide +kernel
theorem d_Sh_copy_11 : decode b_Sh_copy 11 = .ok (.iload_n 1, 1) := by decide +kernel
theorem d_Sh_copy_12 : decode b_Sh_copy 12 = .ok (.invokestatic 52, 3) := by decide +kernel
theorem d_Sh_copy_15 : decode b_Sh_copy 15 = .ok (.iload_n 2, 1) := by decide +kernel
theorem d_Sh_copy_16 : decode b_Sh_copy 16 = .ok (.invokestatic 52, 3) := by decide +kernel
theorem d_Sh_copy_19 : decode b_Sh_copy 19 = .ok (.aload_n 0, 1) := by decide +kernel
theorem d_Sh_copy_20 : decode b_Sh_copy 20 = .ok (.getfield 12, 3) := by decide +kernel
theorem d_Sh_copy_23 : decode b_Sh_copy 23 = .ok (.iload_n 2, 1) := by decide +kernel
theorem d_Sh_copy_24 : decode b_Sh_copy 24 = .ok (.invokestatic 73, 3) := by decide +kernel
theorem d_Sh_copy_27 : decode b_Sh_copy 27 = .ok (.iload_n 1, 1) := by decide +kernel
theorem d_Sh_copy_28 : decode b_Sh_copy 28 = .ok (.invokestatic 73, 3) := by decide +kernel
theorem d_Sh_copy_31 : decode b_Sh_copy 31 = .ok (.invokevirtual 88, 3) := by decide +kernel
theorem d_Sh_copy_34 : decode b_Sh_copy 34 = .ok (.return_, 1) := by decide +kernel
theorem d_Sh_get_0 : decode b_Sh_get 0 = .ok (.aload_n 0, 1) := by decide +kernel
theorem d_Sh_get_1 : decode b_Sh_get 1 = .ok (.getfield 21, 3) := by decide +kernel
theorem d_Sh_get_4 : decode b_Sh_get 4 = .ok (.aload_n 0, 1) := by decide +kernel
theorem d_Sh_get_5 : decode b_Sh_get 5 = .ok (.getfield 41, 3) := by decide +kernel
theorem d_Sh_get_8 : decode b_Sh_get 8 = .ok (.invokevirtual 48, 3) := by decide +kernel
theorem d_Sh_get_11 : decode b_Sh_get 11 = .ok (.iload_n 1, 1) := by decide +kernel
theorem d_Sh_get_12 : decode b_Sh_get 12 = .ok (.invokestatic 52, 3) := by decide +kernel
theorem d_Sh_get_15 : decode b_Sh_get 15 = .ok (.iload_n 2, 1) := by decide +kernel
theorem d_Sh_get_16 : decode b_Sh_get 16 = .ok (.invokestatic 52, 3) := by decide +kernel
theorem d_Sh_get_19 : decode b_Sh_get 19 = .ok (.aload_n 0, 1) := by decide +kernel
theorem d_Sh_get_20 : decode b_Sh_get 20 = .ok (.getfield 12, 3) := by decide +kernel
theorem d_Sh_get_23 : decode b_Sh_get 23 = .ok (.aload_n 0, 1) := by decide +kernel
theorem d_Sh_get_24 : decode b_Sh_get 24 = .ok (.iload_n 2, 1) := by decide +kernel
theorem d_Sh_get_25 : decode b_Sh_get 25 = .ok (.iload_n 3, 1) := by decide +kernel
theorem d_Sh_get_26 : decode b_Sh_get 26 = .ok (.invokevirtual 91, 3) := by decide +kernel
theorem d_Sh_get_29 : decode b_Sh_get 29 = .ok (.iload_n 1, 1) := by decide +kernel
theorem d_Sh_get_30 : decode b_Sh_get 30 = .ok (.invokestatic 73, 3) := by decide +kernel
theorem d_Sh_get_33 : decode b_Sh_get 33 = .ok (.invokevirtual 88, 3) := by decide +kernel
theorem d_Sh_get_36 : decode b_Sh_get 36 = .ok (.return_, 1) := by decide +kernel
theorem d_Sh_set_0 : decode b_Sh_set 0 = .ok (.aload_n 0, 1) := by decide +kernel
theorem d_Sh_set_1 : decode b_Sh_set 1 = .ok (.getfield 21, 3) := by decide +kernel
theorem d_Sh_set_4 : decode b_Sh_set 4 = .ok (.aload_n 0, 1) := by decide +kernel
theorem d_Sh_set_5 : decode b_Sh_set 5 = .ok (.getfield 41, 3) := by decide +kernel
theorem d_Sh_set_8 : decode b_Sh_set 8 = .ok (.invokevirtual 48, 3) := by decide +kernel
theorem d_Sh_set_11 : decode b_Sh_set 11 = .ok (.iload_n 1, 1) := by decide +kernel
theorem d_Sh_set_12 : decode b_Sh_set 12 = .ok (.invokestatic 52, 3) := by decide +kernel
theorem d_Sh_set_15 : decode b_Sh_set 15 = .ok (.iload_n 3, 1) := by decide +kernel
theorem d_Sh_set_16 : decode b_Sh_set 16 = .ok (.invokestatic 52, 3) := by decide +kernel
theorem d_Sh_set_19 : decode b_Sh_set 19 = .ok (.aload_n 0, 1) := by decide +kernel
theorem d_Sh_set_20 : decode b_Sh_set 20 = .ok (.iload_n 1, 1) := by decide +kernel
theorem d_Sh_set_21 : decode b_Sh_set 21 = .ok (.iload_n 2, 1) := by decide +kernel
theorem d_Sh_set_22 : decode b_Sh_set 22 = .ok (.invokevirtual 91, 3) := by decide +kernel
theorem d_Sh_set_25 : decode b_Sh_set 25 = .ok (.istore 4, 2) := by decide +kernel
theorem d_Sh_set_27 : decode b_Sh_set 27 = .ok (.aload_n 0, 1) := by decide +kernel
theorem d_Sh_set_28 : decode b_Sh_set 28 = .ok (.getfield 21, 3) := by decide +kernel
theorem d_Sh_set_31 : decode b_Sh_set 31 = .ok (.iload 4, 2) := by decide +kernel
theorem d_Sh_set_33 : decode b_Sh_set 33 = .ok (.invokevirtual 95, 3) := by decide +kernel
theorem d_Sh_set_36 : decode b_Sh_set 36 = .ok (.aload_n 0, 1) := by decide +kernel
theorem d_Sh_set_37 : decode b_Sh_set 37 = .ok (.getfield 12, 3) := by decide +kernel
theorem d_Sh_set_40 : decode b_Sh_set 40 = .ok (.iload_n 3, 1) := by decide +kernel
theorem d_Sh_set_41 : decode b_Sh_set 41 = .ok (.invokestatic 73, 3) := by decide +kernel
theorem d_Sh_set_44 : decode b_Sh_set 44 = .ok (.iload 4, 2) := by decide +kernel
theorem d_Sh_set_46 : decode b_Sh_set 46 = .ok (.invokevirtual 88, 3) := by decide +kernel
theorem d_Sh_set_49 : decode b_Sh_set 49 = .ok (.return_, 1) := by decide +kernel
theorem d_Sh_step_0 : decode b_Sh_step 0 = .ok (.aload_n 0, 1) := by decide +kernel
theorem d_Sh_step_1 : decode b_Sh_step 1 = .ok (.getfield 21, 3) := by decide +kernel
theorem d_Sh_step_4 : decode b_Sh_step 4 = .ok (.aload_n 0, 1) := by decide +kernel
theorem d_Sh_step_5 : decode b_Sh_step 5 = .ok (.getfield 41, 3) := by decide +kernel
theorem d_Sh_step_8 : decode b_Sh_step 8 = .ok (.invokevirtual 48, 3) := by decide +kernel
theorem d_Sh_step_11 : decode b_Sh_step 11 = .ok (.iload_n 1, 1) := by decide +kernel
theorem d_Sh_step_12 : decode b_Sh_step 12 = .ok (.iconst 1, 1) := by decide +kernel
theorem d_Sh_step_13 : decode b_Sh_step 13 = .ok (.sipush 1000, 3) := by decide +kernel
theorem d_Sh_step_16 : decode b_Sh_step 16 = .ok (.invokestatic 55, 3) := by decide +kernel
theorem d_Sh_step_19 : decode b_Sh_step 19 = .ok (.aload_n 0, 1) := by decide +kernel
theorem d_Sh_step_20 : decode b_Sh_step 20 = .ok (.getfield 21, 3) := by decide +kernel
theorem d_Sh_step_23 : decode b_Sh_step 23 = .ok (.iload_n 1, 1) := by decide +kernel
theorem d_Sh_step_24 : decode b_Sh_step 24 = .ok (.invokevirtual 48, 3) := by decide +kernel
theorem d_Sh_step_27 : decode b_Sh_step 27 = .ok (.return_, 1) := by decide +kernel
theorem d_Sh_pace_0 : decode b_Sh_pace 0 = .ok (.aload_n 0, 1) := by decide +kernel
theorem d_Sh_pace_1 : decode b_Sh_pace 1 = .ok (.getfield 21, 3) := by decide +kernel
theorem d_Sh_pace_4 : decode b_Sh_pace 4 = .ok (.aload_n 0, 1) := by decide +kernel
theorem d_Sh_pace_5 : decode b_Sh_pace 5 = .ok (.getfield 41, 3) := by decide +kernel
theorem d_Sh_pace_8 : decode b_Sh_pace 8 = .ok (.invokevirtual 48, 3) := by decide +kernel
theorem d_Sh_pace_11 : decode b_Sh_pace 11 = .ok (.iload_n 1, 1) := by decide +kernel
theorem d_Sh_pace_12 : decode b_Sh_pace 12 = .ok (.iconst 0, 1) := by decide +kernel
theorem d_Sh_pace_13 : decode b_Sh_pace 13 = .ok (.bipush 50, 2) := by decide +kernel
theorem d_Sh_pace_15 : decode b_Sh_pace 15 = .ok (.invokestatic 55, 3) := by decide +kernel
theorem d_Sh_pace_18 : decode b_Sh_pace 18 = .ok (.aload_n 0, 1) := by decide +kernel
theorem d_Sh_pace_19 : decode b_Sh_pace 19 = .ok (.getfield 41, 3) := by decide +kernel
theorem d_Sh_pace_22 : decode b_Sh_pace 22 = .ok (.istore_n 2, 1) := by decide +kernel
theorem d_Sh_pace_23 : decode b_Sh_pace 23 = .ok (.aload_n 0, 1) := by decide +kernel
theorem d_Sh_pace_24 : decode b_Sh_pace 24 = .ok (.iload_n 1, 1) := by decide +kernel
theorem d_Sh_pace_25 : decode b_Sh_pace 25 = .ok (.putfield 41, 3) := by decide +kernel
theorem d_Sh_pace_28 : decode b_Sh_pace 28 = .ok (.iload_n 2, 1) := by decide +kernel
theorem d_Sh_pace_29 : decode b_Sh_pace 29 = .ok (.ireturn, 1) := by decide +kernel
theorem d_Sh_size_0 : decode b_Sh_size 0 = .ok (.aload_n 0, 1) := by decide +kernel
theorem d_Sh_size_1 : decode b_Sh_size 1 = .ok (.getfield 21, 3) := by decide +kernel
theorem d_Sh_size_4 : decode b_Sh_size 4 = .ok (.aload_n 0, 1) := by decide +kernel
theorem d_Sh_size_5 : decode b_Sh_size 5 = .ok (.getfield 41, 3) := by decide +kernel
theorem d_Sh_size_8 : decode b_Sh_size 8 = .ok (.invokevirtual 48, 3) := by decide +kernel
theorem d_Sh_size_11 : decode b_Sh_size 11 = .ok (.iload_n 1, 1) := by decide +kernel
theorem d_Sh_size_12 : decode b_Sh_size 12 = .ok (.invokestatic 52, 3) := by decide +kernel
theorem d_Sh_size_15 : decode b_Sh_size 15 = .ok (.aload_n 0, 1) := by decide +kernel
theorem d_Sh_size_16 : decode b_Sh_size 16 = .ok (.getfield 12, 3) := by decide +kernel
theorem d_Sh_size_19 : decode b_Sh_size 19 = .ok (.iload_n 1, 1) := by decide +kernel
theorem d_Sh_size_20 : decode b_Sh_size 20 = .ok (.invokestatic 73, 3) := by decide +kernel
theorem d_Sh_size_23 : decode b_Sh_size 23 = .ok (.invokevirtual 98, 3) := by decide +kernel
theorem d_Sh_size_26 : decode b_Sh_size 26 = .ok (.istore_n 2, 1) := by decide +kernel
theorem d_Sh_size_27 : decode b_Sh_size 27 = .ok (.iload_n 2, 1) := by decide +kernel
theorem d_Sh_size_28 : decode b_Sh_size 28 = .ok (.ifCond .ne 7, 3) := by decide +kernel
theorem d_Sh_size_31 : decode b_Sh_size 31 = .ok (.iconst (-1), 1) := by decide +kernel
theorem d_Sh_size_32 : decode b_Sh_size 32 = .ok (.goto 11, 3) := by decide +kernel
theorem d_Sh_size_35 : decode b_Sh_size 35 = .ok (.aload_n 0, 1) := by decide +kernel
theorem d_Sh_size_36 : decode b_Sh_size 36 = .ok (.getfield 12, 3) := by decide +kernel
theorem d_Sh_size_39 : decode b_Sh_size 39 = .ok (.iload_n 2, 1) := by decide +kernel
theorem d_Sh_size_40 : decode b_Sh_size 40 = .ok (.invokevirtual 101, 3) := by decide +kernel
theorem d_Sh_size_43 : decode b_Sh_size 43 = .ok (.ireturn, 1) := by decide +kernel
theorem d_Sh_value_0 : decode b_Sh_value 0 = .ok (.aload_n 0, 1) := by decide +kernel
theorem d_Sh_value_1 : decode b_Sh_value 1 = .ok (.getfield 21, 3) := by decide +kernel
theorem d_Sh_value_4 : decode b_Sh_value 4 = .ok (.aload_n 0, 1) := by decide +kernel
theorem d_Sh_value_5 : decode b_Sh_value 5 = .ok (.getfield 41, 3) := by decide +kernel
theorem d_Sh_value_8 : decode b_Sh_value 8 = .ok (.invokevirtual 48, 3) := by decide +kernel
theorem d_Sh_value_11 : decode b_Sh_value 11 = .ok (.iload_n 1, 1) := by decide +kernel
theorem d_Sh_value_12 : decode b_Sh_value 12 = .ok (.invokestatic 52, 3) := by decide +kernel
theorem d_Sh_value_15 : decode b_Sh_value 15 = .ok (.aload_n 0, 1) := by decide +kernel
theorem d_Sh_value_16 : decode b_Sh_value 16 = .ok (.getfield 12, 3) := by decide +kernel
theorem d_Sh_value_19 : decode b_Sh_value 19 = .ok (.iload_n 1, 1) := by decide +kernel
theorem d_Sh_value_20 : decode b_Sh_value 20 = .ok (.invokestatic 73, 3) := by decide +kernel
theorem d_Sh_value_23 : decode b_Sh_value 23 = .ok (.invokevirtual 104, 3) := by decide +kernel
theorem d_Sh_value_26 : decode b_Sh_value 26 = .ok (.lreturn, 1) := by decide +kernel
theorem d_Sh_same_0 : decode b_Sh_same 0 = .ok (.aload_n 0, 1) := by decide +kernel
theorem d_Sh_same_1 : decode b_Sh_same 1 = .ok (.getfield 21, 3) := by decide +kernel
theorem d_Sh_same_4 : decode b_Sh_same 4 = .ok (.aload_n 0, 1) := by decide +kernel
theorem d_Sh_same_5 : decode b_Sh_same 5 = .ok (.getfield 41, 3) := by decide +kernel
theorem d_Sh_same_8 : decode b_Sh_same 8 = .ok (.invokevirtual 48, 3) := by decide +kernel
theorem d_Sh_same_11 : decode b_Sh_same 11 = .ok (.iload_n 1, 1) := by decide +kernel
theorem d_Sh_same_12 : decode b_Sh_same 12 = .ok (.invokestatic 52, 3) := by decide +kernel
theorem d_Sh_same_15 : decode b_Sh_same 15 = .ok (.iload_n 2, 1) := by decide +kernel
theorem d_Sh_same_16 : decode b_Sh_same 16 = .ok (.invokestatic 52, 3) := by decide +kernel
theorem d_Sh_same_19 : decode b_Sh_same 19 = .ok (.aload_n 0, 1) := by decide +kernel
theorem d_Sh_same_20 : decode b_Sh_same 20 = .ok (.getfield 12, 3) := by decide +kernel
theorem d_Sh_same_23 : decode b_Sh_same 23 = .ok (.iload_n 1, 1) := by decide +kernel
theorem d_Sh_same_24 : decode b_Sh_same 24 = .ok (.invokestatic 73, 3) := by decide +kernel
theorem d_Sh_same_27 : decode b_Sh_same 27 = .ok (.iload_n 2, 1) := by decide +kernel
theorem d_Sh_same_28 : decode b_Sh_same 28 = .ok (.invokestatic 73, 3) := by decide +kernel
theorem d_Sh_same_31 : decode b_Sh_same 31 = .ok (.invokevirtual 108, 3) := by decide +kernel
theorem d_Sh_same_34 : decode b_Sh_same 34 = .ok (.ireturn, 1) := by decide +kernel
theorem d_Sh_count_0 : decode b_Sh_count 0 = .ok (.aload_n 0, 1) := by decide +kernel
theorem d_Sh_count_1 : decode b_Sh_count 1 = .ok (.getfield 21, 3) := by decide +kernel
theorem d_Sh_count_4 : decode b_Sh_count 4 = .ok (.aload_n 0, 1) := by decide +kernel
theorem d_Sh_count_5 : decode b_Sh_count 5 = .ok (.getfield 41, 3) := by decide +kernel
theorem d_Sh_count_8 : decode b_Sh_count 8 = .ok (.invokevirtual 48, 3) := by decide +kernel
theorem d_Sh_count_11 : decode b_Sh_count 11 = .ok (.iload_n 1, 1) := by decide +kernel
theorem d_Sh_count_12 : decode b_Sh_count 12 = .ok (.iconst 0, 1) := by decide +kernel
theorem d_Sh_count_13 : decode b_Sh_count 13 = .ok (.iconst 2, 1) := by decide +kernel
theorem d_Sh_count_14 : decode b_Sh_count 14 = .ok (.invokestatic 55, 3) := by decide +kernel
theorem d_Sh_count_17 : decode b_Sh_count 17 = .ok (.iload_n 1, 1) := by decide +kernel
theorem d_Sh_count_18 : decode b_Sh_count 18 = .ok (.iconst 2, 1) := by decide +kernel
theorem d_Sh_count_19 : decode b_Sh_count 19 = .ok (.if_icmp .ne 8, 3) := by decide +kernel
theorem d_Sh_count_22 : decode b_Sh_count 22 = .ok (.aload_n 0, 1) := by decide +kernel
theorem d_Sh_count_23 : decode b_Sh_count 23 = .ok (.getfield 45, 3) := by decide +kernel
theorem d_Sh_count_26 : decode b_Sh_count 26 = .ok (.ireturn, 1) := by decide +kernel
theorem d_Sh_count_27 : decode b_Sh_count 27 = .ok (.aload_n 0, 1) := by decide +kernel
theorem d_Sh_count_28 : decode b_Sh_count 28 = .ok (.getfield 28, 3) := by decide +kernel
theorem d_Sh_count_31 : decode b_Sh_count 31 = .ok (.invokevirtual 112, 3) := by decide +kernel
theorem d_Sh_count_34 : decode b_Sh_count 34 = .ok (.iload_n 1, 1) := by decide +kernel
theorem d_Sh_count_35 : decode b_Sh_count 35 = .ok (.ifCond .ne 13, 3) := by decide +kernel
theorem d_Sh_count_38 : decode b_Sh_count 38 = .ok (.aload_n 0, 1) := by decide +kernel
theorem d_Sh_count_39 : decode b_Sh_count 39 = .ok (.getfield 28, 3) := by decide +kernel
theorem d_Sh_count_42 : decode b_Sh_count 42 = .ok (.invokevirtual 115, 3) := by decide +kernel
theorem d_Sh_count_45 : decode b_Sh_count 45 = .ok (.goto 10, 3) := by decide +kernel
theorem d_Sh_count_48 : decode b_Sh_count 48 = .ok (.aload_n 0, 1) := by decide +kernel
theorem d_Sh_count_49 : decode b_Sh_count 49 = .ok (.getfield 28, 3) := by decide +kernel
theorem d_Sh_count_52 : decode b_Sh_count 52 = .ok (.invokevirtual 119, 3) := by decide +kernel
theorem d_Sh_count_55 : decode b_Sh_count 55 = .ok (.ireturn, 1) := by decide +kernel
theorem d_Sh_digest_0 : decode b_Sh_digest 0 = .ok (.aload_n 0, 1) := by decide +kernel
theorem d_Sh_digest_1 : decode b_Sh_digest 1 = .ok (.getfield 21, 3) := by decide +kernel
theorem d_Sh_digest_4 : decode b_Sh_digest 4 = .ok (.aload_n 0, 1) := by decide +kernel
theorem d_Sh_digest_5 : decode b_Sh_digest 5 = .ok (.getfield 41, 3) := by decide +kernel
theorem d_Sh_digest_8 : decode b_Sh_digest 8 = .ok (.invokevirtual 48, 3) := by decide +kernel
theorem d_Sh_digest_11 : decode b_Sh_digest 11 = .ok (.aload_n 0, 1) := by decide +kernel
theorem d_Sh_digest_12 : decode b_Sh_digest 12 = .ok (.getfield 28, 3) := by decide +kernel
theorem d_Sh_digest_15 : decode b_Sh_digest 15 = .ok (.invokevirtual 112, 3) := by decide +kernel
theorem d_Sh_digest_18 : decode b_Sh_digest 18 = .ok (.aload_n 0, 1) := by decide +kernel
theorem d_Sh_digest_19 : decode b_Sh_digest 19 = .ok (.getfield 28, 3) := by decide +kernel
theorem d_Sh_digest_22 : decode b_Sh_digest 22 = .ok (.invokevirtual 122, 3) := by decide +kernel
theorem d_Sh_digest_25 : decode b_Sh_digest 25 = .ok (.lreturn, 1) := by decide +kernel
theorem d_Sh_collect_0 : decode b_Sh_collect 0 = .ok (.aload_n 0, 1) := by decide +kernel
theorem d_Sh_collect_1 : decode b_Sh_collect 1 = .ok (.getfield 21, 3) := by decide +kernel
theorem d_Sh_collect_4 : decode b_Sh_collect 4 = .ok (.aload_n 0, 1) := by decide +kernel
theorem d_Sh_collect_5 : decode b_Sh_collect 5 = .ok (.getfield 41, 3) := by decide +kernel
theorem d_Sh_collect_8 : decode b_Sh_collect 8 = .ok (.invokevirtual 48, 3) := by decide +kernel
theorem d_Sh_collect_11 : decode b_Sh_collect 11 = .ok (.aload_n 0, 1) := by decide +kernel
theorem d_Sh_collect_12 : decode b_Sh_collect 12 = .ok (.getfield 21, 3) := by decide +kernel
theorem d_Sh_collect_15 : decode b_Sh_collect 15 = .ok (.invokevirtual 63, 3) := by decide +kernel
theorem d_Sh_collect_18 : decode b_Sh_collect 18 = .ok (.aload_n 0, 1) := by decide +kernel
theorem d_Sh_collect_19 : decode b_Sh_collect 19 = .ok (.getfield 12, 3) := by decide +kernel
theorem d_Sh_collect_22 : decode b_Sh_collect 22 = .ok (.invokevirtual 126, 3) := by decide +kernel
theorem d_Sh_collect_25 : decode b_Sh_collect 25 = .ok (.ireturn, 1) := by decide +kernel
theorem d_Sh_check_0 : decode b_Sh_check 0 = .ok (.aload_n 0, 1) := by decide +kernel
theorem d_Sh_check_1 : decode b_Sh_check 1 = .ok (.getfield 21, 3) := by decide +kernel
theorem d_Sh_check_4 : decode b_Sh_check 4 = .ok (.aload_n 0, 1) := by decide +kernel
theorem d_Sh_check_5 : decode b_Sh_check 5 = .ok (.getfield 41, 3) := by decide +kernel
theorem d_Sh_check_8 : decode b_Sh_check 8 = .ok (.invokevirtual 48, 3) := by decide +kernel
theorem d_Sh_check_11 : decode b_Sh_check 11 = .ok (.aload_n 0, 1) := by decide +kernel
theorem d_Sh_check_12 : decode b_Sh_check 12 = .ok (.getfield 37, 3) := by decide +kernel
theorem d_Sh_check_15 : decode b_Sh_check 15 = .ok (.invokevirtual 127, 3) := by decide +kernel
theorem d_Sh_check_18 : decode b_Sh_check 18 = .ok (.ireturn, 1) := by decide +kernel
theorem d_Sh_requireRoot_0 : decode b_Sh_requireRoot 0 = .ok (.iload_n 0, 1) := by decide +kernel
theorem d_Sh_requireRoot_1 : decode b_Sh_requireRoot 1 = .ok (.ifCond .lt 9, 3) := by decide +kernel
theorem d_Sh_requireRoot_4 : decode b_Sh_requireRoot 4 = .ok (.iload_n 0, 1) := by decide +kernel
theorem d_Sh_requireRoot_5 : decode b_Sh_requireRoot 5 = .ok (.bipush 16, 2) := by decide +kernel
theorem d_Sh_requireRoot_7 : decode b_Sh_requireRoot 7 = .ok (.if_icmp .lt 13, 3) := by decide +kernel
theorem d_Sh_requireRoot_10 : decode b_Sh_requireRoot 10 = .ok (.new 130, 3) := by decide +kernel
theorem d_Sh_requireRoot_13 : decode b_Sh_requireRoot 13 = .ok (.dup, 1) := by decide +kernel
theorem d_Sh_requireRoot_14 : decode b_Sh_requireRoot 14 = .ok (.ldc 132, 2) := by decide +kernel
theorem d_Sh_requireRoot_16 : decode b_Sh_requireRoot 16 = .ok (.invokespecial 134, 3) := by decide +kernel
theorem d_Sh_requireRoot_19 : decode b_Sh_requireRoot 19 = .ok (.athrow, 1) := by decide +kernel
theorem d_Sh_requireRoot_20 : decode b_Sh_requireRoot 20 = .ok (.return_, 1) := by decide +kernel
theorem d_Sh_requireWithin_0 : decode b_Sh_requireWithin 0 = .ok (.iload_n 0, 1) := by decide +kernel
theorem d_Sh_requireWithin_1 : decode b_Sh_requireWithin 1 = .ok (.iload_n 1, 1) := by decide +kernel
theorem d_Sh_requireWithin_2 : decode b_Sh_requireWithin 2 = .ok (.if_icmp .lt 8, 3) := by decide +kernel
theorem d_Sh_requireWithin_5 : decode b_Sh_requireWithin 5 = .ok (.iload_n 0, 1) := by decide +kernel
theorem d_Sh_requireWithin_6 : decode b_Sh_requireWithin 6 = .ok (.iload_n 2, 1) := by decide +kernel
theorem d_Sh_requireWithin_7 : decode b_Sh_requireWithin 7 = .ok (.if_icmp .le 13, 3) := by decide +kernel
theorem d_Sh_requireWithin_10 : decode b_Sh_requireWithin 10 = .ok (.new 135, 3) := by decide +kernel
theorem d_Sh_requireWithin_13 : decode b_Sh_requireWithin 13 = .ok (.dup, 1) := by decide +kernel
theorem d_Sh_requireWithin_14 : decode b_Sh_requireWithin 14 = .ok (.ldc 137, 2) := by decide +kernel
theorem d_Sh_requireWithin_16 : decode b_Sh_requireWithin 16 = .ok (.invokespecial 139, 3) := by decide +kernel
theorem d_Sh_requireWithin_19 : decode b_Sh_requireWithin 19 = .ok (.athrow, 1) := by decide +kernel
theorem d_Sh_requireWithin_20 : decode b_Sh_requireWithin 20 = .ok (.return_, 1) := by decide +kernel
theorem d_Sh_rootSlot_0 : decode b_Sh_rootSlot 0 = .ok (.iconst 0, 1) := by decide +kernel
theorem d_Sh_rootSlot_1 : decode b_Sh_rootSlot 1 = .ok (.iload_n 0, 1) := by decide +kernel
theorem d_Sh_rootSlot_2 : decode b_Sh_rootSlot 2 = .ok (.invokestatic 140, 3) := by decide +kernel
theorem d_Sh_rootSlot_5 : decode b_Sh_rootSlot 5 = .ok (.ireturn, 1) := by decide +kernel
theorem d_Sh_slotOf_0 : decode b_Sh_slotOf 0 = .ok (.iload_n 0, 1) := by decide +kernel
theorem d_Sh_slotOf_1 : decode b_Sh_slotOf 1 = .ok (.bipush 16, 2) := by decide +kernel
theorem d_Sh_slotOf_3 : decode b_Sh_slotOf 3 = .ok (.imul, 1) := by decide +kernel
theorem d_Sh_slotOf_4 : decode b_Sh_slotOf 4 = .ok (.iload_n 1, 1) := by decide +kernel
theorem d_Sh_slotOf_5 : decode b_Sh_slotOf 5 = .ok (.iadd, 1) := by decide +kernel
theorem d_Sh_slotOf_6 : decode b_Sh_slotOf 6 = .ok (.ireturn, 1) := by decide +kernel
theorem d_Sh_existingSlot_0 : decode b_Sh_existingSlot 0 = .ok (.aload_n 0, 1) := by decide +kernel
theorem d_Sh_existingSlot_1 : decode b_Sh_existingSlot 1 = .ok (.getfield 12, 3) := by decide +kernel
theorem d_Sh_existingSlot_4 : decode b_Sh_existingSlot 4 = .ok (.iload_n 1, 1) := by decide +kernel
theorem d_Sh_existingSlot_5 : decode b_Sh_existingSlot 5 = .ok (.invokestatic 73, 3) := by decide +kernel
theorem d_Sh_existingSlot_8 : decode b_Sh_existingSlot 8 = .ok (.invokevirtual 98, 3) := by decide +kernel
theorem d_Sh_existingSlot_11 : decode b_Sh_existingSlot 11 = .ok (.istore_n 3, 1) := by decide +kernel
theorem d_Sh_existingSlot_12 : decode b_Sh_existingSlot 12 = .ok (.iload_n 3, 1) := by decide +kernel
theorem d_Sh_existingSlot_13 : decode b_Sh_existingSlot 13 = .ok (.ifCond .eq 19, 3) := by decide +kernel
theorem d_Sh_existingSlot_16 : decode b_Sh_existingSlot 16 = .ok (.iload_n 2, 1) := by decide +kernel
theorem d_Sh_existingSlot_17 : decode b_Sh_existingSlot 17 = .ok (.ifCond .lt 15, 3) := by decide +kernel
theorem d_Sh_existingSlot_20 : decode b_Sh_existingSlot 20 = .ok (.iload_n 2, 1) := by decide +kernel
theorem d_Sh_existingSlot_21 : decode b_Sh_existingSlot 21 = .ok (.aload_n 0, 1) := by decide +kernel
theorem d_Sh_existingSlot_22 : decode b_Sh_existingSlot 22 = .ok (.getfield 12, 3) := by decide +kernel
theorem d_Sh_existingSlot_25 : decode b_Sh_existingSlot 25 = .ok (.iload_n 3, 1) := by decide +kernel
theorem d_Sh_existingSlot_26 : decode b_Sh_existingSlot 26 = .ok (.invokevirtual 101, 3) := by decide +kernel
theorem d_Sh_existingSlot_29 : decode b_Sh_existingSlot 29 = .ok (.if_icmp .lt 13, 3) := by decide +kernel
theorem d_Sh_existingSlot_32 : decode b_Sh_existingSlot 32 = .ok (.new 143, 3) := by decide +kernel
theorem d_Sh_existingSlot_35 : decode b_Sh_existingSlot 35 = .ok (.dup, 1) := by decide +kernel
theorem d_Sh_existingSlot_36 : decode b_Sh_existingSlot 36 = .ok (.ldc 145, 2) := by decide +kernel
theorem d_Sh_existingSlot_38 : decode b_Sh_existingSlot 38 = .ok (.invokespecial 147, 3) := by decide +kernel
theorem d_Sh_existingSlot_41 : decode b_Sh_existingSlot 41 = .ok (.athrow, 1) := by decide +kernel
theorem d_Sh_existingSlot_42 : decode b_Sh_existingSlot 42 = .ok (.iload_n 3, 1) := by decide +kernel
theorem d_Sh_existingSlot_43 : decode b_Sh_existingSlot 43 = .ok (.iload_n 2, 1) := by decide +kernel
theorem d_Sh_existingSlot_44 : decode b_Sh_existingSlot 44 = .ok (.invokestatic 140, 3) := by decide +kernel
theorem d_Sh_existingSlot_47 : decode b_Sh_existingSlot 47 = .ok (.ireturn, 1) := by decide +kernel
theorem d_Mo_init_0 : decode b_Mo_init 0 = .ok (.aload_n 0, 1) := by decide +kernel
theorem d_Mo_init_1 : decode b_Mo_init 1 = .ok (.invokespecial 1, 3) := by decide +kernel
theorem d_Mo_init_4 : decode b_Mo_init 4 = .ok (.aload_n 0, 1) := by decide +kernel
theorem d_Mo_init_5 : decode b_Mo_init 5 = .ok (.sipush 10240, 3) := by decide +kernel
theorem d_Mo_init_8 : decode b_Mo_init 8 = .ok (.newarray .long, 2) := by decide +kernel
theorem d_Mo_init_10 : decode b_Mo_init 10 = .ok (.putfield 9, 3) := by decide +kernel
theorem d_Mo_init_13 : decode b_Mo_init 13 = .ok (.aload_n 0, 1) := by decide +kernel
theorem d_Mo_init_14 : decode b_Mo_init 14 = .ok (.bipush 16, 2) := by decide +kernel
theorem d_Mo_init_16 : decode b_Mo_init 16 = .ok (.newarray .long, 2) := by decide +kernel
theorem d_Mo_init_18 : decode b_Mo_init 18 = .ok (.putfield 13, 3) := by decide +kernel
theorem d_Mo_init_21 : decode b_Mo_init 21 = .ok (.aload_n 0, 1) := by decide +kernel
theorem d_Mo_init_22 : decode b_Mo_init 22 = .ok (.sipush 10240, 3) := by decide +kernel
theorem d_Mo_init_25 : decode b_Mo_init 25 = .ok (.newarray .boolean, 2) := by decide +kernel
theorem d_Mo_init_27 : decode b_Mo_init 27 = .ok (.putfield 16, 3) := by decide +kernel
theorem d_Mo_init_30 : decode b_Mo_init 30 = .ok (.aload_n 0, 1) := by decide +kernel
theorem d_Mo_init_31 : decode b_Mo_init 31 = .ok (.bipush 16, 2) := by decide +kernel
theorem d_Mo_init_33 : decode b_Mo_init 33 = .ok (.newarray .boolean, 2) := by decide +kernel
theorem d_Mo_init_35 : decode b_Mo_init 35 = .ok (.putfield 20, 3) := by decide +kernel
theorem d_Mo_init_38 : decode b_Mo_init 38 = .ok (.aload_n 0, 1) := by decide +kernel
theorem d_Mo_init_39 : decode b_Mo_init 39 = .ok (.sipush 640, 3) := by decide +kernel
theorem d_Mo_init_42 : decode b_Mo_init 42 = .ok (.newarray .boolean, 2) := by decide +kernel
theorem d_Mo_init_44 : decode b_Mo_init 44 = .ok (.putfield 23, 3) := by decide +kernel
theorem d_Mo_init_47 : decode b_Mo_init 47 = .ok (.aload_n 0, 1) := by decide +kernel
theorem d_Mo_init_48 : decode b_Mo_init 48 = .ok (.sipush 640, 3) := by decide +kernel
theorem d_Mo_init_51 : decode b_Mo_init 51 = .ok (.newarray .int, 2) := by decide +kernel
theorem d_Mo_init_53 : decode b_Mo_init 53 = .ok (.putfield 26, 3) := by decide +kernel
theorem d_Mo_init_56 : decode b_Mo_init 56 = .ok (.aload_n 0, 1) := by decide +kernel
theorem d_Mo_init_57 : decode b_Mo_init 57 = .ok (.sipush 640, 3) := by decide +kernel
theorem d_Mo_init_60 : decode b_Mo_init 60 = .ok (.newarray .int, 2) := by decide +kernel
theorem d_Mo_init_62 : decode b_Mo_init 62 = .ok (.putfield 30, 3) := by decide +kernel
theorem d_Mo_init_65 : decode b_Mo_init 65 = .ok (.aload_n 0, 1) := by decide +kernel
theorem d_Mo_init_66 : decode b_Mo_init 66 = .ok (.sipush 640, 3) := by decide +kernel
theorem d_Mo_init_69 : decode b_Mo_init 69 = .ok (.newarray .int, 2) := by decide +kernel
theorem d_Mo_init_71 : decode b_Mo_init 71 = .ok (.putfield 33, 3) := by decide +kernel
theorem d_Mo_init_74 : decode b_Mo_init 74 = .ok (.aload_n 0, 1) := by decide +kernel
theorem d_Mo_init_75 : decode b_Mo_init 75 = .ok (.sipush 640, 3) := by decide +kernel
theorem d_Mo_init_78 : decode b_Mo_init 78 = .ok (.newarray .int, 2) := by decide +kernel
theorem d_Mo_init_80 : decode b_Mo_init 80 = .ok (.putfield 36, 3) := by decide +kernel
theorem d_Mo_init_83 : decode b_Mo_init 83 = .ok (.aload_n 0, 1) := by decide +kernel
theorem d_Mo_init_84 : decode b_Mo_init 84 = .ok (.iconst 3, 1) := by decide +kernel
theorem d_Mo_init_85 : decode b_Mo_init 85 = .ok (.putfield 39, 3) := by decide +kernel
theorem d_Mo_init_88 : decode b_Mo_init 88 = .ok (.return_, 1) := by decide +kernel
theorem d_Mo_thrown_0 : decode b_Mo_thrown 0 = .ok (.aload_n 0, 1) := by decide +kernel
theorem d_Mo_thrown_1 : decode b_Mo_thrown 1 = .ok (.getfield 43, 3) := by decide +kernel
theorem d_Mo_thrown_4 : decode b_Mo_thrown 4 = .ok (.ireturn, 1) := by decide +kernel
theorem d_Mo_isRoot_0 : decode b_Mo_isRoot 0 = .ok (.iload_n 0, 1) := by decide +kernel
theorem d_Mo_isRoot_1 : decode b_Mo_isRoot 1 = .ok (.ifCond .lt 13, 3) := by decide +kernel
theorem d_Mo_isRoot_4 : decode b_Mo_isRoot 4 = .ok (.iload_n 0, 1) := by decide +kernel
theorem d_Mo_isRoot_5 : decode b_Mo_isRoot 5 = .ok (.bipush 16, 2) := by decide +kernel
theorem d_Mo_isRoot_7 : decode b_Mo_isRoot 7 = .ok (.if_icmp .ge 7, 3) := by decide +kernel
theorem d_Mo_isRoot_10 : decode b_Mo_isRoot 10 = .ok (.iconst 1, 1) := by decide +kernel
theorem d_Mo_isRoot_11 : decode b_Mo_isRoot 11 = .ok (.goto 4, 3) := by decide +kernel
theorem d_Mo_isRoot_14 : decode b_Mo_isRoot 14 = .ok (.iconst 0, 1) := by decide +kernel
theorem d_Mo_isRoot_15 : decode b_Mo_isRoot 15 = .ok (.ireturn, 1) := by decide +kernel
theorem d_Mo_reach_0 : decode b_Mo_reach 0 = .ok (.lload_n 1, 1) := by decide +kernel
theorem d_Mo_reach_1 : decode b_Mo_reach 1 = .ok (.l2i, 1) := by decide +kernel
theorem d_Mo_reach_2 : decode b_Mo_reach 2 = .ok (.istore_n 3, 1) := by decide +kernel
theorem d_Mo_reach_3 : decode b_Mo_reach 3 = .ok (.aload_n 0, 1) := by decide +kernel
theorem d_Mo_reach_4 : decode b_Mo_reach 4 = .ok (.getfield 23, 3) := by decide +kernel
theorem d_Mo_reach_7 : decode b_Mo_reach 7 = .ok (.iload_n 3, 1) := by decide +kernel
theorem d_Mo_reach_8 : decode b_Mo_reach 8 = .ok (.baload, 1) := by decide +kernel
theorem d_Mo_reach_9 : decode b_Mo_reach 9 = .ok (.ifCond .eq 4, 3) := by decide +kernel
theorem d_Mo_reach_12 : decode b_Mo_reach 12 = .ok (.return_, 1) := by decide +kernel
theorem d_Mo_reach_13 : decode b_Mo_reach 13 = .ok (.aload_n 0, 1) := by decide +kernel
theorem d_Mo_reach_14 : decode b_Mo_reach 14 = .ok (.getfield 23, 3) := by decide +kernel
theorem d_Mo_reach_17 : decode b_Mo_reach 17 = .ok (.iload_n 3, 1) := by decide +kernel
theorem d_Mo_reach_18 : decode b_Mo_reach 18 = .ok (.iconst 1, 1) := by decide +kernel
theorem d_Mo_reach_19 : decode b_Mo_reach 19 = .ok (.bastore, 1) := by decide +kernel
theorem d_Mo_reach_20 : decode b_Mo_reach 20 = .ok (.aload_n 0, 1) := by decide +kernel
theorem d_Mo_reach_21 : decode b_Mo_reach 21 = .ok (.dup, 1) := by decide +kernel
theorem d_Mo_reach_22 : decode b_Mo_reach 22 = .ok (.getfield 46, 3) := by decide +kernel
theorem d_Mo_reach_25 : decode b_Mo_reach 25 = .ok (.iconst 1, 1) := by decide +kernel
theorem d_Mo_reach_26 : decode b_Mo_reach 26 = .ok (.iadd, 1) := by decide +kernel
theorem d_Mo_reach_27 : decode b_Mo_reach 27 = .ok (.putfield 46, 3) := by decide +kernel
theorem d_Mo_reach_30 : decode b_Mo_reach 30 = .ok (.aload_n 0, 1) := by decide +kernel
theorem d_Mo_reach_31 : decode b_Mo_reach 31 = .ok (.dup, 1) := by decide +kernel
theorem d_Mo_reach_32 : decode b_Mo_reach 32 = .ok (.getfield 49, 3) := by decide +kernel
theorem d_Mo_reach_35 : decode b_Mo_reach 35 = .ok (.aload_n 0, 1) := by decide +kernel
theorem d_Mo_reach_36 : decode b_Mo_reach 36 = .ok (.getfield 26, 3) := by decide +kernel
theorem d_Mo_reach_39 : decode b_Mo_reach 39 = .ok (.iload_n 3, 1) := by decide +kernel
theorem d_Mo_reach_40 : decode b_Mo_reach 40 = .ok (.iaload, 1) := by decide +kernel
theorem d_Mo_reach_41 : decode b_Mo_reach 41 = .ok (.iconst 2, 1) := by decide +kernel
theorem d_Mo_reach_42 : decode b_Mo_reach 42 = .ok (.iadd, 1) := by decide +kernel
theorem d_Mo_reach_43 : decode b_Mo_reach 43 = .ok (.iadd, 1) := by decide +kernel
theorem d_Mo_reach_44 : decode b_Mo_reach 44 = .ok (.putfield 49, 3) := by decide +kernel
theorem d_Mo_reach_47 : decode b_Mo_reach 47 = .ok (.aload_n 0, 1) := by decide +kernel
theorem d_Mo_reach_48 : decode b_Mo_reach 48 = .ok (.getfield 30, 3) := by decide +kernel
theorem d_Mo_reach_51 : decode b_Mo_reach 51 = .ok (.aload_n 0, 1) := by decide +kernel
theorem d_Mo_reach_52 : decode b_Mo_reach 52 = .ok (.getfield 52, 3) := by decide +kernel
theorem d_Mo_reach_55 : decode b_Mo_reach 55 = .ok (.iload_n 3, 1) := by decide +kernel
theorem d_Mo_reach_56 : decode b_Mo_reach 56 = .ok (.iastore, 1) := by decide +kernel
theorem d_Mo_reach_57 : decode b_Mo_reach 57 = .ok (.aload_n 0, 1) := by decide +kernel
theorem d_Mo_reach_58 : decode b_Mo_reach 58 = .ok (.dup, 1) := by decide +kernel
theorem d_Mo_reach_59 : decode b_Mo_reach 59 = .ok (.getfield 52, 3) := by decide +kernel
theorem d_Mo_reach_62 : decode b_Mo_reach 62 = .ok (.iconst 1, 1) := by decide +kernel
theorem d_Mo_reach_63 : decode b_Mo_reach 63 = .ok (.iadd, 1) := by decide +kernel
theorem d_Mo_reach_64 : decode b_Mo_reach 64 = .ok (.putfield 52, 3) := by decide +kernel
theorem d_Mo_reach_67 : decode b_Mo_reach 67 = .ok (.return_, 1) := by decide +kernel
theorem d_Mo_reachAll_0 : decode b_Mo_reachAll 0 = .ok (.iconst 0, 1) := by decide +kernel
theorem d_Mo_reachAll_1 : decode b_Mo_reachAll 1 = .ok (.istore_n 1, 1) := by decide +kernel
theorem d_Mo_reachAll_2 : decode b_Mo_reachAll 2 = .ok (.iload_n 1, 1) := by decide +kernel
theorem d_Mo_reachAll_3 : decode b_Mo_reachAll 3 = .ok (.sipush 640, 3) := by decide +kernel
theorem d_Mo_reachAll_6 : decode b_Mo_reachAll 6 = .ok (.if_icmp .ge 16, 3) := by decide +kernel
theorem d_Mo_reachAll_9 : decode b_Mo_reachAll 9 = .ok (.aload_n 0, 1) := by decide +kernel
theorem d_Mo_reachAll_10 : decode b_Mo_reachAll 10 = .ok (.getfield 23, 3) := by decide +kernel
theorem d_Mo_reachAll_13 : decode b_Mo_reachAll 13 = .ok (.iload_n 1, 1) := by decide +kernel
theorem d_Mo_reachAll_14 : decode b_Mo_reachAll 14 = .ok (.iconst 0, 1) := by decide +kernel
theorem d_Mo_reachAll_15 : decode b_Mo_reachAll 15 = .ok (.bastore, 1) := by decide +kernel
theorem d_Mo_reachAll_16 : decode b_Mo_reachAll 16 = .ok (.iinc 1 1, 3) := by decide +kernel
theorem d_Mo_reachAll_19 : decode b_Mo_reachAll 19 = .ok (.goto (-17), 3) := by decide +kernel
theorem d_Mo_reachAll_22 : decode b_Mo_reachAll 22 = .ok (.aload_n 0, 1) := by decide +kernel
theorem d_Mo_reachAll_23 : decode b_Mo_reachAll 23 = .ok (.iconst 0, 1) := by decide +kernel
theorem d_Mo_reachAll_24 : decode b_Mo_reachAll 24 = .ok (.putfield 46, 3) := by decide +kernel
theorem d_Mo_reachAll_27 : decode b_Mo_reachAll 27 = .ok (.aload_n 0, 1) := by decide +kernel
theorem d_Mo_reachAll_28 : decode b_Mo_reachAll 28 = .ok (.iconst 0, 1) := by decide +kernel
theorem d_Mo_reachAll_29 : decode b_Mo_reachAll 29 = .ok (.putfield 49, 3) := by decide +kernel
theorem d_Mo_reachAll_32 : decode b_Mo_reachAll 32 = .ok (.aload_n 0, 1) := by decide +kernel
theorem d_Mo_reachAll_33 : decode b_Mo_reachAll 33 = .ok (.iconst 0, 1) := by decide +kernel
theorem d_Mo_reachAll_34 : decode b_Mo_reachAll 34 = .ok (.putfield 52, 3) := by decide +kernel
theorem d_Mo_reachAll_37 : decode b_Mo_reachAll 37 = .ok (.iconst 0, 1) := by decide +kernel
theorem d_Mo_reachAll_38 : decode b_Mo_reachAll 38 = .ok (.istore_n 1, 1) := by decide +kernel
theorem d_Mo_reachAll_39 : decode b_Mo_reachAll 39 = .ok (.iload_n 1, 1) := by decide +kernel
theorem d_Mo_reachAll_40 : decode b_Mo_reachAll 40 = .ok (.bipush 16, 2) := by decide +kernel
theorem d_Mo_reachAll_42 : decode b_Mo_reachAll 42 = .ok (.if_icmp .ge 28, 3) := by decide +kernel
theorem d_Mo_reachAll_45 : decode b_Mo_reachAll 45 = .ok (.aload_n 0, 1) := by decide +kernel
theorem d_Mo_reachAll_46 : decode b_Mo_reachAll 46 = .ok (.getfield 20, 3) := by decide +kernel
theorem d_Mo_reachAll_49 : decode b_Mo_reachAll 49 = .ok (.iload_n 1, 1) := by decide +kernel
theorem d_Mo_reachAll_50 : decode b_Mo_reachAll 50 = .ok (.baload, 1) := by decide +kernel
theorem d_Mo_reachAll_51 : decode b_Mo_reachAll 51 = .ok (.ifCond .eq 13, 3) := by decide +kernel
theorem d_Mo_reachAll_54 : decode b_Mo_reachAll 54 = .ok (.aload_n 0, 1) := by decide +kernel
theorem d_Mo_reachAll_55 : decode b_Mo_reachAll 55 = .ok (.aload_n 0, 1) := by decide +kernel
theorem d_Mo_reachAll_56 : decode b_Mo_reachAll 56 = .ok (.getfield 13, 3) := by decide +kernel
theorem d_Mo_reachAll_59 : decode b_Mo_reachAll 59 = .ok (.iload_n 1, 1) := by decide +kernel
theorem d_Mo_reachAll_60 : decode b_Mo_reachAll 60 = .ok (.laload, 1) := by decide +kernel
theorem d_Mo_reachAll_61 : decode b_Mo_reachAll 61 = .ok (.invokevirtual 55, 3) := by decide +kernel
theorem d_Mo_reachAll_64 : decode b_Mo_reachAll 64 = .ok (.iinc 1 1, 3) := by decide +kernel
theorem d_Mo_reachAll_67 : decode b_Mo_reachAll 67 = .ok (.goto (-28), 3) := by decide +kernel
theorem d_Mo_reachAll_70 : decode b_Mo_reachAll 70 = .ok (.aload_n 0, 1) := by decide +kernel
theorem d_Mo_reachAll_71 : decode b_Mo_reachAll 71 = .ok (.getfield 52, 3) := by decide +kernel
theorem d_Mo_reachAll_74 : decode b_Mo_reachAll 74 = .ok (.ifCond .le 71, 3) := by decide +kernel
theorem d_Mo_reachAll_77 : decode b_Mo_reachAll 77 = .ok (.aload_n 0, 1) := by decide +kernel
theorem d_Mo_reachAll_78 : decode b_Mo_reachAll 78 = .ok (.dup, 1) := by decide +kernel
theorem d_Mo_reachAll_79 : decode b_Mo_reachAll 79 = .ok (.getfield 52, 3) := by decide +kernel
theorem d_Mo_reachAll_82 : decode b_Mo_reachAll 82 = .ok (.iconst 1, 1) := by decide +kernel
theorem d_Mo_reachAll_83 : decode b_Mo_reachAll 83 = .ok (.isub, 1) := by decide +kernel
theorem d_Mo_reachAll_84 : decode b_Mo_reachAll 84 = .ok (.putfield 52, 3) := by decide +kernel
theorem d_Mo_reachAll_87 : decode b_Mo_reachAll 87 = .ok (.aload_n 0, 1) := by decide +kernel
theorem d_Mo_reachAll_88 : decode b_Mo_reachAll 88 = .ok (.getfield 30, 3) := by decide +kernel
theorem d_Mo_reachAll_91 : decode b_Mo_reachAll 91 = .ok (.aload_n 0, 1) := by decide +kernel
theorem d_Mo_reachAll_92 : decode b_Mo_reachAll 92 = .ok (.getfield 52, 3) := by decide +kernel
theorem d_Mo_reachAll_95 : decode b_Mo_reachAll 95 = .ok (.iaload, 1) := by decide +kernel
theorem d_Mo_reachAll_96 : decode b_Mo_reachAll 96 = .ok (.istore_n 1, 1) := by decide +kernel
theorem d_Mo_reachAll_97 : decode b_Mo_reachAll 97 = .ok (.bipush 16, 2) := by decide +kernel
theorem d_Mo_reachAll_99 : decode b_Mo_reachAll 99 = .ok (.iload_n 1, 1) := by decide +kernel
theorem d_Mo_reachAll_100 : decode b_Mo_reachAll 100 = .ok (.imul, 1) := by decide +kernel
theorem d_Mo_reachAll_101 : decode b_Mo_reachAll 101 = .ok (.istore_n 2, 1) := by decide +kernel
theorem d_Mo_reachAll_102 : decode b_Mo_reachAll 102 = .ok (.iload_n 2, 1) := by decide +kernel
theorem d_Mo_reachAll_103 : decode b_Mo_reachAll 103 = .ok (.bipush 16, 2) := by decide +kernel
theorem d_Mo_reachAll_105 : decode b_Mo_reachAll 105 = .ok (.iload_n 1, 1) := by decide +kernel
theorem d_Mo_reachAll_106 : decode b_Mo_reachAll 106 = .ok (.imul, 1) := by decide +kernel
theorem d_Mo_reachAll_107 : decode b_Mo_reachAll 107 = .ok (.aload_n 0, 1) := by decide +kernel
theorem d_Mo_reachAll_108 : decode b_Mo_reachAll 108 = .ok (.getfield 26, 3) := by decide +kernel
theorem d_Mo_reachAll_111 : decode b_Mo_reachAll 111 = .ok (.iload_n 1, 1) := by decide +kernel
theorem d_Mo_reachAll_112 : decode b_Mo_reachAll 112 = .ok (.iaload, 1) := by decide +kernel
theorem d_Mo_reachAll_113 : decode b_Mo_reachAll 113 = .ok (.iadd, 1) := by decide +kernel
theorem d_Mo_reachAll_114 : decode b_Mo_reachAll 114 = .ok (.if_icmp .ge 28, 3) := by decide +kernel
theorem d_Mo_reachAll_117 : decode b_Mo_reachAll 117 = .ok (.aload_n 0, 1) := by decide +kernel
theorem d_Mo_reachAll_118 : decode b_Mo_reachAll 118 = .ok (.getfield 16, 3) := by decide +kernel
theorem d_Mo_reachAll_121 : decode b_Mo_reachAll 121 = .ok (.iload_n 2, 1) := by decide +kernel
theorem d_Mo_reachAll_122 : decode b_Mo_reachAll 122 = .ok (.baload, 1) := by decide +kernel
theorem d_Mo_reachAll_123 : decode b_Mo_reachAll 123 = .ok (.ifCond .eq 13, 3) := by decide +kernel
theorem d_Mo_reachAll_126 : decode b_Mo_reachAll 126 = .ok (.aload_n 0, 1) := by decide +kernel
theorem d_Mo_reachAll_127 : decode b_Mo_reachAll 127 = .ok (.aload_n 0, 1) := by decide +kernel
theorem d_Mo_reachAll_128 : decode b_Mo_reachAll 128 = .ok (.getfield 9, 3) := by decide +kernel
theorem d_Mo_reachAll_131 : decode b_Mo_reachAll 131 = .ok (.iload_n 2, 1) := by decide +kernel
theorem d_Mo_reachAll_132 : decode b_Mo_reachAll 132 = .ok (.laload, 1) := by decide +kernel
theorem d_Mo_reachAll_133 : decode b_Mo_reachAll 133 = .ok (.invokevirtual 55, 3) := by decide +kernel
theorem d_Mo_reachAll_136 : decode b_Mo_reachAll 136 = .ok (.iinc 2 1, 3) := by decide +kernel
theorem d_Mo_reachAll_139 : decode b_Mo_reachAll 139 = .ok (.goto (-37), 3) := by decide +kernel
theorem d_Mo_reachAll_142 : decode b_Mo_reachAll 142 = .ok (.goto (-72), 3) := by decide +kernel
theorem d_Mo_reachAll_145 : decode b_Mo_reachAll 145 = .ok (.return_, 1) := by decide +kernel
theorem d_Mo_tuple_0 : decode b_Mo_tuple 0 = .ok (.aload_n 0, 1) := by decide +kernel
theorem d_Mo_tuple_1 : decode b_Mo_tuple 1 = .ok (.iload_n 1, 1) := by decide +kernel
theorem d_Mo_tuple_2 : decode b_Mo_tuple 2 = .ok (.invokestatic 59, 3) := by decide +kernel
theorem d_Mo_tuple_5 : decode b_Mo_tuple 5 = .ok (.ifCond .ne 7, 3) := by decide +kernel
theorem d_Mo_tuple_8 : decode b_Mo_tuple 8 = .ok (.iconst 1, 1) := by decide +kernel
theorem d_Mo_tuple_9 : decode b_Mo_tuple 9 = .ok (.goto 18, 3) := by decide +kernel
theorem d_Mo_tuple_12 : decode b_Mo_tuple 12 = .ok (.iload_n 2, 1) := by decide +kernel
theorem d_Mo_tuple_13 : decode b_Mo_tuple 13 = .ok (.ifCond .lt 9, 3) := by decide +kernel
theorem d_Mo_tuple_16 : decode b_Mo_tuple 16 = .ok (.iload_n 2, 1) := by decide +kernel
theorem d_Mo_tuple_17 : decode b_Mo_tuple 17 = .ok (.bipush 16, 2) := by decide +kernel
theorem d_Mo_tuple_19 : decode b_Mo_tuple 19 = .ok (.if_icmp .le 7, 3) := by decide +kernel
theorem d_Mo_tuple_22 : decode b_Mo_tuple 22 = .ok (.iconst 2, 1) := by decide +kernel
theorem d_Mo_tuple_23 : decode b_Mo_tuple 23 = .ok (.goto 4, 3) := by decide +kernel
theorem d_Mo_tuple_26 : decode b_Mo_tuple 26 = .ok (.iconst 0, 1) := by decide +kernel
theorem d_Mo_tuple_27 : decode b_Mo_tuple 27 = .ok (.putfield 43, 3) := by decide +kernel
theorem d_Mo_tuple_30 : decode b_Mo_tuple 30 = .ok (.aload_n 0, 1) := by decide +kernel
theorem d_Mo_tuple_31 : decode b_Mo_tuple 31 = .ok (.getfield 43, 3) := by decide +kernel
theorem d_Mo_tuple_34 : decode b_Mo_tuple 34 = .ok (.ifCond .le 5, 3) := by decide +kernel
theorem d_Mo_tuple_37 : decode b_Mo_tuple 37 = .ok (.iconst 0, 1) := by decide +kernel
theorem d_Mo_tuple_38 : decode b_Mo_tuple 38 = .ok (.ireturn, 1) := by decide +kernel
theorem d_Mo_tuple_39 : decode b_Mo_tuple 39 = .ok (.aload_n 0, 1) := by decide +kernel
theorem d_Mo_tuple_40 : decode b_Mo_tuple 40 = .ok (.invokevirtual 63, 3) := by decide +kernel
theorem d_Mo_tuple_43 : decode b_Mo_tuple 43 = .ok (.aload_n 0, 1) := by decide +kernel
theorem d_Mo_tuple_44 : decode b_Mo_tuple 44 = .ok (.getfield 49, 3) := by decide +kernel
theorem d_Mo_tuple_47 : decode b_Mo_tuple 47 = .ok (.iload_n 2, 1) := by decide +kernel
theorem d_Mo_tuple_48 : decode b_Mo_tuple 48 = .ok (.iadd, 1) := by decide +kernel
theorem d_Mo_tuple_49 : decode b_Mo_tuple 49 = .ok (.iconst 2, 1) := by decide +kernel
theorem d_Mo_tuple_50 : decode b_Mo_tuple 50 = .ok (.iadd, 1) := by decide +kernel
theorem d_Mo_tuple_51 : decode b_Mo_tuple 51 = .ok (.sipush 1200, 3) := by decide +kernel
theorem d_Mo_tuple_54 : decode b_Mo_tuple 54 = .ok (.if_icmp .le 10, 3) := by decide +kernel
theorem d_Mo_tuple_57 : decode b_Mo_tuple 57 = .ok (.aload_n 0, 1) := by decide +kernel
theorem d_Mo_tuple_58 : decode b_Mo_tuple 58 = .ok (.iconst 3, 1) := by decide +kernel
theorem d_Mo_tuple_59 : decode b_Mo_tuple 59 = .ok (.putfield 43, 3) := by decide +kernel
theorem d_Mo_tuple_62 : decode b_Mo_tuple 62 = .ok (.iconst 0, 1) := by decide +kernel
theorem d_Mo_tuple_63 : decode b_Mo_tuple 63 = .ok (.ireturn, 1) := by decide +kernel
theorem d_Mo_tuple_64 : decode b_Mo_tuple 64 = .ok (.iconst 0, 1) := by decide +kernel
theorem d_Mo_tuple_65 : decode b_Mo_tuple 65 = .ok (.istore_n 3, 1) := by decide +kernel
theorem d_Mo_tuple_66 : decode b_Mo_tuple 66 = .ok (.aload_n 0, 1) := by decide +kernel
theorem d_Mo_tuple_67 : decode b_Mo_tuple 67 = .ok (.getfield 23, 3) := by decide +kernel
theorem d_Mo_tuple_70 : decode b_Mo_tuple 70 = .ok (.iload_n 3, 1) := by decide +kernel
theorem d_Mo_tuple_71 : decode b_Mo_tuple 71 = .ok (.baload, 1) := by decide +kernel
theorem d_Mo_tuple_72 : decode b_Mo_tuple 72 = .ok (.ifCond .eq 9, 3) := by decide +kernel
theorem d_Mo_tuple_75 : decode b_Mo_tuple 75 = .ok (.iinc 3 1, 3) := by decide +kernel
theorem d_Mo_tuple_78 : decode b_Mo_tuple 78 = .ok (.goto (-12), 3) := by decide +kernel
theorem d_Mo_tuple_81 : decode b_Mo_tuple 81 = .ok (.aload_n 0, 1) := by decide +kernel
theorem d_Mo_tuple_82 : decode b_Mo_tuple 82 = .ok (.getfield 26, 3) := by decide +kernel
theorem d_Mo_tuple_85 : decode b_Mo_tuple 85 = .ok (.iload_n 3, 1) := by decide +kernel
theorem d_Mo_tuple_86 : decode b_Mo_tuple 86 = .ok (.iload_n 2, 1) := by decide +kernel
theorem d_Mo_tuple_87 : decode b_Mo_tuple 87 = .ok (.iastore, 1) := by decide +kernel
theorem d_Mo_tuple_88 : decode b_Mo_tuple 88 = .ok (.bipush 16, 2) := by decide +kernel
theorem d_Mo_tuple_90 : decode b_Mo_tuple 90 = .ok (.iload_n 3, 1) := by decide +kernel
theorem d_Mo_tuple_91 : decode b_Mo_tuple 91 = .ok (.imul, 1) := by decide +kernel
theorem d_Mo_tuple_92 : decode b_Mo_tuple 92 = .ok (.istore 4, 2) := by decide +kernel
theorem d_Mo_tuple_94 : decode b_Mo_tuple 94 = .ok (.iload 4, 2) := by decide +kernel
theorem d_Mo_tuple_96 : decode b_Mo_tuple 96 = .ok (.bipush 16, 2) := by decide +kernel
theorem d_Mo_tuple_98 : decode b_Mo_tuple 98 = .ok (.iload_n 3, 1) := by decide +kernel
theorem d_Mo_tuple_99 : decode b_Mo_tuple 99 = .ok (.imul, 1) := by decide +kernel
theorem d_Mo_tuple_100 : decode b_Mo_tuple 100 = .ok (.bipush 16, 2) := by decide +kernel
theorem d_Mo_tuple_102 : decode b_Mo_tuple 102 = .ok (.iadd, 1) := by decide +kernel
theorem d_Mo_tuple_103 : decode b_Mo_tuple 103 = .ok (.if_icmp .ge 25, 3) := by decide +kernel
theorem d_Mo_tuple_106 : decode b_Mo_tuple 106 = .ok (.aload_n 0, 1) := by decide +kernel
theorem d_Mo_tuple_107 : decode b_Mo_tuple 107 = .ok (.getfield 9, 3) := by decide +kernel
theorem d_Mo_tuple_110 : decode b_Mo_tuple 110 = .ok (.iload 4, 2) := by decide +kernel
theorem d_Mo_tuple_112 : decode b_Mo_tuple 112 = .ok (.lconst 0, 1) := by decide +kernel
theorem d_Mo_tuple_113 : decode b_Mo_tuple 113 = .ok (.lastore, 1) := by decide +kernel
theorem d_Mo_tuple_114 : decode b_Mo_tuple 114 = .ok (.aload_n 0, 1) := by decide +kernel
theorem d_Mo_tuple_115 : decode b_Mo_tuple 115 = .ok (.getfield 16, 3) := by decide +kernel
theorem d_Mo_tuple_118 : decode b_Mo_tuple 118 = .ok (.iload 4, 2) := by decide +kernel
theorem d_Mo_tuple_120 : decode b_Mo_tuple 120 = .ok (.iconst 0, 1) := by decide +kernel
theorem d_Mo_tuple_121 : decode b_Mo_tuple 121 = .ok (.bastore, 1) := by decide +kernel
theorem d_Mo_tuple_122 : decode b_Mo_tuple 122 = .ok (.iinc 4 1, 3) := by decide +kernel
theorem d_Mo_tuple_125 : decode b_Mo_tuple 125 = .ok (.goto (-31), 3) := by decide +kernel
theorem d_Mo_tuple_128 : decode b_Mo_tuple 128 = .ok (.aload_n 0, 1) := by decide +kernel
theorem d_Mo_tuple_129 : decode b_Mo_tuple 129 = .ok (.getfield 13, 3) := by decide +kernel
theorem d_Mo_tuple_132 : decode b_Mo_tuple 132 = .ok (.iload_n 1, 1) := by decide +kernel
theorem d_Mo_tuple_133 : decode b_Mo_tuple 133 = .ok (.iload_n 3, 1) := by decide +kernel
theorem d_Mo_tuple_134 : decode b_Mo_tuple 134 = .ok (.i2l, 1) := by decide +kernel
theorem d_Mo_tuple_135 : decode b_Mo_tuple 135 = .ok (.lastore, 1) := by decide +kernel
theorem d_Mo_tuple_136 : decode b_Mo_tuple 136 = .ok (.aload_n 0, 1) := by decide +kernel
theorem d_Mo_tuple_137 : decode b_Mo_tuple 137 = .ok (.getfield 20, 3) := by decide +kernel
theorem d_Mo_tuple_140 : decode b_Mo_tuple 140 = .ok (.iload_n 1, 1) := by decide +kernel
theorem d_Mo_tuple_141 : decode b_Mo_tuple 141 = .ok (.iconst 1, 1) := by decide +kernel
theorem d_Mo_tuple_142 : decode b_Mo_tuple 142 = .ok (.bastore, 1) := by decide +kernel
theorem d_Mo_tuple_143 : decode b_Mo_tuple 143 = .ok (.aload_n 0, 1) := by decide +kernel
theorem d_Mo_tuple_144 : decode b_Mo_tuple 144 = .ok (.dup, 1) := by decide +kernel
theorem d_Mo_tuple_145 : decode b_Mo_tuple 145 = .ok (.getfield 66, 3) := by decide +kernel
theorem d_Mo_tuple_148 : decode b_Mo_tuple 148 = .ok (.iconst 1, 1) := by decide +kernel
theorem d_Mo_tuple_149 : decode b_Mo_tuple 149 = .ok (.iadd, 1) := by decide +kernel
theorem d_Mo_tuple_150 : decode b_Mo_tuple 150 = .ok (.putfield 66, 3) := by decide +kernel
theorem d_Mo_tuple_153 : decode b_Mo_tuple 153 = .ok (.aload_n 0, 1) := by decide +kernel
theorem d_Mo_tuple_154 : decode b_Mo_tuple 154 = .ok (.getfield 66, 3) := by decide +kernel
theorem d_Mo_tuple_157 : decode b_Mo_tuple 157 = .ok (.ireturn, 1) := by decide +kernel
theorem d_Mo_number_0 : decode b_Mo_number 0 = .ok (.aload_n 0, 1) := by decide +kernel
theorem d_Mo_number_1 : decode b_Mo_number 1 = .ok (.iload_n 1, 1) := by decide +kernel
theorem d_Mo_number_2 : decode b_Mo_number 2 = .ok (.invokestatic 59, 3) := by decide +kernel
theorem d_Mo_number_5 : decode b_Mo_number 5 = .ok (.ifCond .eq 7, 3) := by decide +kernel
theorem d_Mo_number_8 : decode b_Mo_number 8 = .ok (.iconst 0, 1) := by decide +kernel
theorem d_Mo_number_9 : decode b_Mo_number 9 = .ok (.goto 4, 3) := by decide +kernel
theorem d_Mo_number_12 : decode b_Mo_number 12 = .ok (.iconst 1, 1) := by decide +kernel
theorem d_Mo_number_13 : decode b_Mo_number 13 = .ok (.putfield 43, 3) := by decide +kernel
theorem d_Mo_number_16 : decode b_Mo_number 16 = .ok (.aload_n 0, 1) := by decide +kernel
theorem d_Mo_number_17 : decode b_Mo_number 17 = .ok (.getfield 43, 3) := by decide +kernel
theorem d_Mo_number_20 : decode b_Mo_number 20 = .ok (.ifCond .le 4, 3) := by decide +kernel
theorem d_Mo_number_23 : decode b_Mo_number 23 = .ok (.return_, 1) := by decide +kernel
theorem d_Mo_number_24 : decode b_Mo_number 24 = .ok (.aload_n 0, 1) := by decide +kernel
theorem d_Mo_number_25 : decode b_Mo_number 25 = .ok (.getfield 13, 3) := by decide +kernel
theorem d_Mo_number_28 : decode b_Mo_number 28 = .ok (.iload_n 1, 1) := by decide +kernel
theorem d_Mo_number_29 : decode b_Mo_number 29 = .ok (.lload_n 2, 1) := by decide +kernel
theorem d_Mo_number_30 : decode b_Mo_number 30 = .ok (.lastore, 1) := by decide +kernel
theorem d_Mo_number_31 : decode b_Mo_number 31 = .ok (.aload_n 0, 1) := by decide +kernel
theorem d_Mo_number_32 : decode b_Mo_number 32 = .ok (.getfield 20, 3) := by decide +kernel
theorem d_Mo_number_35 : decode b_Mo_number 35 = .ok (.iload_n 1, 1) := by decide +kernel
theorem d_Mo_number_36 : decode b_Mo_number 36 = .ok (.iconst 0, 1) := by decide +kernel
theorem d_Mo_number_37 : decode b_Mo_number 37 = .ok (.bastore, 1) := by decide +kernel
theorem d_Mo_number_38 : decode b_Mo_number 38 = .ok (.return_, 1) := by decide +kernel
theorem d_Mo_copy_0 : decode b_Mo_copy 0 = .ok (.aload_n 0, 1) := by decide +kernel
theorem d_Mo_copy_1 : decode b_Mo_copy 1 = .ok (.iload_n 1, 1) := by decide +kernel
theorem d_Mo_copy_2 : decode b_Mo_copy 2 = .ok (.invokestatic 59, 3) := by decide +kernel
theorem d_Mo_copy_5 : decode b_Mo_copy 5 = .ok (.ifCond .eq 14, 3) := by decide +kernel
theorem d_Mo_copy_8 : decode b_Mo_copy 8 = .ok (.iload_n 2, 1) := by decide +kernel
theorem d_Mo_copy_9 : decode b_Mo_copy 9 = .ok (.invokestatic 59, 3) := by decide +kernel
theorem d_Mo_copy_12 : decode b_Mo_copy 12 = .ok (.ifCond .eq 7, 3) := by decide +kernel
theorem d_Mo_copy_15 : decode b_Mo_copy 15 = .ok (.iconst 0, 1) := by decide +kernel
theorem d_Mo_copy_16 : decode b_Mo_copy 16 = .ok (.goto 4, 3) := by decide +kernel
theorem d_Mo_copy_19 : decode b_Mo_copy 19 = .ok (.iconst 1, 1) := by decide +kernel
theorem d_Mo_copy_20 : decode b_Mo_copy 20 = .ok (.putfield 43, 3) := by decide +kernel
theorem d_Mo_copy_23 : decode b_Mo_copy 23 = .ok (.aload_n 0, 1) := by decide +kernel
theorem d_Mo_copy_24 : decode b_Mo_copy 24 = .ok (.getfield 43, 3) := by decide +kernel
theorem d_Mo_copy_27 : decode b_Mo_copy 27 = .ok (.ifCond .le 4, 3) := by decide +kernel
theorem d_Mo_copy_30 : decode b_Mo_copy 30 = .ok (.return_, 1) := by decide +kernel
theorem d_Mo_copy_31 : decode b_Mo_copy 31 = .ok (.aload_n 0, 1) := by decide +kernel
theorem d_Mo_copy_32 : decode b_Mo_copy 32 = .ok (.getfield 13, 3) := by decide +kernel
theorem d_Mo_copy_35 : decode b_Mo_copy 35 = .ok (.iload_n 1, 1) := by decide +kernel
theorem d_Mo_copy_36 : decode b_Mo_copy 36 = .ok (.aload_n 0, 1) := by decide +kernel
theorem d_Mo_copy_37 : decode b_Mo_copy 37 = .ok (.getfield 13, 3) := by decide +kernel
theorem d_Mo_copy_40 : decode b_Mo_copy 40 = .ok (.iload_n 2, 1) := by decide +kernel
theorem d_Mo_copy_41 : decode b_Mo_copy 41 = .ok (.laload, 1) := by decide +kernel
theorem d_Mo_copy_42 : decode b_Mo_copy 42 = .ok (.lastore, 1) := by decide +kernel
theorem d_Mo_copy_43 : decode b_Mo_copy 43 = .ok (.aload_n 0, 1) := by decide +kernel
theorem d_Mo_copy_44 : decode b_Mo_copy 44 = .ok (.getfield 20, 3) := by decide +kernel
theorem d_Mo_copy_47 : decode b_Mo_copy 47 = .ok (.iload_n 1, 1) := by decide +kernel
theorem d_Mo_copy_48 : decode b_Mo_copy 48 = .ok (.aload_n 0, 1) := by decide +kernel
theorem d_Mo_copy_49 : decode b_Mo_copy 49 = .ok (.getfield 20, 3) := by decide +kernel
theorem d_Mo_copy_52 : decode b_Mo_copy 52 = .ok (.iload_n 2, 1) := by decide +kernel
theorem d_Mo_copy_53 : decode b_Mo_copy 53 = .ok (.baload, 1) := by decide +kernel
theorem d_Mo_copy_54 : decode b_Mo_copy 54 = .ok (.bastore, 1) := by decide +kernel
theorem d_Mo_copy_55 : decode b_Mo_copy 55 = .ok (.return_, 1) := by decide +kernel
theorem d_Mo_place_0 : decode b_Mo_place 0 = .ok (.aload_n 0, 1) := by decide +kernel
theorem d_Mo_place_1 : decode b_Mo_place 1 = .ok (.iload_n 1, 1) := by decide +kernel
theorem d_Mo_place_2 : decode b_Mo_place 2 = .ok (.invokestatic 59, 3) := by decide +kernel
theorem d_Mo_place_5 : decode b_Mo_place 5 = .ok (.ifCond .eq 10, 3) := by decide +kernel
theorem d_Mo_place_8 : decode b_Mo_place 8 = .ok (.iload_n 2, 1) := by decide +kernel
theorem d_Mo_place_9 : decode b_Mo_place 9 = .ok (.invokestatic 59, 3) := by decide +kernel
theorem d_Mo_place_12 : decode b_Mo_place 12 = .ok (.ifCond .ne 7, 3) := by decide +kernel
theorem d_Mo_place_15 : decode b_Mo_place 15 = .ok (.iconst 1, 1) := by decide +kernel
theorem d_Mo_place_16 : decode b_Mo_place 16 = .ok (.goto 37, 3) := by decide +kernel
