theorem d_Wa_goOn_40 : decode b_Wa_goOn 40 = .ok (.aload_n 0, 1) := by decide +kernel
theorem d_Wa_goOn_41 : decode b_Wa_goOn 41 = .ok (.getfield 50, 3) := by decide +kernel
theorem d_Wa_goOn_44 : decode b_Wa_goOn 44 = .ok (.iconst 1, 1) := by decide +kernel
theorem d_Wa_goOn_45 : decode b_Wa_goOn 45 = .ok (.isub, 1) := by decide +kernel
theorem d_Wa_goOn_46 : decode b_Wa_goOn 46 = .ok (.iload_n 2, 1) := by decide +kernel
theorem d_Wa_goOn_47 : decode b_Wa_goOn 47 = .ok (.iconst 1, 1) := by decide +kernel
theorem d_Wa_goOn_48 : decode b_Wa_goOn 48 = .ok (.iadd, 1) := by decide +kernel
theorem d_Wa_goOn_49 : decode b_Wa_goOn 49 = .ok (.iastore, 1) := by decide +kernel
theorem d_Wa_goOn_50 : decode b_Wa_goOn 50 = .ok (.aload_n 0, 1) := by decide +kernel
theorem d_Wa_goOn_51 : decode b_Wa_goOn 51 = .ok (.iload_n 1, 1) := by decide +kernel
theorem d_Wa_goOn_52 : decode b_Wa_goOn 52 = .ok (.iload_n 2, 1) := by decide +kernel
theorem d_Wa_goOn_53 : decode b_Wa_goOn 53 = .ok (.invokestatic 64, 3) := by decide +kernel
theorem d_Wa_goOn_56 : decode b_Wa_goOn 56 = .ok (.invokevirtual 68, 3) := by decide +kernel
theorem d_Wa_goOn_59 : decode b_Wa_goOn 59 = .ok (.goto 13, 3) := by decide +kernel
theorem d_Wa_goOn_62 : decode b_Wa_goOn 62 = .ok (.aload_n 0, 1) := by decide +kernel
theorem d_Wa_goOn_63 : decode b_Wa_goOn 63 = .ok (.dup, 1) := by decide +kernel
theorem d_Wa_goOn_64 : decode b_Wa_goOn 64 = .ok (.getfield 50, 3) := by decide +kernel
theorem d_Wa_goOn_67 : decode b_Wa_goOn 67 = .ok (.iconst 1, 1) := by decide +kernel
theorem d_Wa_goOn_68 : decode b_Wa_goOn 68 = .ok (.isub, 1) := by decide +kernel
theorem d_Wa_goOn_69 : decode b_Wa_goOn 69 = .ok (.putfield 50, 3) := by decide +kernel
theorem d_Wa_goOn_72 : decode b_Wa_goOn 72 = .ok (.return_, 1) := by decide +kernel
theorem d_Wa_meet_0 : decode b_Wa_meet 0 = .ok (.aload_n 0, 1) := by decide +kernel
theorem d_Wa_meet_1 : decode b_Wa_meet 1 = .ok (.getfield 9, 3) := by decide +kernel
theorem d_Wa_meet_4 : decode b_Wa_meet 4 = .ok (.iload_n 1, 1) := by decide +kernel
theorem d_Wa_meet_5 : decode b_Wa_meet 5 = .ok (.invokevirtual 71, 3) := by decide +kernel
theorem d_Wa_meet_8 : decode b_Wa_meet 8 = .ok (.istore_n 2, 1) := by decide +kernel
theorem d_Wa_meet_9 : decode b_Wa_meet 9 = .ok (.aload_n 0, 1) := by decide +kernel
theorem d_Wa_meet_10 : decode b_Wa_meet 10 = .ok (.getfield 9, 3) := by decide +kernel
theorem d_Wa_meet_13 : decode b_Wa_meet 13 = .ok (.iload_n 2, 1) := by decide +kernel
theorem d_Wa_meet_14 : decode b_Wa_meet 14 = .ok (.invokevirtual 36, 3) := by decide +kernel
theorem d_Wa_meet_17 : decode b_Wa_meet 17 = .ok (.ifCond .ne 18, 3) := by decide +kernel
theorem d_Wa_meet_20 : decode b_Wa_meet 20 = .ok (.aload_n 0, 1) := by decide +kernel
theorem d_Wa_meet_21 : decode b_Wa_meet 21 = .ok (.aload_n 0, 1) := by decide +kernel
theorem d_Wa_meet_22 : decode b_Wa_meet 22 = .ok (.getfield 9, 3) := by decide +kernel
theorem d_Wa_meet_25 : decode b_Wa_meet 25 = .ok (.iload_n 1, 1) := by decide +kernel
theorem d_Wa_meet_26 : decode b_Wa_meet 26 = .ok (.invokevirtual 74, 3) := by decide +kernel
theorem d_Wa_meet_29 : decode b_Wa_meet 29 = .ok (.invokevirtual 78, 3) := by decide +kernel
theorem d_Wa_meet_32 : decode b_Wa_meet 32 = .ok (.goto 34, 3) := by decide +kernel
theorem d_Wa_meet_35 : decode b_Wa_meet 35 = .ok (.aload_n 0, 1) := by decide +kernel
theorem d_Wa_meet_36 : decode b_Wa_meet 36 = .ok (.iload_n 2, 1) := by decide +kernel
theorem d_Wa_meet_37 : decode b_Wa_meet 37 = .ok (.invokevirtual 82, 3) := by decide +kernel
theorem d_Wa_meet_40 : decode b_Wa_meet 40 = .ok (.ifCond .eq 21, 3) := by decide +kernel
theorem d_Wa_meet_43 : decode b_Wa_meet 43 = .ok (.aload_n 0, 1) := by decide +kernel
theorem d_Wa_meet_44 : decode b_Wa_meet 44 = .ok (.ldc2_w 85, 3) := by decide +kernel
theorem d_Wa_meet_47 : decode b_Wa_meet 47 = .ok (.aload_n 0, 1) := by decide +kernel
theorem d_Wa_meet_48 : decode b_Wa_meet 48 = .ok (.getfield 15, 3) := by decide +kernel
theorem d_Wa_meet_51 : decode b_Wa_meet 51 = .ok (.iload_n 2, 1) := by decide +kernel
theorem d_Wa_meet_52 : decode b_Wa_meet 52 = .ok (.iaload, 1) := by decide +kernel
theorem d_Wa_meet_53 : decode b_Wa_meet 53 = .ok (.i2l, 1) := by decide +kernel
theorem d_Wa_meet_54 : decode b_Wa_meet 54 = .ok (.ladd, 1) := by decide +kernel
theorem d_Wa_meet_55 : decode b_Wa_meet 55 = .ok (.invokevirtual 78, 3) := by decide +kernel
theorem d_Wa_meet_58 : decode b_Wa_meet 58 = .ok (.goto 8, 3) := by decide +kernel
theorem d_Wa_meet_61 : decode b_Wa_meet 61 = .ok (.aload_n 0, 1) := by decide +kernel
theorem d_Wa_meet_62 : decode b_Wa_meet 62 = .ok (.iload_n 2, 1) := by decide +kernel
theorem d_Wa_meet_63 : decode b_Wa_meet 63 = .ok (.invokevirtual 87, 3) := by decide +kernel
theorem d_Wa_meet_66 : decode b_Wa_meet 66 = .ok (.return_, 1) := by decide +kernel
theorem d_Wa_meetFirst_0 : decode b_Wa_meetFirst 0 = .ok (.aload_n 0, 1) := by decide +kernel
theorem d_Wa_meetFirst_1 : decode b_Wa_meetFirst 1 = .ok (.getfield 9, 3) := by decide +kernel
theorem d_Wa_meetFirst_4 : decode b_Wa_meetFirst 4 = .ok (.iload_n 1, 1) := by decide +kernel
theorem d_Wa_meetFirst_5 : decode b_Wa_meetFirst 5 = .ok (.invokevirtual 60, 3) := by decide +kernel
theorem d_Wa_meetFirst_8 : decode b_Wa_meetFirst 8 = .ok (.istore_n 2, 1) := by decide +kernel
theorem d_Wa_meetFirst_9 : decode b_Wa_meetFirst 9 = .ok (.aload_n 0, 1) := by decide +kernel
theorem d_Wa_meetFirst_10 : decode b_Wa_meetFirst 10 = .ok (.dup, 1) := by decide +kernel
theorem d_Wa_meetFirst_11 : decode b_Wa_meetFirst 11 = .ok (.getfield 25, 3) := by decide +kernel
theorem d_Wa_meetFirst_14 : decode b_Wa_meetFirst 14 = .ok (.iconst 1, 1) := by decide +kernel
theorem d_Wa_meetFirst_15 : decode b_Wa_meetFirst 15 = .ok (.iadd, 1) := by decide +kernel
theorem d_Wa_meetFirst_16 : decode b_Wa_meetFirst 16 = .ok (.putfield 25, 3) := by decide +kernel
theorem d_Wa_meetFirst_19 : decode b_Wa_meetFirst 19 = .ok (.aload_n 0, 1) := by decide +kernel
theorem d_Wa_meetFirst_20 : decode b_Wa_meetFirst 20 = .ok (.getfield 15, 3) := by decide +kernel
theorem d_Wa_meetFirst_23 : decode b_Wa_meetFirst 23 = .ok (.iload_n 1, 1) := by decide +kernel
theorem d_Wa_meetFirst_24 : decode b_Wa_meetFirst 24 = .ok (.aload_n 0, 1) := by decide +kernel
theorem d_Wa_meetFirst_25 : decode b_Wa_meetFirst 25 = .ok (.getfield 25, 3) := by decide +kernel
theorem d_Wa_meetFirst_28 : decode b_Wa_meetFirst 28 = .ok (.iastore, 1) := by decide +kernel
theorem d_Wa_meetFirst_29 : decode b_Wa_meetFirst 29 = .ok (.aload_n 0, 1) := by decide +kernel
theorem d_Wa_meetFirst_30 : decode b_Wa_meetFirst 30 = .ok (.dup, 1) := by decide +kernel
theorem d_Wa_meetFirst_31 : decode b_Wa_meetFirst 31 = .ok (.getfield 29, 3) := by decide +kernel
theorem d_Wa_meetFirst_34 : decode b_Wa_meetFirst 34 = .ok (.iload_n 2, 1) := by decide +kernel
theorem d_Wa_meetFirst_35 : decode b_Wa_meetFirst 35 = .ok (.invokestatic 90, 3) := by decide +kernel
theorem d_Wa_meetFirst_38 : decode b_Wa_meetFirst 38 = .ok (.iadd, 1) := by decide +kernel
theorem d_Wa_meetFirst_39 : decode b_Wa_meetFirst 39 = .ok (.putfield 29, 3) := by decide +kernel
theorem d_Wa_meetFirst_42 : decode b_Wa_meetFirst 42 = .ok (.aload_n 0, 1) := by decide +kernel
theorem d_Wa_meetFirst_43 : decode b_Wa_meetFirst 43 = .ok (.ldc2_w 93, 3) := by decide +kernel
theorem d_Wa_meetFirst_46 : decode b_Wa_meetFirst 46 = .ok (.invokevirtual 78, 3) := by decide +kernel
theorem d_Wa_meetFirst_49 : decode b_Wa_meetFirst 49 = .ok (.aload_n 0, 1) := by decide +kernel
theorem d_Wa_meetFirst_50 : decode b_Wa_meetFirst 50 = .ok (.iload_n 2, 1) := by decide +kernel
theorem d_Wa_meetFirst_51 : decode b_Wa_meetFirst 51 = .ok (.i2l, 1) := by decide +kernel
theorem d_Wa_meetFirst_52 : decode b_Wa_meetFirst 52 = .ok (.invokevirtual 78, 3) := by decide +kernel
theorem d_Wa_meetFirst_55 : decode b_Wa_meetFirst 55 = .ok (.aload_n 0, 1) := by decide +kernel
theorem d_Wa_meetFirst_56 : decode b_Wa_meetFirst 56 = .ok (.iload_n 1, 1) := by decide +kernel
theorem d_Wa_meetFirst_57 : decode b_Wa_meetFirst 57 = .ok (.invokevirtual 53, 3) := by decide +kernel
theorem d_Wa_meetFirst_60 : decode b_Wa_meetFirst 60 = .ok (.return_, 1) := by decide +kernel
theorem d_Wa_goInto_0 : decode b_Wa_goInto 0 = .ok (.aload_n 0, 1) := by decide +kernel
theorem d_Wa_goInto_1 : decode b_Wa_goInto 1 = .ok (.getfield 50, 3) := by decide +kernel
theorem d_Wa_goInto_4 : decode b_Wa_goInto 4 = .ok (.aload_n 0, 1) := by decide +kernel
theorem d_Wa_goInto_5 : decode b_Wa_goInto 5 = .ok (.getfield 19, 3) := by decide +kernel
theorem d_Wa_goInto_8 : decode b_Wa_goInto 8 = .ok (.arraylength, 1) := by decide +kernel
theorem d_Wa_goInto_9 : decode b_Wa_goInto 9 = .ok (.if_icmp .ge 33, 3) := by decide +kernel
theorem d_Wa_goInto_12 : decode b_Wa_goInto 12 = .ok (.aload_n 0, 1) := by decide +kernel
theorem d_Wa_goInto_13 : decode b_Wa_goInto 13 = .ok (.getfield 19, 3) := by decide +kernel
theorem d_Wa_goInto_16 : decode b_Wa_goInto 16 = .ok (.aload_n 0, 1) := by decide +kernel
theorem d_Wa_goInto_17 : decode b_Wa_goInto 17 = .ok (.getfield 50, 3) := by decide +kernel
theorem d_Wa_goInto_20 : decode b_Wa_goInto 20 = .ok (.iload_n 1, 1) := by decide +kernel
theorem d_Wa_goInto_21 : decode b_Wa_goInto 21 = .ok (.iastore, 1) := by decide +kernel
theorem d_Wa_goInto_22 : decode b_Wa_goInto 22 = .ok (.aload_n 0, 1) := by decide +kernel
theorem d_Wa_goInto_23 : decode b_Wa_goInto 23 = .ok (.getfield 22, 3) := by decide +kernel
theorem d_Wa_goInto_26 : decode b_Wa_goInto 26 = .ok (.aload_n 0, 1) := by decide +kernel
theorem d_Wa_goInto_27 : decode b_Wa_goInto 27 = .ok (.getfield 50, 3) := by decide +kernel
theorem d_Wa_goInto_30 : decode b_Wa_goInto 30 = .ok (.iconst 0, 1) := by decide +kernel
theorem d_Wa_goInto_31 : decode b_Wa_goInto 31 = .ok (.iastore, 1) := by decide +kernel
theorem d_Wa_goInto_32 : decode b_Wa_goInto 32 = .ok (.aload_n 0, 1) := by decide +kernel
theorem d_Wa_goInto_33 : decode b_Wa_goInto 33 = .ok (.dup, 1) := by decide +kernel
theorem d_Wa_goInto_34 : decode b_Wa_goInto 34 = .ok (.getfield 50, 3) := by decide +kernel
theorem d_Wa_goInto_37 : decode b_Wa_goInto 37 = .ok (.iconst 1, 1) := by decide +kernel
theorem d_Wa_goInto_38 : decode b_Wa_goInto 38 = .ok (.iadd, 1) := by decide +kernel
theorem d_Wa_goInto_39 : decode b_Wa_goInto 39 = .ok (.putfield 50, 3) := by decide +kernel
theorem d_Wa_goInto_42 : decode b_Wa_goInto 42 = .ok (.return_, 1) := by decide +kernel
theorem d_Wa_mix_0 : decode b_Wa_mix 0 = .ok (.aload_n 0, 1) := by decide +kernel
theorem d_Wa_mix_1 : decode b_Wa_mix 1 = .ok (.ldc2_w 95, 3) := by decide +kernel
theorem d_Wa_mix_4 : decode b_Wa_mix 4 = .ok (.aload_n 0, 1) := by decide +kernel
theorem d_Wa_mix_5 : decode b_Wa_mix 5 = .ok (.getfield 32, 3) := by decide +kernel
theorem d_Wa_mix_8 : decode b_Wa_mix 8 = .ok (.lmul, 1) := by decide +kernel
theorem d_Wa_mix_9 : decode b_Wa_mix 9 = .ok (.lload_n 1, 1) := by decide +kernel
theorem d_Wa_mix_10 : decode b_Wa_mix 10 = .ok (.ladd, 1) := by decide +kernel
theorem d_Wa_mix_11 : decode b_Wa_mix 11 = .ok (.putfield 32, 3) := by decide +kernel
theorem d_Wa_mix_14 : decode b_Wa_mix 14 = .ok (.return_, 1) := by decide +kernel
theorem d_La_tuple_0 : decode b_La_tuple 0 = .ok (.aload_n 3, 1) := by decide +kernel
theorem d_La_tuple_1 : decode b_La_tuple 1 = .ok (.iconst 0, 1) := by decide +kernel
theorem d_La_tuple_2 : decode b_La_tuple 2 = .ok (.aload_n 0, 1) := by decide +kernel
theorem d_La_tuple_3 : decode b_La_tuple 3 = .ok (.iload_n 1, 1) := by decide +kernel
theorem d_La_tuple_4 : decode b_La_tuple 4 = .ok (.iload_n 2, 1) := by decide +kernel
theorem d_La_tuple_5 : decode b_La_tuple 5 = .ok (.invokevirtual 7, 3) := by decide +kernel
theorem d_La_tuple_8 : decode b_La_tuple 8 = .ok (.i2l, 1) := by decide +kernel
theorem d_La_tuple_9 : decode b_La_tuple 9 = .ok (.lastore, 1) := by decide +kernel
theorem d_La_tuple_10 : decode b_La_tuple 10 = .ok (.goto 15, 3) := by decide +kernel
theorem d_La_tuple_13 : decode b_La_tuple 13 = .ok (.astore 4, 2) := by decide +kernel
theorem d_La_tuple_15 : decode b_La_tuple 15 = .ok (.iconst 1, 1) := by decide +kernel
theorem d_La_tuple_16 : decode b_La_tuple 16 = .ok (.ireturn, 1) := by decide +kernel
theorem d_La_tuple_17 : decode b_La_tuple 17 = .ok (.astore 4, 2) := by decide +kernel
theorem d_La_tuple_19 : decode b_La_tuple 19 = .ok (.iconst 2, 1) := by decide +kernel
theorem d_La_tuple_20 : decode b_La_tuple 20 = .ok (.ireturn, 1) := by decide +kernel
theorem d_La_tuple_21 : decode b_La_tuple 21 = .ok (.astore 4, 2) := by decide +kernel
theorem d_La_tuple_23 : decode b_La_tuple 23 = .ok (.iconst 3, 1) := by decide +kernel
theorem d_La_tuple_24 : decode b_La_tuple 24 = .ok (.ireturn, 1) := by decide +kernel
theorem d_La_tuple_25 : decode b_La_tuple 25 = .ok (.iconst 0, 1) := by decide +kernel
theorem d_La_tuple_26 : decode b_La_tuple 26 = .ok (.ireturn, 1) := by decide +kernel
theorem d_La_number_0 : decode b_La_number 0 = .ok (.aload_n 0, 1) := by decide +kernel
theorem d_La_number_1 : decode b_La_number 1 = .ok (.iload_n 1, 1) := by decide +kernel
theorem d_La_number_2 : decode b_La_number 2 = .ok (.lload_n 2, 1) := by decide +kernel
theorem d_La_number_3 : decode b_La_number 3 = .ok (.invokevirtual 19, 3) := by decide +kernel
theorem d_La_number_6 : decode b_La_number 6 = .ok (.goto 7, 3) := by decide +kernel
theorem d_La_number_9 : decode b_La_number 9 = .ok (.astore 4, 2) := by decide +kernel
theorem d_La_number_11 : decode b_La_number 11 = .ok (.iconst 1, 1) := by decide +kernel
theorem d_La_number_12 : decode b_La_number 12 = .ok (.ireturn, 1) := by decide +kernel
theorem d_La_number_13 : decode b_La_number 13 = .ok (.iconst 0, 1) := by decide +kernel
theorem d_La_number_14 : decode b_La_number 14 = .ok (.ireturn, 1) := by decide +kernel
theorem d_La_copy_0 : decode b_La_copy 0 = .ok (.aload_n 0, 1) := by decide +kernel
theorem d_La_copy_1 : decode b_La_copy 1 = .ok (.iload_n 1, 1) := by decide +kernel
theorem d_La_copy_2 : decode b_La_copy 2 = .ok (.iload_n 2, 1) := by decide +kernel
theorem d_La_copy_3 : decode b_La_copy 3 = .ok (.invokevirtual 23, 3) := by decide +kernel
theorem d_La_copy_6 : decode b_La_copy 6 = .ok (.goto 6, 3) := by decide +kernel
theorem d_La_copy_9 : decode b_La_copy 9 = .ok (.astore_n 3, 1) := by decide +kernel
theorem d_La_copy_10 : decode b_La_copy 10 = .ok (.iconst 1, 1) := by decide +kernel
theorem d_La_copy_11 : decode b_La_copy 11 = .ok (.ireturn, 1) := by decide +kernel
theorem d_La_copy_12 : decode b_La_copy 12 = .ok (.iconst 0, 1) := by decide +kernel
theorem d_La_copy_13 : decode b_La_copy 13 = .ok (.ireturn, 1) := by decide +kernel
theorem d_La_get_0 : decode b_La_get 0 = .ok (.aload_n 0, 1) := by decide +kernel
theorem d_La_get_1 : decode b_La_get 1 = .ok (.iload_n 1, 1) := by decide +kernel
theorem d_La_get_2 : decode b_La_get 2 = .ok (.iload_n 2, 1) := by decide +kernel
theorem d_La_get_3 : decode b_La_get 3 = .ok (.iload_n 3, 1) := by decide +kernel
theorem d_La_get_4 : decode b_La_get 4 = .ok (.invokevirtual 27, 3) := by decide +kernel
theorem d_La_get_7 : decode b_La_get 7 = .ok (.goto 11, 3) := by decide +kernel
theorem d_La_get_10 : decode b_La_get 10 = .ok (.astore 4, 2) := by decide +kernel
theorem d_La_get_12 : decode b_La_get 12 = .ok (.iconst 1, 1) := by decide +kernel
theorem d_La_get_13 : decode b_La_get 13 = .ok (.ireturn, 1) := by decide +kernel
theorem d_La_get_14 : decode b_La_get 14 = .ok (.astore 4, 2) := by decide +kernel
theorem d_La_get_16 : decode b_La_get 16 = .ok (.iconst 2, 1) := by decide +kernel
theorem d_La_get_17 : decode b_La_get 17 = .ok (.ireturn, 1) := by decide +kernel
theorem d_La_get_18 : decode b_La_get 18 = .ok (.iconst 0, 1) := by decide +kernel
theorem d_La_get_19 : decode b_La_get 19 = .ok (.ireturn, 1) := by decide +kernel
theorem d_La_set_0 : decode b_La_set 0 = .ok (.aload_n 0, 1) := by decide +kernel
theorem d_La_set_1 : decode b_La_set 1 = .ok (.iload_n 1, 1) := by decide +kernel
theorem d_La_set_2 : decode b_La_set 2 = .ok (.iload_n 2, 1) := by decide +kernel
theorem d_La_set_3 : decode b_La_set 3 = .ok (.iload_n 3, 1) := by decide +kernel
theorem d_La_set_4 : decode b_La_set 4 = .ok (.invokevirtual 33, 3) := by decide +kernel
theorem d_La_set_7 : decode b_La_set 7 = .ok (.goto 11, 3) := by decide +kernel
theorem d_La_set_10 : decode b_La_set 10 = .ok (.astore 4, 2) := by decide +kernel
theorem d_La_set_12 : decode b_La_set 12 = .ok (.iconst 1, 1) := by decide +kernel
theorem d_La_set_13 : decode b_La_set 13 = .ok (.ireturn, 1) := by decide +kernel
theorem d_La_set_14 : decode b_La_set 14 = .ok (.astore 4, 2) := by decide +kernel
theorem d_La_set_16 : decode b_La_set 16 = .ok (.iconst 2, 1) := by decide +kernel
theorem d_La_set_17 : decode b_La_set 17 = .ok (.ireturn, 1) := by decide +kernel
theorem d_La_set_18 : decode b_La_set 18 = .ok (.iconst 0, 1) := by decide +kernel
theorem d_La_set_19 : decode b_La_set 19 = .ok (.ireturn, 1) := by decide +kernel
theorem d_La_step_0 : decode b_La_step 0 = .ok (.aload_n 0, 1) := by decide +kernel
theorem d_La_step_1 : decode b_La_step 1 = .ok (.iload_n 1, 1) := by decide +kernel
theorem d_La_step_2 : decode b_La_step 2 = .ok (.invokevirtual 36, 3) := by decide +kernel
theorem d_La_step_5 : decode b_La_step 5 = .ok (.goto 6, 3) := by decide +kernel
theorem d_La_step_8 : decode b_La_step 8 = .ok (.astore_n 2, 1) := by decide +kernel
theorem d_La_step_9 : decode b_La_step 9 = .ok (.iconst 1, 1) := by decide +kernel
theorem d_La_step_10 : decode b_La_step 10 = .ok (.ireturn, 1) := by decide +kernel
theorem d_La_step_11 : decode b_La_step 11 = .ok (.iconst 0, 1) := by decide +kernel
theorem d_La_step_12 : decode b_La_step 12 = .ok (.ireturn, 1) := by decide +kernel
theorem d_La_pace_0 : decode b_La_pace 0 = .ok (.aload_n 2, 1) := by decide +kernel
theorem d_La_pace_1 : decode b_La_pace 1 = .ok (.iconst 0, 1) := by decide +kernel
theorem d_La_pace_2 : decode b_La_pace 2 = .ok (.aload_n 0, 1) := by decide +kernel
theorem d_La_pace_3 : decode b_La_pace 3 = .ok (.iload_n 1, 1) := by decide +kernel
theorem d_La_pace_4 : decode b_La_pace 4 = .ok (.invokevirtual 40, 3) := by decide +kernel
theorem d_La_pace_7 : decode b_La_pace 7 = .ok (.i2l, 1) := by decide +kernel
theorem d_La_pace_8 : decode b_La_pace 8 = .ok (.lastore, 1) := by decide +kernel
theorem d_La_pace_9 : decode b_La_pace 9 = .ok (.goto 6, 3) := by decide +kernel
theorem d_La_pace_12 : decode b_La_pace 12 = .ok (.astore_n 3, 1) := by decide +kernel
theorem d_La_pace_13 : decode b_La_pace 13 = .ok (.iconst 1, 1) := by decide +kernel
theorem d_La_pace_14 : decode b_La_pace 14 = .ok (.ireturn, 1) := by decide +kernel
theorem d_La_pace_15 : decode b_La_pace 15 = .ok (.iconst 0, 1) := by decide +kernel
theorem d_La_pace_16 : decode b_La_pace 16 = .ok (.ireturn, 1) := by decide +kernel
theorem d_La_size_0 : decode b_La_size 0 = .ok (.aload_n 2, 1) := by decide +kernel
theorem d_La_size_1 : decode b_La_size 1 = .ok (.iconst 0, 1) := by decide +kernel
theorem d_La_size_2 : decode b_La_size 2 = .ok (.aload_n 0, 1) := by decide +kernel
theorem d_La_size_3 : decode b_La_size 3 = .ok (.iload_n 1, 1) := by decide +kernel
theorem d_La_size_4 : decode b_La_size 4 = .ok (.invokevirtual 44, 3) := by decide +kernel
theorem d_La_size_7 : decode b_La_size 7 = .ok (.i2l, 1) := by decide +kernel
theorem d_La_size_8 : decode b_La_size 8 = .ok (.lastore, 1) := by decide +kernel
theorem d_La_size_9 : decode b_La_size 9 = .ok (.goto 6, 3) := by decide +kernel
theorem d_La_size_12 : decode b_La_size 12 = .ok (.astore_n 3, 1) := by decide +kernel
theorem d_La_size_13 : decode b_La_size 13 = .ok (.iconst 1, 1) := by decide +kernel
theorem d_La_size_14 : decode b_La_size 14 = .ok (.ireturn, 1) := by decide +kernel
theorem d_La_size_15 : decode b_La_size 15 = .ok (.iconst 0, 1) := by decide +kernel
theorem d_La_size_16 : decode b_La_size 16 = .ok (.ireturn, 1) := by decide +kernel
theorem d_La_value_0 : decode b_La_value 0 = .ok (.aload_n 2, 1) := by decide +kernel
theorem d_La_value_1 : decode b_La_value 1 = .ok (.iconst 0, 1) := by decide +kernel
theorem d_La_value_2 : decode b_La_value 2 = .ok (.aload_n 0, 1) := by decide +kernel
theorem d_La_value_3 : decode b_La_value 3 = .ok (.iload_n 1, 1) := by decide +kernel
theorem d_La_value_4 : decode b_La_value 4 = .ok (.invokevirtual 47, 3) := by decide +kernel
theorem d_La_value_7 : decode b_La_value 7 = .ok (.lastore, 1) := by decide +kernel
theorem d_La_value_8 : decode b_La_value 8 = .ok (.goto 6, 3) := by decide +kernel
theorem d_La_value_11 : decode b_La_value 11 = .ok (.astore_n 3, 1) := by decide +kernel
theorem d_La_value_12 : decode b_La_value 12 = .ok (.iconst 1, 1) := by decide +kernel
theorem d_La_value_13 : decode b_La_value 13 = .ok (.ireturn, 1) := by decide +kernel
theorem d_La_value_14 : decode b_La_value 14 = .ok (.iconst 0, 1) := by decide +kernel
theorem d_La_value_15 : decode b_La_value 15 = .ok (.ireturn, 1) := by decide +kernel
theorem d_La_same_0 : decode b_La_same 0 = .ok (.aload_n 3, 1) := by decide +kernel
theorem d_La_same_1 : decode b_La_same 1 = .ok (.iconst 0, 1) := by decide +kernel
theorem d_La_same_2 : decode b_La_same 2 = .ok (.aload_n 0, 1) := by decide +kernel
theorem d_La_same_3 : decode b_La_same 3 = .ok (.iload_n 1, 1) := by decide +kernel
theorem d_La_same_4 : decode b_La_same 4 = .ok (.iload_n 2, 1) := by decide +kernel
theorem d_La_same_5 : decode b_La_same 5 = .ok (.invokevirtual 51, 3) := by decide +kernel
theorem d_La_same_8 : decode b_La_same 8 = .ok (.ifCond .eq 7, 3) := by decide +kernel
theorem d_La_same_11 : decode b_La_same 11 = .ok (.lconst 1, 1) := by decide +kernel
theorem d_La_same_12 : decode b_La_same 12 = .ok (.goto 4, 3) := by decide +kernel
theorem d_La_same_15 : decode b_La_same 15 = .ok (.lconst 0, 1) := by decide +kernel
theorem d_La_same_16 : decode b_La_same 16 = .ok (.lastore, 1) := by decide +kernel
theorem d_La_same_17 : decode b_La_same 17 = .ok (.goto 7, 3) := by decide +kernel
theorem d_La_same_20 : decode b_La_same 20 = .ok (.astore 4, 2) := by decide +kernel
theorem d_La_same_22 : decode b_La_same 22 = .ok (.iconst 1, 1) := by decide +kernel
theorem d_La_same_23 : decode b_La_same 23 = .ok (.ireturn, 1) := by decide +kernel
theorem d_La_same_24 : decode b_La_same 24 = .ok (.iconst 0, 1) := by decide +kernel
theorem d_La_same_25 : decode b_La_same 25 = .ok (.ireturn, 1) := by decide +kernel
theorem d_La_count_0 : decode b_La_count 0 = .ok (.aload_n 2, 1) := by decide +kernel
theorem d_La_count_1 : decode b_La_count 1 = .ok (.iconst 0, 1) := by decide +kernel
theorem d_La_count_2 : decode b_La_count 2 = .ok (.aload_n 0, 1) := by decide +kernel
theorem d_La_count_3 : decode b_La_count 3 = .ok (.iload_n 1, 1) := by decide +kernel
theorem d_La_count_4 : decode b_La_count 4 = .ok (.invokevirtual 55, 3) := by decide +kernel
theorem d_La_count_7 : decode b_La_count 7 = .ok (.i2l, 1) := by decide +kernel
theorem d_La_count_8 : decode b_La_count 8 = .ok (.lastore, 1) := by decide +kernel
theorem d_La_count_9 : decode b_La_count 9 = .ok (.goto 6, 3) := by decide +kernel
theorem d_La_count_12 : decode b_La_count 12 = .ok (.astore_n 3, 1) := by decide +kernel
theorem d_La_count_13 : decode b_La_count 13 = .ok (.iconst 1, 1) := by decide +kernel
theorem d_La_count_14 : decode b_La_count 14 = .ok (.ireturn, 1) := by decide +kernel
theorem d_La_count_15 : decode b_La_count 15 = .ok (.iconst 0, 1) := by decide +kernel
theorem d_La_count_16 : decode b_La_count 16 = .ok (.ireturn, 1) := by decide +kernel
theorem d_La_law_0 : decode code 0 = .ok (.new 8, 3) := by decide +kernel
theorem d_La_law_3 : decode code 3 = .ok (.dup, 1) := by decide +kernel
theorem d_La_law_4 : decode code 4 = .ok (.invokespecial 58, 3) := by decide +kernel
theorem d_La_law_7 : decode code 7 = .ok (.astore_n 1, 1) := by decide +kernel
theorem d_La_law_8 : decode code 8 = .ok (.new 59, 3) := by decide +kernel
theorem d_La_law_11 : decode code 11 = .ok (.dup, 1) := by decide +kernel
theorem d_La_law_12 : decode code 12 = .ok (.invokespecial 61, 3) := by decide +kernel
theorem d_La_law_15 : decode code 15 = .ok (.astore_n 2, 1) := by decide +kernel
theorem d_La_law_16 : decode code 16 = .ok (.iconst 1, 1) := by decide +kernel
theorem d_La_law_17 : decode code 17 = .ok (.newarray .long, 2) := by decide +kernel
theorem d_La_law_19 : decode code 19 = .ok (.astore_n 3, 1) := by decide +kernel
theorem d_La_law_20 : decode code 20 = .ok (.iconst 0, 1) := by decide +kernel
theorem d_La_law_21 : decode code 21 = .ok (.istore 4, 2) := by decide +kernel
theorem d_La_law_23 : decode code 23 = .ok (.iload 4, 2) := by decide +kernel
theorem d_La_law_25 : decode code 25 = .ok (.aload_n 0, 1) := by decide +kernel
theorem d_La_law_26 : decode code 26 = .ok (.arraylength, 1) := by decide +kernel
theorem d_La_law_27 : decode code 27 = .ok (.iconst 4, 1) := by decide +kernel
theorem d_La_law_28 : decode code 28 = .ok (.isub, 1) := by decide +kernel
theorem d_La_law_29 : decode code 29 = .ok (.if_icmp .gt 775, 3) := by decide +kernel
theorem d_La_law_32 : decode code 32 = .ok (.aload_n 0, 1) := by decide +kernel
theorem d_La_law_33 : decode code 33 = .ok (.iload 4, 2) := by decide +kernel
theorem d_La_law_35 : decode code 35 = .ok (.iaload, 1) := by decide +kernel
theorem d_La_law_36 : decode code 36 = .ok (.bipush 15, 2) := by decide +kernel
theorem d_La_law_38 : decode code 38 = .ok (.iand, 1) := by decide +kernel
theorem d_La_law_39 : decode code 39 = .ok (.tableswitch 759 0 13 #[69, 137, 217, 265, 325, 385, 421, 477, 533, 588, 663, 719, 733, 746], 69) := by decide +kernel
theorem d_La_law_108 : decode code 108 = .ok (.aload_n 1, 1) := by decide +kernel
theorem d_La_law_109 : decode code 109 = .ok (.aload_n 0, 1) := by decide +kernel
theorem d_La_law_110 : decode code 110 = .ok (.iload 4, 2) := by decide +kernel
theorem d_La_law_112 : decode code 112 = .ok (.iconst 1, 1) := by decide +kernel
theorem d_La_law_113 : decode code 113 = .ok (.iadd, 1) := by decide +kernel
theorem d_La_law_114 : decode code 114 = .ok (.iaload, 1) := by decide +kernel
theorem d_La_law_115 : decode code 115 = .ok (.aload_n 0, 1) := by decide +kernel
theorem d_La_law_116 : decode code 116 = .ok (.iload 4, 2) := by decide +kernel
theorem d_La_law_118 : decode code 118 = .ok (.iconst 2, 1) := by decide +kernel
theorem d_La_law_119 : decode code 119 = .ok (.iadd, 1) := by decide +kernel
theorem d_La_law_120 : decode code 120 = .ok (.iaload, 1) := by decide +kernel
theorem d_La_law_121 : decode code 121 = .ok (.aload_n 3, 1) := by decide +kernel
theorem d_La_law_122 : decode code 122 = .ok (.invokestatic 62, 3) := by decide +kernel
theorem d_La_law_125 : decode code 125 = .ok (.istore 5, 2) := by decide +kernel
theorem d_La_law_127 : decode code 127 = .ok (.aload_n 2, 1) := by decide +kernel
theorem d_La_law_128 : decode code 128 = .ok (.aload_n 0, 1) := by decide +kernel
theorem d_La_law_129 : decode code 129 = .ok (.iload 4, 2) := by decide +kernel
theorem d_La_law_131 : decode code 131 = .ok (.iconst 1, 1) := by decide +kernel
theorem d_La_law_132 : decode code 132 = .ok (.iadd, 1) := by decide +kernel
theorem d_La_law_133 : decode code 133 = .ok (.iaload, 1) := by decide +kernel
theorem d_La_law_134 : decode code 134 = .ok (.aload_n 0, 1) := by decide +kernel
theorem d_La_law_135 : decode code 135 = .ok (.iload 4, 2) := by decide +kernel
theorem d_La_law_137 : decode code 137 = .ok (.iconst 2, 1) := by decide +kernel
theorem d_La_law_138 : decode code 138 = .ok (.iadd, 1) := by decide +kernel
theorem d_La_law_139 : decode code 139 = .ok (.iaload, 1) := by decide +kernel
theorem d_La_law_140 : decode code 140 = .ok (.invokevirtual 67, 3) := by decide +kernel
theorem d_La_law_143 : decode code 143 = .ok (.istore 6, 2) := by decide +kernel
theorem d_La_law_145 : decode code 145 = .ok (.aload_n 2, 1) := by decide +kernel
theorem d_La_law_146 : decode code 146 = .ok (.invokevirtual 68, 3) := by decide +kernel
theorem d_La_law_149 : decode code 149 = .ok (.iload 5, 2) := by decide +kernel
theorem d_La_law_151 : decode code 151 = .ok (.if_icmp .eq 5, 3) := by decide +kernel
theorem d_La_law_154 : decode code 154 = .ok (.iconst 0, 1) := by decide +kernel
theorem d_La_law_155 : decode code 155 = .ok (.ireturn, 1) := by decide +kernel
theorem d_La_law_156 : decode code 156 = .ok (.iload 5, 2) := by decide +kernel
theorem d_La_law_158 : decode code 158 = .ok (.ifCond .ne 15, 3) := by decide +kernel
theorem d_La_law_161 : decode code 161 = .ok (.aload_n 3, 1) := by decide +kernel
theorem d_La_law_162 : decode code 162 = .ok (.iconst 0, 1) := by decide +kernel
theorem d_La_law_163 : decode code 163 = .ok (.laload, 1) := by decide +kernel
theorem d_La_law_164 : decode code 164 = .ok (.iload 6, 2) := by decide +kernel
theorem d_La_law_166 : decode code 166 = .ok (.i2l, 1) := by decide +kernel
theorem d_La_law_167 : decode code 167 = .ok (.lcmp, 1) := by decide +kernel
theorem d_La_law_168 : decode code 168 = .ok (.ifCond .eq 5, 3) := by decide +kernel
theorem d_La_law_171 : decode code 171 = .ok (.iconst 0, 1) := by decide +kernel
theorem d_La_law_172 : decode code 172 = .ok (.ireturn, 1) := by decide +kernel
theorem d_La_law_173 : decode code 173 = .ok (.goto 625, 3) := by decide +kernel
theorem d_La_law_176 : decode code 176 = .ok (.aload_n 1, 1) := by decide +kernel
theorem d_La_law_177 : decode code 177 = .ok (.aload_n 0, 1) := by decide +kernel
theorem d_La_law_178 : decode code 178 = .ok (.iload 4, 2) := by decide +kernel
theorem d_La_law_180 : decode code 180 = .ok (.iconst 1, 1) := by decide +kernel
theorem d_La_law_181 : decode code 181 = .ok (.iadd, 1) := by decide +kernel
theorem d_La_law_182 : decode code 182 = .ok (.iaload, 1) := by decide +kernel
theorem d_La_law_183 : decode code 183 = .ok (.aload_n 0, 1) := by decide +kernel
theorem d_La_law_184 : decode code 184 = .ok (.iload 4, 2) := by decide +kernel
theorem d_La_law_186 : decode code 186 = .ok (.iconst 2, 1) := by decide +kernel
theorem d_La_law_187 : decode code 187 = .ok (.iadd, 1) := by decide +kernel
theorem d_La_law_188 : decode code 188 = .ok (.iaload, 1) := by decide +kernel
theorem d_La_law_189 : decode code 189 = .ok (.i2l, 1) := by decide +kernel
theorem d_La_law_190 : decode code 190 = .ok (.bipush 32, 2) := by decide +kernel
theorem d_La_law_192 : decode code 192 = .ok (.lshl, 1) := by decide +kernel
theorem d_La_law_193 : decode code 193 = .ok (.aload_n 0, 1) := by decide +kernel
theorem d_La_law_194 : decode code 194 = .ok (.iload 4, 2) := by decide +kernel
theorem d_La_law_196 : decode code 196 = .ok (.iconst 3, 1) := by decide +kernel
theorem d_La_law_197 : decode code 197 = .ok (.iadd, 1) := by decide +kernel
theorem d_La_law_198 : decode code 198 = .ok (.iaload, 1) := by decide +kernel
theorem d_La_law_199 : decode code 199 = .ok (.i2l, 1) := by decide +kernel
theorem d_La_law_200 : decode code 200 = .ok (.ldc2_w 72, 3) := by decide +kernel
theorem d_La_law_203 : decode code 203 = .ok (.land, 1) := by decide +kernel
theorem d_La_law_204 : decode code 204 = .ok (.lor, 1) := by decide +kernel
theorem d_La_law_205 : decode code 205 = .ok (.invokestatic 74, 3) := by decide +kernel
theorem d_La_law_208 : decode code 208 = .ok (.istore 5, 2) := by decide +kernel
theorem d_La_law_210 : decode code 210 = .ok (.aload_n 2, 1) := by decide +kernel
theorem d_La_law_211 : decode code 211 = .ok (.aload_n 0, 1) := by decide +kernel
theorem d_La_law_212 : decode code 212 = .ok (.iload 4, 2) := by decide +kernel
theorem d_La_law_214 : decode code 214 = .ok (.iconst 1, 1) := by decide +kernel
theorem d_La_law_215 : decode code 215 = .ok (.iadd, 1) := by decide +kernel
theorem d_La_law_216 : decode code 216 = .ok (.iaload, 1) := by decide +kernel
theorem d_La_law_217 : decode code 217 = .ok (.aload_n 0, 1) := by decide +kernel
theorem d_La_law_218 : decode code 218 = .ok (.iload 4, 2) := by decide +kernel
theorem d_La_law_220 : decode code 220 = .ok (.iconst 2, 1) := by decide +kernel
theorem d_La_law_221 : decode code 221 = .ok (.iadd, 1) := by decide +kernel
theorem d_La_law_222 : decode code 222 = .ok (.iaload, 1) := by decide +kernel
theorem d_La_law_223 : decode code 223 = .ok (.i2l, 1) := by decide +kernel
theorem d_La_law_224 : decode code 224 = .ok (.bipush 32, 2) := by decide +kernel
theorem d_La_law_226 : decode code 226 = .ok (.lshl, 1) := by decide +kernel
theorem d_La_law_227 : decode code 227 = .ok (.aload_n 0, 1) := by decide +kernel
theorem d_La_law_228 : decode code 228 = .ok (.iload 4, 2) := by decide +kernel
theorem d_La_law_230 : decode code 230 = .ok (.iconst 3, 1) := by decide +kernel
theorem d_La_law_231 : decode code 231 = .ok (.iadd, 1) := by decide +kernel
theorem d_La_law_232 : decode code 232 = .ok (.iaload, 1) := by decide +kernel
theorem d_La_law_233 : decode code 233 = .ok (.i2l, 1) := by decide +kernel
theorem d_La_law_234 : decode code 234 = .ok (.ldc2_w 72, 3) := by decide +kernel
theorem d_La_law_237 : decode code 237 = .ok (.land, 1) := by decide +kernel
theorem d_La_law_238 : decode code 238 = .ok (.lor, 1) := by decide +kernel
theorem d_La_law_239 : decode code 239 = .ok (.invokevirtual 77, 3) := by decide +kernel
theorem d_La_law_242 : decode code 242 = .ok (.aload_n 2, 1) := by decide +kernel
theorem d_La_law_243 : decode code 243 = .ok (.invokevirtual 68, 3) := by decide +kernel
theorem d_La_law_246 : decode code 246 = .ok (.iload 5, 2) := by decide +kernel
theorem d_La_law_248 : decode code 248 = .ok (.if_icmp .eq 5, 3) := by decide +kernel
theorem d_La_law_251 : decode code 251 = .ok (.iconst 0, 1) := by decide +kernel
theorem d_La_law_252 : decode code 252 = .ok (.ireturn, 1) := by decide +kernel
theorem d_La_law_253 : decode code 253 = .ok (.goto 545, 3) := by decide +kernel
theorem d_La_law_256 : decode code 256 = .ok (.aload_n 1, 1) := by decide +kernel
theorem d_La_law_257 : decode code 257 = .ok (.aload_n 0, 1) := by decide +kernel
theorem d_La_law_258 : decode code 258 = .ok (.iload 4, 2) := by decide +kernel
theorem d_La_law_260 : decode code 260 = .ok (.iconst 1, 1) := by decide +kernel
theorem d_La_law_261 : decode code 261 = .ok (.iadd, 1) := by decide +kernel
theorem d_La_law_262 : decode code 262 = .ok (.iaload, 1) := by decide +kernel
theorem d_La_law_263 : decode code 263 = .ok (.aload_n 0, 1) := by decide +kernel
theorem d_La_law_264 : decode code 264 = .ok (.iload 4, 2) := by decide +kernel
theorem d_La_law_266 : decode code 266 = .ok (.iconst 2, 1) := by decide +kernel
theorem d_La_law_267 : decode code 267 = .ok (.iadd, 1) := by decide +kernel
theorem d_La_law_268 : decode code 268 = .ok (.iaload, 1) := by decide +kernel
theorem d_La_law_269 : decode code 269 = .ok (.invokestatic 78, 3) := by decide +kernel
theorem d_La_law_272 : decode code 272 = .ok (.istore 5, 2) := by decide +kernel
theorem d_La_law_274 : decode code 274 = .ok (.aload_n 2, 1) := by decide +kernel
theorem d_La_law_275 : decode code 275 = .ok (.aload_n 0, 1) := by decide +kernel
theorem d_La_law_276 : decode code 276 = .ok (.iload 4, 2) := by decide +kernel
theorem d_La_law_278 : decode code 278 = .ok (.iconst 1, 1) := by decide +kernel
theorem d_La_law_279 : decode code 279 = .ok (.iadd, 1) := by decide +kernel
theorem d_La_law_280 : decode code 280 = .ok (.iaload, 1) := by decide +kernel
theorem d_La_law_281 : decode code 281 = .ok (.aload_n 0, 1) := by decide +kernel
theorem d_La_law_282 : decode code 282 = .ok (.iload 4, 2) := by decide +kernel
theorem d_La_law_284 : decode code 284 = .ok (.iconst 2, 1) := by decide +kernel
theorem d_La_law_285 : decode code 285 = .ok (.iadd, 1) := by decide +kernel
theorem d_La_law_286 : decode code 286 = .ok (.iaload, 1) := by decide +kernel
theorem d_La_law_287 : decode code 287 = .ok (.invokevirtual 81, 3) := by decide +kernel
theorem d_La_law_290 : decode code 290 = .ok (.aload_n 2, 1) := by decide +kernel
theorem d_La_law_291 : decode code 291 = .ok (.invokevirtual 68, 3) := by decide +kernel
theorem d_La_law_294 : decode code 294 = .ok (.iload 5, 2) := by decide +kernel
theorem d_La_law_296 : decode code 296 = .ok (.if_icmp .eq 5, 3) := by decide +kernel
theorem d_La_law_299 : decode code 299 = .ok (.iconst 0, 1) := by decide +kernel
theorem d_La_law_300 : decode code 300 = .ok (.ireturn, 1) := by decide +kernel
theorem d_La_law_301 : decode code 301 = .ok (.goto 497, 3) := by decide +kernel
theorem d_La_law_304 : decode code 304 = .ok (.aload_n 1, 1) := by decide +kernel
theorem d_La_law_305 : decode code 305 = .ok (.aload_n 0, 1) := by decide +kernel
theorem d_La_law_306 : decode code 306 = .ok (.iload 4, 2) := by decide +kernel
theorem d_La_law_308 : decode code 308 = .ok (.iconst 1, 1) := by decide +kernel
theorem d_La_law_309 : decode code 309 = .ok (.iadd, 1) := by decide +kernel
theorem d_La_law_310 : decode code 310 = .ok (.iaload, 1) := by decide +kernel
theorem d_La_law_311 : decode code 311 = .ok (.aload_n 0, 1) := by decide +kernel
theorem d_La_law_312 : decode code 312 = .ok (.iload 4, 2) := by decide +kernel
theorem d_La_law_314 : decode code 314 = .ok (.iconst 2, 1) := by decide +kernel
theorem d_La_law_315 : decode code 315 = .ok (.iadd, 1) := by decide +kernel
theorem d_La_law_316 : decode code 316 = .ok (.iaload, 1) := by decide +kernel
theorem d_La_law_317 : decode code 317 = .ok (.aload_n 0, 1) := by decide +kernel
theorem d_La_law_318 : decode code 318 = .ok (.iload 4, 2) := by decide +kernel
theorem d_La_law_320 : decode code 320 = .ok (.iconst 3, 1) := by decide +kernel
theorem d_La_law_321 : decode code 321 = .ok (.iadd, 1) := by decide +kernel
theorem d_La_law_322 : decode code 322 = .ok (.iaload, 1) := by decide +kernel
theorem d_La_law_323 : decode code 323 = .ok (.invokestatic 82, 3) := by decide +kernel
theorem d_La_law_326 : decode code 326 = .ok (.istore 5, 2) := by decide +kernel
theorem d_La_law_328 : decode code 328 = .ok (.aload_n 2, 1) := by decide +kernel
theorem d_La_law_329 : decode code 329 = .ok (.aload_n 0, 1) := by decide +kernel
theorem d_La_law_330 : decode code 330 = .ok (.iload 4, 2) := by decide +kernel
theorem d_La_law_332 : decode code 332 = .ok (.iconst 1, 1) := by decide +kernel
theorem d_La_law_333 : decode code 333 = .ok (.iadd, 1) := by decide +kernel
theorem d_La_law_334 : decode code 334 = .ok (.iaload, 1) := by decide +kernel
theorem d_La_law_335 : decode code 335 = .ok (.aload_n 0, 1) := by decide +kernel
theorem d_La_law_336 : decode code 336 = .ok (.iload 4, 2) := by decide +kernel
theorem d_La_law_338 : decode code 338 = .ok (.iconst 2, 1) := by decide +kernel
theorem d_La_law_339 : decode code 339 = .ok (.iadd, 1) := by decide +kernel
theorem d_La_law_340 : decode code 340 = .ok (.iaload, 1) := by decide +kernel
theorem d_La_law_341 : decode code 341 = .ok (.aload_n 0, 1) := by decide +kernel
theorem d_La_law_342 : decode code 342 = .ok (.iload 4, 2) := by decide +kernel
theorem d_La_law_344 : decode code 344 = .ok (.iconst 3, 1) := by decide +kernel
theorem d_La_law_345 : decode code 345 = .ok (.iadd, 1) := by decide +kernel
theorem d_La_law_346 : decode code 346 = .ok (.iaload, 1) := by decide +kernel
theorem d_La_law_347 : decode code 347 = .ok (.invokevirtual 85, 3) := by decide +kernel
theorem d_La_law_350 : decode code 350 = .ok (.aload_n 2, 1) := by decide +kernel
theorem d_La_law_351 : decode code 351 = .ok (.invokevirtual 68, 3) := by decide +kernel
theorem d_La_law_354 : decode code 354 = .ok (.iload 5, 2) := by decide +kernel
theorem d_La_law_356 : decode code 356 = .ok (.if_icmp .eq 5, 3) := by decide +kernel
theorem d_La_law_359 : decode code 359 = .ok (.iconst 0, 1) := by decide +kernel
theorem d_La_law_360 : decode code 360 = .ok (.ireturn, 1) := by decide +kernel
theorem d_La_law_361 : decode code 361 = .ok (.goto 437, 3) := by decide +kernel
theorem d_La_law_364 : decode code 364 = .ok (.aload_n 1, 1) := by decide +kernel
theorem d_La_law_365 : decode code 365 = .ok (.aload_n 0, 1) := by decide +kernel
theorem d_La_law_366 : decode code 366 = .ok (.iload 4, 2) := by decide +kernel
theorem d_La_law_368 : decode code 368 = .ok (.iconst 1, 1) := by decide +kernel
theorem d_La_law_369 : decode code 369 = .ok (.iadd, 1) := by decide +kernel
theorem d_La_law_370 : decode code 370 = .ok (.iaload, 1) := by decide +kernel
theorem d_La_law_371 : decode code 371 = .ok (.aload_n 0, 1) := by decide +kernel
theorem d_La_law_372 : decode code 372 = .ok (.iload 4, 2) := by decide +kernel
theorem d_La_law_374 : decode code 374 = .ok (.iconst 2, 1) := by decide +kernel
theorem d_La_law_375 : decode code 375 = .ok (.iadd, 1) := by decide +kernel
theorem d_La_law_376 : decode code 376 = .ok (.iaload, 1) := by decide +kernel
theorem d_La_law_377 : decode code 377 = .ok (.aload_n 0, 1) := by decide +kernel
theorem d_La_law_378 : decode code 378 = .ok (.iload 4, 2) := by decide +kernel
theorem d_La_law_380 : decode code 380 = .ok (.iconst 3, 1) := by decide +kernel
theorem d_La_law_381 : decode code 381 = .ok (.iadd, 1) := by decide +kernel
theorem d_La_law_382 : decode code 382 = .ok (.iaload, 1) := by decide +kernel
theorem d_La_law_383 : decode code 383 = .ok (.invokestatic 86, 3) := by decide +kernel
theorem d_La_law_386 : decode code 386 = .ok (.istore 5, 2) := by decide +kernel
theorem d_La_law_388 : decode code 388 = .ok (.aload_n 2, 1) := by decide +kernel
theorem d_La_law_389 : decode code 389 = .ok (.aload_n 0, 1) := by decide +kernel
theorem d_La_law_390 : decode code 390 = .ok (.iload 4, 2) := by decide +kernel
theorem d_La_law_392 : decode code 392 = .ok (.iconst 1, 1) := by decide +kernel
theorem d_La_law_393 : decode code 393 = .ok (.iadd, 1) := by decide +kernel
theorem d_La_law_394 : decode code 394 = .ok (.iaload, 1) := by decide +kernel
theorem d_La_law_395 : decode code 395 = .ok (.aload_n 0, 1) := by decide +kernel
theorem d_La_law_396 : decode code 396 = .ok (.iload 4, 2) := by decide +kernel
theorem d_La_law_398 : decode code 398 = .ok (.iconst 2, 1) := by decide +kernel
theorem d_La_law_399 : decode code 399 = .ok (.iadd, 1) := by decide +kernel
theorem d_La_law_400 : decode code 400 = .ok (.iaload, 1) := by decide +kernel
theorem d_La_law_401 : decode code 401 = .ok (.aload_n 0, 1) := by decide +kernel
theorem d_La_law_402 : decode code 402 = .ok (.iload 4, 2) := by decide +kernel
theorem d_La_law_404 : decode code 404 = .ok (.iconst 3, 1) := by decide +kernel
theorem d_La_law_405 : decode code 405 = .ok (.iadd, 1) := by decide +kernel
theorem d_La_law_406 : decode code 406 = .ok (.iaload, 1) := by decide +kernel
theorem d_La_law_407 : decode code 407 = .ok (.invokevirtual 88, 3) := by decide +kernel
theorem d_La_law_410 : decode code 410 = .ok (.aload_n 2, 1) := by decide +kernel
theorem d_La_law_411 : decode code 411 = .ok (.invokevirtual 68, 3) := by decide +kernel
theorem d_La_law_414 : decode code 414 = .ok (.iload 5, 2) := by decide +kernel
theorem d_La_law_416 : decode code 416 = .ok (.if_icmp .eq 5, 3) := by decide +kernel
theorem d_La_law_419 : decode code 419 = .ok (.iconst 0, 1) := by decide +kernel
theorem d_La_law_420 : decode code 420 = .ok (.ireturn, 1) := by decide +kernel
theorem d_La_law_421 : decode code 421 = .ok (.goto 377, 3) := by decide +kernel
theorem d_La_law_424 : decode code 424 = .ok (.aload_n 1, 1) := by decide +kernel
theorem d_La_law_425 : decode code 425 = .ok (.aload_n 0, 1) := by decide +kernel
theorem d_La_law_426 : decode code 426 = .ok (.iload 4, 2) := by decide +kernel
theorem d_La_law_428 : decode code 428 = .ok (.iconst 1, 1) := by decide +kernel
theorem d_La_law_429 : decode code 429 = .ok (.iadd, 1) := by decide +kernel
theorem d_La_law_430 : decode code 430 = .ok (.iaload, 1) := by decide +kernel
theorem d_La_law_431 : decode code 431 = .ok (.invokestatic 89, 3) := by decide +kernel
theorem d_La_law_434 : decode code 434 = .ok (.istore 5, 2) := by decide +kernel
theorem d_La_law_436 : decode code 436 = .ok (.aload_n 2, 1) := by decide +kernel
theorem d_La_law_437 : decode code 437 = .ok (.aload_n 0, 1) := by decide +kernel
theorem d_La_law_438 : decode code 438 = .ok (.iload 4, 2) := by decide +kernel
theorem d_La_law_440 : decode code 440 = .ok (.iconst 1, 1) := by decide +kernel
theorem d_La_law_441 : decode code 441 = .ok (.iadd, 1) := by decide +kernel
theorem d_La_law_442 : decode code 442 = .ok (.iaload, 1) := by decide +kernel
theorem d_La_law_443 : decode code 443 = .ok (.invokevirtual 92, 3) := by decide +kernel
theorem d_La_law_446 : decode code 446 = .ok (.aload_n 2, 1) := by decide +kernel
theorem d_La_law_447 : decode code 447 = .ok (.invokevirtual 68, 3) := by decide +kernel
theorem d_La_law_450 : decode code 450 = .ok (.iload 5, 2) := by decide +kernel
theorem d_La_law_452 : decode code 452 = .ok (.if_icmp .eq 5, 3) := by decide +kernel
theorem d_La_law_455 : decode code 455 = .ok (.iconst 0, 1) := by decide +kernel
theorem d_La_law_456 : decode code 456 = .ok (.ireturn, 1) := by decide +kernel
theorem d_La_law_457 : decode code 457 = .ok (.goto 341, 3) := by decide +kernel
theorem d_La_law_460 : decode code 460 = .ok (.aload_n 1, 1) := by decide +kernel
theorem d_La_law_461 : decode code 461 = .ok (.aload_n 0, 1) := by decide +kernel
theorem d_La_law_462 : decode code 462 = .ok (.iload 4, 2) := by decide +kernel
theorem d_La_law_464 : decode code 464 = .ok (.iconst 1, 1) := by decide +kernel
theorem d_La_law_465 : decode code 465 = .ok (.iadd, 1) := by decide +kernel
theorem d_La_law_466 : decode code 466 = .ok (.iaload, 1) := by decide +kernel
theorem d_La_law_467 : decode code 467 = .ok (.aload_n 3, 1) := by decide +kernel
theorem d_La_law_468 : decode code 468 = .ok (.invokestatic 93, 3) := by decide +kernel
theorem d_La_law_471 : decode code 471 = .ok (.istore 5, 2) := by decide +kernel
theorem d_La_law_473 : decode code 473 = .ok (.aload_n 2, 1) := by decide +kernel
theorem d_La_law_474 : decode code 474 = .ok (.aload_n 0, 1) := by decide +kernel
theorem d_La_law_475 : decode code 475 = .ok (.iload 4, 2) := by decide +kernel
theorem d_La_law_477 : decode code 477 = .ok (.iconst 1, 1) := by decide +kernel
theorem d_La_law_478 : decode code 478 = .ok (.iadd, 1) := by decide +kernel
theorem d_La_law_479 : decode code 479 = .ok (.iaload, 1) := by decide +kernel
theorem d_La_law_480 : decode code 480 = .ok (.invokevirtual 96, 3) := by decide +kernel
theorem d_La_law_483 : decode code 483 = .ok (.istore 6, 2) := by decide +kernel
theorem d_La_law_485 : decode code 485 = .ok (.aload_n 2, 1) := by decide +kernel
theorem d_La_law_486 : decode code 486 = .ok (.invokevirtual 68, 3) := by decide +kernel
theorem d_La_law_489 : decode code 489 = .ok (.iload 5, 2) := by decide +kernel
theorem d_La_law_491 : decode code 491 = .ok (.if_icmp .eq 5, 3) := by decide +kernel
theorem d_La_law_494 : decode code 494 = .ok (.iconst 0, 1) := by decide +kernel
theorem d_La_law_495 : decode code 495 = .ok (.ireturn, 1) := by decide +kernel
theorem d_La_law_496 : decode code 496 = .ok (.iload 5, 2) := by decide +kernel
theorem d_La_law_498 : decode code 498 = .ok (.ifCond .ne 15, 3) := by decide +kernel
theorem d_La_law_501 : decode code 501 = .ok (.aload_n 3, 1) := by decide +kernel
theorem d_La_law_502 : decode code 502 = .ok (.iconst 0, 1) := by decide +kernel
theorem d_La_law_503 : decode code 503 = .ok (.laload, 1) := by decide +kernel
theorem d_La_law_504 : decode code 504 = .ok (.iload 6, 2) := by decide +kernel
theorem d_La_law_506 : decode code 506 = .ok (.i2l, 1) := by decide +kernel
theorem d_La_law_507 : decode code 507 = .ok (.lcmp, 1) := by decide +kernel
theorem d_La_law_508 : decode code 508 = .ok (.ifCond .eq 5, 3) := by decide +kernel
theorem d_La_law_511 : decode code 511 = .ok (.iconst 0, 1) := by decide +kernel
theorem d_La_law_512 : decode code 512 = .ok (.ireturn, 1) := by decide +kernel
theorem d_La_law_513 : decode code 513 = .ok (.goto 285, 3) := by decide +kernel
theorem d_La_law_516 : decode code 516 = .ok (.aload_n 1, 1) := by decide +kernel
theorem d_La_law_517 : decode code 517 = .ok (.aload_n 0, 1) := by decide +kernel
theorem d_La_law_518 : decode code 518 = .ok (.iload 4, 2) := by decide +kernel
theorem d_La_law_520 : decode code 520 = .ok (.iconst 1, 1) := by decide +kernel
theorem d_La_law_521 : decode code 521 = .ok (.iadd, 1) := by decide +kernel
theorem d_La_law_522 : decode code 522 = .ok (.iaload, 1) := by decide +kernel
theorem d_La_law_523 : decode code 523 = .ok (.aload_n 3, 1) := by decide +kernel
theorem d_La_law_524 : decode code 524 = .ok (.invokestatic 97, 3) := by decide +kernel
theorem d_La_law_527 : decode code 527 = .ok (.istore 5, 2) := by decide +kernel
theorem d_La_law_529 : decode code 529 = .ok (.aload_n 2, 1) := by decide +kernel
theorem d_La_law_530 : decode code 530 = .ok (.aload_n 0, 1) := by decide +kernel
theorem d_La_law_531 : decode code 531 = .ok (.iload 4, 2) := by decide +kernel
theorem d_La_law_533 : decode code 533 = .ok (.iconst 1, 1) := by decide +kernel
theorem d_La_law_534 : decode code 534 = .ok (.iadd, 1) := by decide +kernel
theorem d_La_law_535 : decode code 535 = .ok (.iaload, 1) := by decide +kernel
theorem d_La_law_536 : decode code 536 = .ok (.invokevirtual 99, 3) := by decide +kernel
theorem d_La_law_539 : decode code 539 = .ok (.istore 6, 2) := by decide +kernel
theorem d_La_law_541 : decode code 541 = .ok (.aload_n 2, 1) := by decide +kernel
theorem d_La_law_542 : decode code 542 = .ok (.invokevirtual 68, 3) := by decide +kernel
theorem d_La_law_545 : decode code 545 = .ok (.iload 5, 2) := by decide +kernel
theorem d_La_law_547 : decode code 547 = .ok (.if_icmp .eq 5, 3) := by decide +kernel
theorem d_La_law_550 : decode code 550 = .ok (.iconst 0, 1) := by decide +kernel
theorem d_La_law_551 : decode code 551 = .ok (.ireturn, 1) := by decide +kernel
theorem d_La_law_552 : decode code 552 = .ok (.iload 5, 2) := by decide +kernel
theorem d_La_law_554 : decode code 554 = .ok (.ifCond .ne 15, 3) := by decide +kernel
theorem d_La_law_557 : decode code 557 = .ok (.aload_n 3, 1) := by decide +kernel
theorem d_La_law_558 : decode code 558 = .ok (.iconst 0, 1) := by decide +kernel
theorem d_La_law_559 : decode code 559 = .ok (.laload, 1) := by decide +kernel
theorem d_La_law_560 : decode code 560 = .ok (.iload 6, 2) := by decide +kernel
theorem d_La_law_562 : decode code 562 = .ok (.i2l, 1) := by decide +kernel
theorem d_La_law_563 : decode code 563 = .ok (.lcmp, 1) := by decide +kernel
theorem d_La_law_564 : decode code 564 = .ok (.ifCond .eq 5, 3) := by decide +kernel
theorem d_La_law_567 : decode code 567 = .ok (.iconst 0, 1) := by decide +kernel
theorem d_La_law_568 : decode code 568 = .ok (.ireturn, 1) := by decide +kernel
theorem d_La_law_569 : decode code 569 = .ok (.goto 229, 3) := by decide +kernel
theorem d_La_law_572 : decode code 572 = .ok (.aload_n 1, 1) := by decide +kernel
theorem d_La_law_573 : decode code 573 = .ok (.aload_n 0, 1) := by decide +kernel
theorem d_La_law_574 : decode code 574 = .ok (.iload 4, 2) := by decide +kernel
theorem d_La_law_576 : decode code 576 = .ok (.iconst 1, 1) := by decide +kernel
theorem d_La_law_577 : decode code 577 = .ok (.iadd, 1) := by decide +kernel
theorem d_La_law_578 : decode code 578 = .ok (.iaload, 1) := by decide +kernel
theorem d_La_law_579 : decode code 579 = .ok (.aload_n 3, 1) := by decide +kernel
theorem d_La_law_580 : decode code 580 = .ok (.invokestatic 100, 3) := by decide +kernel
theorem d_La_law_583 : decode code 583 = .ok (.istore 5, 2) := by decide +kernel
theorem d_La_law_585 : decode code 585 = .ok (.aload_n 2, 1) := by decide +kernel
theorem d_La_law_586 : decode code 586 = .ok (.aload_n 0, 1) := by decide +kernel
theorem d_La_law_587 : decode code 587 = .ok (.iload 4, 2) := by decide +kernel
theorem d_La_law_589 : decode code 589 = .ok (.iconst 1, 1) := by decide +kernel
theorem d_La_law_590 : decode code 590 = .ok (.iadd, 1) := by decide +kernel
theorem d_La_law_591 : decode code 591 = .ok (.iaload, 1) := by decide +kernel
theorem d_La_law_592 : decode code 592 = .ok (.invokevirtual 102, 3) := by decide +kernel
theorem d_La_law_595 : decode code 595 = .ok (.lstore 6, 2) := by decide +kernel
theorem d_La_law_597 : decode code 597 = .ok (.aload_n 2, 1) := by decide +kernel
theorem d_La_law_598 : decode code 598 = .ok (.invokevirtual 68, 3) := by decide +kernel
theorem d_La_law_601 : decode code 601 = .ok (.iload 5, 2) := by decide +kernel
theorem d_La_law_603 : decode code 603 = .ok (.if_icmp .eq 5, 3) := by decide +kernel
theorem d_La_law_606 : decode code 606 = .ok (.iconst 0, 1) := by decide +kernel
theorem d_La_law_607 : decode code 607 = .ok (.ireturn, 1) := by decide +kernel
theorem d_La_law_608 : decode code 608 = .ok (.iload 5, 2) := by decide +kernel
theorem d_La_law_610 : decode code 610 = .ok (.ifCond .ne 14, 3) := by decide +kernel
theorem d_La_law_613 : decode code 613 = .ok (.aload_n 3, 1) := by decide +kernel
theorem d_La_law_614 : decode code 614 = .ok (.iconst 0, 1) := by decide +kernel
theorem d_La_law_615 : decode code 615 = .ok (.laload, 1) := by decide +kernel
theorem d_La_law_616 : decode code 616 = .ok (.lload 6, 2) := by decide +kernel
theorem d_La_law_618 : decode code 618 = .ok (.lcmp, 1) := by decide +kernel
theorem d_La_law_619 : decode code 619 = .ok (.ifCond .eq 5, 3) := by decide +kernel
theorem d_La_law_622 : decode code 622 = .ok (.iconst 0, 1) := by decide +kernel
theorem d_La_law_623 : decode code 623 = .ok (.ireturn, 1) := by decide +kernel
theorem d_La_law_624 : decode code 624 = .ok (.goto 174, 3) := by decide +kernel
theorem d_La_law_627 : decode code 627 = .ok (.aload_n 1, 1) := by decide +kernel
theorem d_La_law_628 : decode code 628 = .ok (.aload_n 0, 1) := by decide +kernel
theorem d_La_law_629 : decode code 629 = .ok (.iload 4, 2) := by decide +kernel
theorem d_La_law_631 : decode code 631 = .ok (.iconst 1, 1) := by decide +kernel
theorem d_La_law_632 : decode code 632 = .ok (.iadd, 1) := by decide +kernel
theorem d_La_law_633 : decode code 633 = .ok (.iaload, 1) := by decide +kernel
theorem d_La_law_634 : decode code 634 = .ok (.aload_n 0, 1) := by decide +kernel
theorem d_La_law_635 : decode code 635 = .ok (.iload 4, 2) := by decide +kernel
theorem d_La_law_637 : decode code 637 = .ok (.iconst 2, 1) := by decide +kernel
theorem d_La_law_638 : decode code 638 = .ok (.iadd, 1) := by decide +kernel
theorem d_La_law_639 : decode code 639 = .ok (.iaload, 1) := by decide +kernel
theorem d_La_law_640 : decode code 640 = .ok (.aload_n 3, 1) := by decide +kernel
theorem d_La_law_641 : decode code 641 = .ok (.invokestatic 103, 3) := by decide +kernel
theorem d_La_law_644 : decode code 644 = .ok (.istore 5, 2) := by decide +kernel
theorem d_La_law_646 : decode code 646 = .ok (.aload_n 2, 1) := by decide +kernel
theorem d_La_law_647 : decode code 647 = .ok (.aload_n 0, 1) := by decide +kernel
theorem d_La_law_648 : decode code 648 = .ok (.iload 4, 2) := by decide +kernel
theorem d_La_law_650 : decode code 650 = .ok (.iconst 1, 1) := by decide +kernel
theorem d_La_law_651 : decode code 651 = .ok (.iadd, 1) := by decide +kernel
theorem d_La_law_652 : decode code 652 = .ok (.iaload, 1) := by decide +kernel
theorem d_La_law_653 : decode code 653 = .ok (.aload_n 0, 1) := by decide +kernel
theorem d_La_law_654 : decode code 654 = .ok (.iload 4, 2) := by decide +kernel
theorem d_La_law_656 : decode code 656 = .ok (.iconst 2, 1) := by decide +kernel
theorem d_La_law_657 : decode code 657 = .ok (.iadd, 1) := by decide +kernel
theorem d_La_law_658 : decode code 658 = .ok (.iaload, 1) := by decide +kernel
theorem d_La_law_659 : decode code 659 = .ok (.invokevirtual 105, 3) := by decide +kernel
theorem d_La_law_662 : decode code 662 = .ok (.istore 6, 2) := by decide +kernel
theorem d_La_law_664 : decode code 664 = .ok (.aload_n 2, 1) := by decide +kernel
theorem d_La_law_665 : decode code 665 = .ok (.invokevirtual 68, 3) := by decide +kernel
theorem d_La_law_668 : decode code 668 = .ok (.iload 5, 2) := by decide +kernel
theorem d_La_law_670 : decode code 670 = .ok (.if_icmp .eq 5, 3) := by decide +kernel
theorem d_La_law_673 : decode code 673 = .ok (.iconst 0, 1) := by decide +kernel
theorem d_La_law_674 : decode code 674 = .ok (.ireturn, 1) := by decide +kernel
theorem d_La_law_675 : decode code 675 = .ok (.iload 5, 2) := by decide +kernel
theorem d_La_law_677 : decode code 677 = .ok (.ifCond .ne 22, 3) := by decide +kernel
theorem d_La_law_680 : decode code 680 = .ok (.aload_n 3, 1) := by decide +kernel
theorem d_La_law_681 : decode code 681 = .ok (.iconst 0, 1) := by decide +kernel
theorem d_La_law_682 : decode code 682 = .ok (.laload, 1) := by decide +kernel
theorem d_La_law_683 : decode code 683 = .ok (.iload 6, 2) := by decide +kernel
theorem d_La_law_685 : decode code 685 = .ok (.ifCond .eq 7, 3) := by decide +kernel
theorem d_La_law_688 : decode code 688 = .ok (.lconst 1, 1) := by decide +kernel
theorem d_La_law_689 : decode code 689 = .ok (.goto 4, 3) := by decide +kernel
theorem d_La_law_692 : decode code 692 = .ok (.lconst 0, 1) := by decide +kernel
theorem d_La_law_693 : decode code 693 = .ok (.lcmp, 1) := by decide +kernel
theorem d_La_law_694 : decode code 694 = .ok (.ifCond .eq 5, 3) := by decide +kernel
theorem d_La_law_697 : decode code 697 = .ok (.iconst 0, 1) := by decide +kernel
theorem d_La_law_698 : decode code 698 = .ok (.ireturn, 1) := by decide +kernel
theorem d_La_law_699 : decode code 699 = .ok (.goto 99, 3) := by decide +kernel
theorem d_La_law_702 : decode code 702 = .ok (.aload_n 1, 1) := by decide +kernel
theorem d_La_law_703 : decode code 703 = .ok (.aload_n 0, 1) := by decide +kernel
theorem d_La_law_704 : decode code 704 = .ok (.iload 4, 2) := by decide +kernel
theorem d_La_law_706 : decode code 706 = .ok (.iconst 1, 1) := by decide +kernel
theorem d_La_law_707 : decode code 707 = .ok (.iadd, 1) := by decide +kernel
theorem d_La_law_708 : decode code 708 = .ok (.iaload, 1) := by decide +kernel
theorem d_La_law_709 : decode code 709 = .ok (.aload_n 3, 1) := by decide +kernel
theorem d_La_law_710 : decode code 710 = .ok (.invokestatic 106, 3) := by decide +kernel
theorem d_La_law_713 : decode code 713 = .ok (.istore 5, 2) := by decide +kernel
theorem d_La_law_715 : decode code 715 = .ok (.aload_n 2, 1) := by decide +kernel
theorem d_La_law_716 : decode code 716 = .ok (.aload_n 0, 1) := by decide +kernel
theorem d_La_law_717 : decode code 717 = .ok (.iload 4, 2) := by decide +kernel
theorem d_La_law_719 : decode code 719 = .ok (.iconst 1, 1) := by decide +kernel
theorem d_La_law_720 : decode code 720 = .ok (.iadd, 1) := by decide +kernel
