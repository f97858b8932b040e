theorem d_Co_advance_25 : decode b_Co_advance 25 = .ok (.getfield 20, 3) := by decide +kernel
theorem d_Co_advance_28 : decode b_Co_advance 28 = .ok (.invokevirtual 72, 3) := by decide +kernel
theorem d_Co_advance_31 : decode b_Co_advance 31 = .ok (.ifCond .eq 15, 3) := by decide +kernel
theorem d_Co_advance_34 : decode b_Co_advance 34 = .ok (.aload_n 0, 1) := by decide +kernel
theorem d_Co_advance_35 : decode b_Co_advance 35 = .ok (.getstatic 69, 3) := by decide +kernel
theorem d_Co_advance_38 : decode b_Co_advance 38 = .ok (.putfield 30, 3) := by decide +kernel
theorem d_Co_advance_41 : decode b_Co_advance 41 = .ok (.aload_n 0, 1) := by decide +kernel
theorem d_Co_advance_42 : decode b_Co_advance 42 = .ok (.iconst 1, 1) := by decide +kernel
theorem d_Co_advance_43 : decode b_Co_advance 43 = .ok (.putfield 33, 3) := by decide +kernel
theorem d_Co_advance_46 : decode b_Co_advance 46 = .ok (.aload_n 0, 1) := by decide +kernel
theorem d_Co_advance_47 : decode b_Co_advance 47 = .ok (.getfield 30, 3) := by decide +kernel
theorem d_Co_advance_50 : decode b_Co_advance 50 = .ok (.getstatic 52, 3) := by decide +kernel
theorem d_Co_advance_53 : decode b_Co_advance 53 = .ok (.if_acmp .ne 13, 3) := by decide +kernel
theorem d_Co_advance_56 : decode b_Co_advance 56 = .ok (.aload_n 0, 1) := by decide +kernel
theorem d_Co_advance_57 : decode b_Co_advance 57 = .ok (.getfield 20, 3) := by decide +kernel
theorem d_Co_advance_60 : decode b_Co_advance 60 = .ok (.invokevirtual 76, 3) := by decide +kernel
theorem d_Co_advance_63 : decode b_Co_advance 63 = .ok (.goto 7, 3) := by decide +kernel
theorem d_Co_advance_66 : decode b_Co_advance 66 = .ok (.aload_n 0, 1) := by decide +kernel
theorem d_Co_advance_67 : decode b_Co_advance 67 = .ok (.invokevirtual 79, 3) := by decide +kernel
theorem d_Co_advance_70 : decode b_Co_advance 70 = .ok (.return_, 1) := by decide +kernel
theorem d_Co_begin_0 : decode b_Co_begin 0 = .ok (.aload_n 0, 1) := by decide +kernel
theorem d_Co_begin_1 : decode b_Co_begin 1 = .ok (.getstatic 52, 3) := by decide +kernel
theorem d_Co_begin_4 : decode b_Co_begin 4 = .ok (.putfield 30, 3) := by decide +kernel
theorem d_Co_begin_7 : decode b_Co_begin 7 = .ok (.aload_n 0, 1) := by decide +kernel
theorem d_Co_begin_8 : decode b_Co_begin 8 = .ok (.getfield 20, 3) := by decide +kernel
theorem d_Co_begin_11 : decode b_Co_begin 11 = .ok (.iconst 0, 1) := by decide +kernel
theorem d_Co_begin_12 : decode b_Co_begin 12 = .ok (.invokevirtual 82, 3) := by decide +kernel
theorem d_Co_begin_15 : decode b_Co_begin 15 = .ok (.return_, 1) := by decide +kernel
theorem d_Co_sweepOne_0 : decode b_Co_sweepOne 0 = .ok (.aload_n 0, 1) := by decide +kernel
theorem d_Co_sweepOne_1 : decode b_Co_sweepOne 1 = .ok (.getfield 20, 3) := by decide +kernel
theorem d_Co_sweepOne_4 : decode b_Co_sweepOne 4 = .ok (.aload_n 0, 1) := by decide +kernel
theorem d_Co_sweepOne_5 : decode b_Co_sweepOne 5 = .ok (.getfield 33, 3) := by decide +kernel
theorem d_Co_sweepOne_8 : decode b_Co_sweepOne 8 = .ok (.invokevirtual 85, 3) := by decide +kernel
theorem d_Co_sweepOne_11 : decode b_Co_sweepOne 11 = .ok (.ifCond .eq 17, 3) := by decide +kernel
theorem d_Co_sweepOne_14 : decode b_Co_sweepOne 14 = .ok (.aload_n 0, 1) := by decide +kernel
theorem d_Co_sweepOne_15 : decode b_Co_sweepOne 15 = .ok (.getfield 20, 3) := by decide +kernel
theorem d_Co_sweepOne_18 : decode b_Co_sweepOne 18 = .ok (.aload_n 0, 1) := by decide +kernel
theorem d_Co_sweepOne_19 : decode b_Co_sweepOne 19 = .ok (.getfield 33, 3) := by decide +kernel
theorem d_Co_sweepOne_22 : decode b_Co_sweepOne 22 = .ok (.invokevirtual 88, 3) := by decide +kernel
theorem d_Co_sweepOne_25 : decode b_Co_sweepOne 25 = .ok (.goto 28, 3) := by decide +kernel
theorem d_Co_sweepOne_28 : decode b_Co_sweepOne 28 = .ok (.aload_n 0, 1) := by decide +kernel
theorem d_Co_sweepOne_29 : decode b_Co_sweepOne 29 = .ok (.getfield 9, 3) := by decide +kernel
theorem d_Co_sweepOne_32 : decode b_Co_sweepOne 32 = .ok (.aload_n 0, 1) := by decide +kernel
theorem d_Co_sweepOne_33 : decode b_Co_sweepOne 33 = .ok (.getfield 33, 3) := by decide +kernel
theorem d_Co_sweepOne_36 : decode b_Co_sweepOne 36 = .ok (.invokevirtual 91, 3) := by decide +kernel
theorem d_Co_sweepOne_39 : decode b_Co_sweepOne 39 = .ok (.ifCond .ne 14, 3) := by decide +kernel
theorem d_Co_sweepOne_42 : decode b_Co_sweepOne 42 = .ok (.aload_n 0, 1) := by decide +kernel
theorem d_Co_sweepOne_43 : decode b_Co_sweepOne 43 = .ok (.getfield 9, 3) := by decide +kernel
theorem d_Co_sweepOne_46 : decode b_Co_sweepOne 46 = .ok (.aload_n 0, 1) := by decide +kernel
theorem d_Co_sweepOne_47 : decode b_Co_sweepOne 47 = .ok (.getfield 33, 3) := by decide +kernel
theorem d_Co_sweepOne_50 : decode b_Co_sweepOne 50 = .ok (.invokevirtual 94, 3) := by decide +kernel
theorem d_Co_sweepOne_53 : decode b_Co_sweepOne 53 = .ok (.aload_n 0, 1) := by decide +kernel
theorem d_Co_sweepOne_54 : decode b_Co_sweepOne 54 = .ok (.dup, 1) := by decide +kernel
theorem d_Co_sweepOne_55 : decode b_Co_sweepOne 55 = .ok (.getfield 33, 3) := by decide +kernel
theorem d_Co_sweepOne_58 : decode b_Co_sweepOne 58 = .ok (.iconst 1, 1) := by decide +kernel
theorem d_Co_sweepOne_59 : decode b_Co_sweepOne 59 = .ok (.iadd, 1) := by decide +kernel
theorem d_Co_sweepOne_60 : decode b_Co_sweepOne 60 = .ok (.putfield 33, 3) := by decide +kernel
theorem d_Co_sweepOne_63 : decode b_Co_sweepOne 63 = .ok (.aload_n 0, 1) := by decide +kernel
theorem d_Co_sweepOne_64 : decode b_Co_sweepOne 64 = .ok (.getfield 33, 3) := by decide +kernel
theorem d_Co_sweepOne_67 : decode b_Co_sweepOne 67 = .ok (.aload_n 0, 1) := by decide +kernel
theorem d_Co_sweepOne_68 : decode b_Co_sweepOne 68 = .ok (.getfield 9, 3) := by decide +kernel
theorem d_Co_sweepOne_71 : decode b_Co_sweepOne 71 = .ok (.invokevirtual 97, 3) := by decide +kernel
theorem d_Co_sweepOne_74 : decode b_Co_sweepOne 74 = .ok (.if_icmp .le 10, 3) := by decide +kernel
theorem d_Co_sweepOne_77 : decode b_Co_sweepOne 77 = .ok (.aload_n 0, 1) := by decide +kernel
theorem d_Co_sweepOne_78 : decode b_Co_sweepOne 78 = .ok (.getstatic 24, 3) := by decide +kernel
theorem d_Co_sweepOne_81 : decode b_Co_sweepOne 81 = .ok (.putfield 30, 3) := by decide +kernel
theorem d_Co_sweepOne_84 : decode b_Co_sweepOne 84 = .ok (.return_, 1) := by decide +kernel
theorem d_Ma_init_0 : decode b_Ma_init 0 = .ok (.aload_n 0, 1) := by decide +kernel
theorem d_Ma_init_1 : decode b_Ma_init 1 = .ok (.invokespecial 3, 3) := by decide +kernel
theorem d_Ma_init_4 : decode b_Ma_init 4 = .ok (.aload_n 0, 1) := by decide +kernel
theorem d_Ma_init_5 : decode b_Ma_init 5 = .ok (.aload_n 1, 1) := by decide +kernel
theorem d_Ma_init_6 : decode b_Ma_init 6 = .ok (.putfield 9, 3) := by decide +kernel
theorem d_Ma_init_9 : decode b_Ma_init 9 = .ok (.aload_n 0, 1) := by decide +kernel
theorem d_Ma_init_10 : decode b_Ma_init 10 = .ok (.sipush 601, 3) := by decide +kernel
theorem d_Ma_init_13 : decode b_Ma_init 13 = .ok (.newarray .int, 2) := by decide +kernel
theorem d_Ma_init_15 : decode b_Ma_init 15 = .ok (.putfield 15, 3) := by decide +kernel
theorem d_Ma_init_18 : decode b_Ma_init 18 = .ok (.aload_n 0, 1) := by decide +kernel
theorem d_Ma_init_19 : decode b_Ma_init 19 = .ok (.sipush 600, 3) := by decide +kernel
theorem d_Ma_init_22 : decode b_Ma_init 22 = .ok (.newarray .int, 2) := by decide +kernel
theorem d_Ma_init_24 : decode b_Ma_init 24 = .ok (.putfield 19, 3) := by decide +kernel
theorem d_Ma_init_27 : decode b_Ma_init 27 = .ok (.aload_n 0, 1) := by decide +kernel
theorem d_Ma_init_28 : decode b_Ma_init 28 = .ok (.iconst 0, 1) := by decide +kernel
theorem d_Ma_init_29 : decode b_Ma_init 29 = .ok (.putfield 22, 3) := by decide +kernel
theorem d_Ma_init_32 : decode b_Ma_init 32 = .ok (.return_, 1) := by decide +kernel
theorem d_Ma_reset_0 : decode b_Ma_reset 0 = .ok (.aload_n 0, 1) := by decide +kernel
theorem d_Ma_reset_1 : decode b_Ma_reset 1 = .ok (.getfield 15, 3) := by decide +kernel
theorem d_Ma_reset_4 : decode b_Ma_reset 4 = .ok (.iconst 0, 1) := by decide +kernel
theorem d_Ma_reset_5 : decode b_Ma_reset 5 = .ok (.invokestatic 26, 3) := by decide +kernel
theorem d_Ma_reset_8 : decode b_Ma_reset 8 = .ok (.aload_n 0, 1) := by decide +kernel
theorem d_Ma_reset_9 : decode b_Ma_reset 9 = .ok (.iconst 0, 1) := by decide +kernel
theorem d_Ma_reset_10 : decode b_Ma_reset 10 = .ok (.putfield 22, 3) := by decide +kernel
theorem d_Ma_reset_13 : decode b_Ma_reset 13 = .ok (.return_, 1) := by decide +kernel
theorem d_Ma_imitate_0 : decode b_Ma_imitate 0 = .ok (.aload_n 1, 1) := by decide +kernel
theorem d_Ma_imitate_1 : decode b_Ma_imitate 1 = .ok (.getfield 15, 3) := by decide +kernel
theorem d_Ma_imitate_4 : decode b_Ma_imitate 4 = .ok (.iconst 0, 1) := by decide +kernel
theorem d_Ma_imitate_5 : decode b_Ma_imitate 5 = .ok (.aload_n 0, 1) := by decide +kernel
theorem d_Ma_imitate_6 : decode b_Ma_imitate 6 = .ok (.getfield 15, 3) := by decide +kernel
theorem d_Ma_imitate_9 : decode b_Ma_imitate 9 = .ok (.iconst 0, 1) := by decide +kernel
theorem d_Ma_imitate_10 : decode b_Ma_imitate 10 = .ok (.aload_n 0, 1) := by decide +kernel
theorem d_Ma_imitate_11 : decode b_Ma_imitate 11 = .ok (.getfield 15, 3) := by decide +kernel
theorem d_Ma_imitate_14 : decode b_Ma_imitate 14 = .ok (.arraylength, 1) := by decide +kernel
theorem d_Ma_imitate_15 : decode b_Ma_imitate 15 = .ok (.invokestatic 32, 3) := by decide +kernel
theorem d_Ma_imitate_18 : decode b_Ma_imitate 18 = .ok (.aload_n 1, 1) := by decide +kernel
theorem d_Ma_imitate_19 : decode b_Ma_imitate 19 = .ok (.getfield 19, 3) := by decide +kernel
theorem d_Ma_imitate_22 : decode b_Ma_imitate 22 = .ok (.iconst 0, 1) := by decide +kernel
theorem d_Ma_imitate_23 : decode b_Ma_imitate 23 = .ok (.aload_n 0, 1) := by decide +kernel
theorem d_Ma_imitate_24 : decode b_Ma_imitate 24 = .ok (.getfield 19, 3) := by decide +kernel
theorem d_Ma_imitate_27 : decode b_Ma_imitate 27 = .ok (.iconst 0, 1) := by decide +kernel
theorem d_Ma_imitate_28 : decode b_Ma_imitate 28 = .ok (.aload_n 0, 1) := by decide +kernel
theorem d_Ma_imitate_29 : decode b_Ma_imitate 29 = .ok (.getfield 19, 3) := by decide +kernel
theorem d_Ma_imitate_32 : decode b_Ma_imitate 32 = .ok (.arraylength, 1) := by decide +kernel
theorem d_Ma_imitate_33 : decode b_Ma_imitate 33 = .ok (.invokestatic 32, 3) := by decide +kernel
theorem d_Ma_imitate_36 : decode b_Ma_imitate 36 = .ok (.aload_n 0, 1) := by decide +kernel
theorem d_Ma_imitate_37 : decode b_Ma_imitate 37 = .ok (.aload_n 1, 1) := by decide +kernel
theorem d_Ma_imitate_38 : decode b_Ma_imitate 38 = .ok (.getfield 22, 3) := by decide +kernel
theorem d_Ma_imitate_41 : decode b_Ma_imitate 41 = .ok (.putfield 22, 3) := by decide +kernel
theorem d_Ma_imitate_44 : decode b_Ma_imitate 44 = .ok (.return_, 1) := by decide +kernel
theorem d_Ma_isDone_0 : decode b_Ma_isDone 0 = .ok (.aload_n 0, 1) := by decide +kernel
theorem d_Ma_isDone_1 : decode b_Ma_isDone 1 = .ok (.getfield 22, 3) := by decide +kernel
theorem d_Ma_isDone_4 : decode b_Ma_isDone 4 = .ok (.ifCond .ne 7, 3) := by decide +kernel
theorem d_Ma_isDone_7 : decode b_Ma_isDone 7 = .ok (.iconst 1, 1) := by decide +kernel
theorem d_Ma_isDone_8 : decode b_Ma_isDone 8 = .ok (.goto 4, 3) := by decide +kernel
theorem d_Ma_isDone_11 : decode b_Ma_isDone 11 = .ok (.iconst 0, 1) := by decide +kernel
theorem d_Ma_isDone_12 : decode b_Ma_isDone 12 = .ok (.ireturn, 1) := by decide +kernel
theorem d_Ma_isWhite_0 : decode b_Ma_isWhite 0 = .ok (.aload_n 0, 1) := by decide +kernel
theorem d_Ma_isWhite_1 : decode b_Ma_isWhite 1 = .ok (.getfield 9, 3) := by decide +kernel
theorem d_Ma_isWhite_4 : decode b_Ma_isWhite 4 = .ok (.iload_n 1, 1) := by decide +kernel
theorem d_Ma_isWhite_5 : decode b_Ma_isWhite 5 = .ok (.invokevirtual 38, 3) := by decide +kernel
theorem d_Ma_isWhite_8 : decode b_Ma_isWhite 8 = .ok (.ifCond .eq 16, 3) := by decide +kernel
theorem d_Ma_isWhite_11 : decode b_Ma_isWhite 11 = .ok (.aload_n 0, 1) := by decide +kernel
theorem d_Ma_isWhite_12 : decode b_Ma_isWhite 12 = .ok (.getfield 15, 3) := by decide +kernel
theorem d_Ma_isWhite_15 : decode b_Ma_isWhite 15 = .ok (.iload_n 1, 1) := by decide +kernel
theorem d_Ma_isWhite_16 : decode b_Ma_isWhite 16 = .ok (.iaload, 1) := by decide +kernel
theorem d_Ma_isWhite_17 : decode b_Ma_isWhite 17 = .ok (.ifCond .ne 7, 3) := by decide +kernel
theorem d_Ma_isWhite_20 : decode b_Ma_isWhite 20 = .ok (.iconst 1, 1) := by decide +kernel
theorem d_Ma_isWhite_21 : decode b_Ma_isWhite 21 = .ok (.goto 4, 3) := by decide +kernel
theorem d_Ma_isWhite_24 : decode b_Ma_isWhite 24 = .ok (.iconst 0, 1) := by decide +kernel
theorem d_Ma_isWhite_25 : decode b_Ma_isWhite 25 = .ok (.ireturn, 1) := by decide +kernel
theorem d_Ma_isGrey_0 : decode b_Ma_isGrey 0 = .ok (.aload_n 0, 1) := by decide +kernel
theorem d_Ma_isGrey_1 : decode b_Ma_isGrey 1 = .ok (.getfield 9, 3) := by decide +kernel
theorem d_Ma_isGrey_4 : decode b_Ma_isGrey 4 = .ok (.iload_n 1, 1) := by decide +kernel
theorem d_Ma_isGrey_5 : decode b_Ma_isGrey 5 = .ok (.invokevirtual 38, 3) := by decide +kernel
theorem d_Ma_isGrey_8 : decode b_Ma_isGrey 8 = .ok (.ifCond .eq 17, 3) := by decide +kernel
theorem d_Ma_isGrey_11 : decode b_Ma_isGrey 11 = .ok (.aload_n 0, 1) := by decide +kernel
theorem d_Ma_isGrey_12 : decode b_Ma_isGrey 12 = .ok (.getfield 15, 3) := by decide +kernel
theorem d_Ma_isGrey_15 : decode b_Ma_isGrey 15 = .ok (.iload_n 1, 1) := by decide +kernel
theorem d_Ma_isGrey_16 : decode b_Ma_isGrey 16 = .ok (.iaload, 1) := by decide +kernel
theorem d_Ma_isGrey_17 : decode b_Ma_isGrey 17 = .ok (.iconst 1, 1) := by decide +kernel
theorem d_Ma_isGrey_18 : decode b_Ma_isGrey 18 = .ok (.if_icmp .ne 7, 3) := by decide +kernel
theorem d_Ma_isGrey_21 : decode b_Ma_isGrey 21 = .ok (.iconst 1, 1) := by decide +kernel
theorem d_Ma_isGrey_22 : decode b_Ma_isGrey 22 = .ok (.goto 4, 3) := by decide +kernel
theorem d_Ma_isGrey_25 : decode b_Ma_isGrey 25 = .ok (.iconst 0, 1) := by decide +kernel
theorem d_Ma_isGrey_26 : decode b_Ma_isGrey 26 = .ok (.ireturn, 1) := by decide +kernel
theorem d_Ma_isBlack_0 : decode b_Ma_isBlack 0 = .ok (.aload_n 0, 1) := by decide +kernel
theorem d_Ma_isBlack_1 : decode b_Ma_isBlack 1 = .ok (.getfield 9, 3) := by decide +kernel
theorem d_Ma_isBlack_4 : decode b_Ma_isBlack 4 = .ok (.iload_n 1, 1) := by decide +kernel
theorem d_Ma_isBlack_5 : decode b_Ma_isBlack 5 = .ok (.invokevirtual 38, 3) := by decide +kernel
theorem d_Ma_isBlack_8 : decode b_Ma_isBlack 8 = .ok (.ifCond .eq 17, 3) := by decide +kernel
theorem d_Ma_isBlack_11 : decode b_Ma_isBlack 11 = .ok (.aload_n 0, 1) := by decide +kernel
theorem d_Ma_isBlack_12 : decode b_Ma_isBlack 12 = .ok (.getfield 15, 3) := by decide +kernel
theorem d_Ma_isBlack_15 : decode b_Ma_isBlack 15 = .ok (.iload_n 1, 1) := by decide +kernel
theorem d_Ma_isBlack_16 : decode b_Ma_isBlack 16 = .ok (.iaload, 1) := by decide +kernel
theorem d_Ma_isBlack_17 : decode b_Ma_isBlack 17 = .ok (.iconst 2, 1) := by decide +kernel
theorem d_Ma_isBlack_18 : decode b_Ma_isBlack 18 = .ok (.if_icmp .ne 7, 3) := by decide +kernel
theorem d_Ma_isBlack_21 : decode b_Ma_isBlack 21 = .ok (.iconst 1, 1) := by decide +kernel
theorem d_Ma_isBlack_22 : decode b_Ma_isBlack 22 = .ok (.goto 4, 3) := by decide +kernel
theorem d_Ma_isBlack_25 : decode b_Ma_isBlack 25 = .ok (.iconst 0, 1) := by decide +kernel
theorem d_Ma_isBlack_26 : decode b_Ma_isBlack 26 = .ok (.ireturn, 1) := by decide +kernel
theorem d_Ma_whiten_0 : decode b_Ma_whiten 0 = .ok (.aload_n 0, 1) := by decide +kernel
theorem d_Ma_whiten_1 : decode b_Ma_whiten 1 = .ok (.getfield 9, 3) := by decide +kernel
theorem d_Ma_whiten_4 : decode b_Ma_whiten 4 = .ok (.iload_n 1, 1) := by decide +kernel
theorem d_Ma_whiten_5 : decode b_Ma_whiten 5 = .ok (.invokevirtual 38, 3) := by decide +kernel
theorem d_Ma_whiten_8 : decode b_Ma_whiten 8 = .ok (.ifCond .eq 10, 3) := by decide +kernel
theorem d_Ma_whiten_11 : decode b_Ma_whiten 11 = .ok (.aload_n 0, 1) := by decide +kernel
theorem d_Ma_whiten_12 : decode b_Ma_whiten 12 = .ok (.getfield 15, 3) := by decide +kernel
theorem d_Ma_whiten_15 : decode b_Ma_whiten 15 = .ok (.iload_n 1, 1) := by decide +kernel
theorem d_Ma_whiten_16 : decode b_Ma_whiten 16 = .ok (.iconst 0, 1) := by decide +kernel
theorem d_Ma_whiten_17 : decode b_Ma_whiten 17 = .ok (.iastore, 1) := by decide +kernel
theorem d_Ma_whiten_18 : decode b_Ma_whiten 18 = .ok (.return_, 1) := by decide +kernel
theorem d_Ma_blacken_0 : decode b_Ma_blacken 0 = .ok (.aload_n 0, 1) := by decide +kernel
theorem d_Ma_blacken_1 : decode b_Ma_blacken 1 = .ok (.getfield 9, 3) := by decide +kernel
theorem d_Ma_blacken_4 : decode b_Ma_blacken 4 = .ok (.iload_n 1, 1) := by decide +kernel
theorem d_Ma_blacken_5 : decode b_Ma_blacken 5 = .ok (.invokevirtual 38, 3) := by decide +kernel
theorem d_Ma_blacken_8 : decode b_Ma_blacken 8 = .ok (.ifCond .eq 10, 3) := by decide +kernel
theorem d_Ma_blacken_11 : decode b_Ma_blacken 11 = .ok (.aload_n 0, 1) := by decide +kernel
theorem d_Ma_blacken_12 : decode b_Ma_blacken 12 = .ok (.getfield 15, 3) := by decide +kernel
theorem d_Ma_blacken_15 : decode b_Ma_blacken 15 = .ok (.iload_n 1, 1) := by decide +kernel
theorem d_Ma_blacken_16 : decode b_Ma_blacken 16 = .ok (.iconst 2, 1) := by decide +kernel
theorem d_Ma_blacken_17 : decode b_Ma_blacken 17 = .ok (.iastore, 1) := by decide +kernel
theorem d_Ma_blacken_18 : decode b_Ma_blacken 18 = .ok (.return_, 1) := by decide +kernel
theorem d_Ma_shade_0 : decode b_Ma_shade 0 = .ok (.aload_n 0, 1) := by decide +kernel
theorem d_Ma_shade_1 : decode b_Ma_shade 1 = .ok (.getfield 9, 3) := by decide +kernel
theorem d_Ma_shade_4 : decode b_Ma_shade 4 = .ok (.iload_n 1, 1) := by decide +kernel
theorem d_Ma_shade_5 : decode b_Ma_shade 5 = .ok (.invokevirtual 38, 3) := by decide +kernel
theorem d_Ma_shade_8 : decode b_Ma_shade 8 = .ok (.ifCond .eq 51, 3) := by decide +kernel
theorem d_Ma_shade_11 : decode b_Ma_shade 11 = .ok (.aload_n 0, 1) := by decide +kernel
theorem d_Ma_shade_12 : decode b_Ma_shade 12 = .ok (.getfield 15, 3) := by decide +kernel
theorem d_Ma_shade_15 : decode b_Ma_shade 15 = .ok (.iload_n 1, 1) := by decide +kernel
theorem d_Ma_shade_16 : decode b_Ma_shade 16 = .ok (.iaload, 1) := by decide +kernel
theorem d_Ma_shade_17 : decode b_Ma_shade 17 = .ok (.ifCond .ne 42, 3) := by decide +kernel
theorem d_Ma_shade_20 : decode b_Ma_shade 20 = .ok (.aload_n 0, 1) := by decide +kernel
theorem d_Ma_shade_21 : decode b_Ma_shade 21 = .ok (.getfield 22, 3) := by decide +kernel
theorem d_Ma_shade_24 : decode b_Ma_shade 24 = .ok (.aload_n 0, 1) := by decide +kernel
theorem d_Ma_shade_25 : decode b_Ma_shade 25 = .ok (.getfield 19, 3) := by decide +kernel
theorem d_Ma_shade_28 : decode b_Ma_shade 28 = .ok (.arraylength, 1) := by decide +kernel
theorem d_Ma_shade_29 : decode b_Ma_shade 29 = .ok (.if_icmp .ge 30, 3) := by decide +kernel
theorem d_Ma_shade_32 : decode b_Ma_shade 32 = .ok (.aload_n 0, 1) := by decide +kernel
theorem d_Ma_shade_33 : decode b_Ma_shade 33 = .ok (.getfield 15, 3) := by decide +kernel
theorem d_Ma_shade_36 : decode b_Ma_shade 36 = .ok (.iload_n 1, 1) := by decide +kernel
theorem d_Ma_shade_37 : decode b_Ma_shade 37 = .ok (.iconst 1, 1) := by decide +kernel
theorem d_Ma_shade_38 : decode b_Ma_shade 38 = .ok (.iastore, 1) := by decide +kernel
theorem d_Ma_shade_39 : decode b_Ma_shade 39 = .ok (.aload_n 0, 1) := by decide +kernel
theorem d_Ma_shade_40 : decode b_Ma_shade 40 = .ok (.getfield 19, 3) := by decide +kernel
theorem d_Ma_shade_43 : decode b_Ma_shade 43 = .ok (.aload_n 0, 1) := by decide +kernel
theorem d_Ma_shade_44 : decode b_Ma_shade 44 = .ok (.getfield 22, 3) := by decide +kernel
theorem d_Ma_shade_47 : decode b_Ma_shade 47 = .ok (.iload_n 1, 1) := by decide +kernel
theorem d_Ma_shade_48 : decode b_Ma_shade 48 = .ok (.iastore, 1) := by decide +kernel
theorem d_Ma_shade_49 : decode b_Ma_shade 49 = .ok (.aload_n 0, 1) := by decide +kernel
theorem d_Ma_shade_50 : decode b_Ma_shade 50 = .ok (.dup, 1) := by decide +kernel
theorem d_Ma_shade_51 : decode b_Ma_shade 51 = .ok (.getfield 22, 3) := by decide +kernel
theorem d_Ma_shade_54 : decode b_Ma_shade 54 = .ok (.iconst 1, 1) := by decide +kernel
theorem d_Ma_shade_55 : decode b_Ma_shade 55 = .ok (.iadd, 1) := by decide +kernel
theorem d_Ma_shade_56 : decode b_Ma_shade 56 = .ok (.putfield 22, 3) := by decide +kernel
theorem d_Ma_shade_59 : decode b_Ma_shade 59 = .ok (.return_, 1) := by decide +kernel
theorem d_Ma_shadeValuesOf_0 : decode b_Ma_shadeValuesOf 0 = .ok (.aload_n 0, 1) := by decide +kernel
theorem d_Ma_shadeValuesOf_1 : decode b_Ma_shadeValuesOf 1 = .ok (.getfield 9, 3) := by decide +kernel
theorem d_Ma_shadeValuesOf_4 : decode b_Ma_shadeValuesOf 4 = .ok (.iload_n 1, 1) := by decide +kernel
theorem d_Ma_shadeValuesOf_5 : decode b_Ma_shadeValuesOf 5 = .ok (.invokevirtual 44, 3) := by decide +kernel
theorem d_Ma_shadeValuesOf_8 : decode b_Ma_shadeValuesOf 8 = .ok (.istore_n 2, 1) := by decide +kernel
theorem d_Ma_shadeValuesOf_9 : decode b_Ma_shadeValuesOf 9 = .ok (.iconst 0, 1) := by decide +kernel
theorem d_Ma_shadeValuesOf_10 : decode b_Ma_shadeValuesOf 10 = .ok (.istore_n 3, 1) := by decide +kernel
theorem d_Ma_shadeValuesOf_11 : decode b_Ma_shadeValuesOf 11 = .ok (.iload_n 3, 1) := by decide +kernel
theorem d_Ma_shadeValuesOf_12 : decode b_Ma_shadeValuesOf 12 = .ok (.iload_n 2, 1) := by decide +kernel
theorem d_Ma_shadeValuesOf_13 : decode b_Ma_shadeValuesOf 13 = .ok (.if_icmp .ge 25, 3) := by decide +kernel
theorem d_Ma_shadeValuesOf_16 : decode b_Ma_shadeValuesOf 16 = .ok (.aload_n 0, 1) := by decide +kernel
theorem d_Ma_shadeValuesOf_17 : decode b_Ma_shadeValuesOf 17 = .ok (.aload_n 0, 1) := by decide +kernel
theorem d_Ma_shadeValuesOf_18 : decode b_Ma_shadeValuesOf 18 = .ok (.getfield 9, 3) := by decide +kernel
theorem d_Ma_shadeValuesOf_21 : decode b_Ma_shadeValuesOf 21 = .ok (.iload_n 1, 1) := by decide +kernel
theorem d_Ma_shadeValuesOf_22 : decode b_Ma_shadeValuesOf 22 = .ok (.iload_n 3, 1) := by decide +kernel
theorem d_Ma_shadeValuesOf_23 : decode b_Ma_shadeValuesOf 23 = .ok (.invokestatic 48, 3) := by decide +kernel
theorem d_Ma_shadeValuesOf_26 : decode b_Ma_shadeValuesOf 26 = .ok (.invokevirtual 52, 3) := by decide +kernel
theorem d_Ma_shadeValuesOf_29 : decode b_Ma_shadeValuesOf 29 = .ok (.invokevirtual 55, 3) := by decide +kernel
theorem d_Ma_shadeValuesOf_32 : decode b_Ma_shadeValuesOf 32 = .ok (.iinc 3 1, 3) := by decide +kernel
theorem d_Ma_shadeValuesOf_35 : decode b_Ma_shadeValuesOf 35 = .ok (.goto (-24), 3) := by decide +kernel
theorem d_Ma_shadeValuesOf_38 : decode b_Ma_shadeValuesOf 38 = .ok (.return_, 1) := by decide +kernel
theorem d_Ma_markOne_0 : decode b_Ma_markOne 0 = .ok (.aload_n 0, 1) := by decide +kernel
theorem d_Ma_markOne_1 : decode b_Ma_markOne 1 = .ok (.getfield 22, 3) := by decide +kernel
theorem d_Ma_markOne_4 : decode b_Ma_markOne 4 = .ok (.ifCond .le 33, 3) := by decide +kernel
theorem d_Ma_markOne_7 : decode b_Ma_markOne 7 = .ok (.aload_n 0, 1) := by decide +kernel
theorem d_Ma_markOne_8 : decode b_Ma_markOne 8 = .ok (.dup, 1) := by decide +kernel
theorem d_Ma_markOne_9 : decode b_Ma_markOne 9 = .ok (.getfield 22, 3) := by decide +kernel
theorem d_Ma_markOne_12 : decode b_Ma_markOne 12 = .ok (.iconst 1, 1) := by decide +kernel
theorem d_Ma_markOne_13 : decode b_Ma_markOne 13 = .ok (.isub, 1) := by decide +kernel
theorem d_Ma_markOne_14 : decode b_Ma_markOne 14 = .ok (.putfield 22, 3) := by decide +kernel
theorem d_Ma_markOne_17 : decode b_Ma_markOne 17 = .ok (.aload_n 0, 1) := by decide +kernel
theorem d_Ma_markOne_18 : decode b_Ma_markOne 18 = .ok (.getfield 19, 3) := by decide +kernel
theorem d_Ma_markOne_21 : decode b_Ma_markOne 21 = .ok (.aload_n 0, 1) := by decide +kernel
theorem d_Ma_markOne_22 : decode b_Ma_markOne 22 = .ok (.getfield 22, 3) := by decide +kernel
theorem d_Ma_markOne_25 : decode b_Ma_markOne 25 = .ok (.iaload, 1) := by decide +kernel
theorem d_Ma_markOne_26 : decode b_Ma_markOne 26 = .ok (.istore_n 1, 1) := by decide +kernel
theorem d_Ma_markOne_27 : decode b_Ma_markOne 27 = .ok (.aload_n 0, 1) := by decide +kernel
theorem d_Ma_markOne_28 : decode b_Ma_markOne 28 = .ok (.iload_n 1, 1) := by decide +kernel
theorem d_Ma_markOne_29 : decode b_Ma_markOne 29 = .ok (.invokevirtual 59, 3) := by decide +kernel
theorem d_Ma_markOne_32 : decode b_Ma_markOne 32 = .ok (.aload_n 0, 1) := by decide +kernel
theorem d_Ma_markOne_33 : decode b_Ma_markOne 33 = .ok (.iload_n 1, 1) := by decide +kernel
theorem d_Ma_markOne_34 : decode b_Ma_markOne 34 = .ok (.invokevirtual 62, 3) := by decide +kernel
theorem d_Ma_markOne_37 : decode b_Ma_markOne 37 = .ok (.return_, 1) := by decide +kernel
theorem d_St_init_0 : decode b_St_init 0 = .ok (.aload_n 0, 1) := by decide +kernel
theorem d_St_init_1 : decode b_St_init 1 = .ok (.invokespecial 3, 3) := by decide +kernel
theorem d_St_init_4 : decode b_St_init 4 = .ok (.aload_n 0, 1) := by decide +kernel
theorem d_St_init_5 : decode b_St_init 5 = .ok (.sipush 601, 3) := by decide +kernel
theorem d_St_init_8 : decode b_St_init 8 = .ok (.newarray .int, 2) := by decide +kernel
theorem d_St_init_10 : decode b_St_init 10 = .ok (.putfield 9, 3) := by decide +kernel
theorem d_St_init_13 : decode b_St_init 13 = .ok (.aload_n 0, 1) := by decide +kernel
theorem d_St_init_14 : decode b_St_init 14 = .ok (.sipush 9616, 3) := by decide +kernel
theorem d_St_init_17 : decode b_St_init 17 = .ok (.newarray .int, 2) := by decide +kernel
theorem d_St_init_19 : decode b_St_init 19 = .ok (.putfield 15, 3) := by decide +kernel
theorem d_St_init_22 : decode b_St_init 22 = .ok (.aload_n 0, 1) := by decide +kernel
theorem d_St_init_23 : decode b_St_init 23 = .ok (.sipush 9616, 3) := by decide +kernel
theorem d_St_init_26 : decode b_St_init 26 = .ok (.newarray .long, 2) := by decide +kernel
theorem d_St_init_28 : decode b_St_init 28 = .ok (.putfield 18, 3) := by decide +kernel
theorem d_St_init_31 : decode b_St_init 31 = .ok (.aload_n 0, 1) := by decide +kernel
theorem d_St_init_32 : decode b_St_init 32 = .ok (.sipush 600, 3) := by decide +kernel
theorem d_St_init_35 : decode b_St_init 35 = .ok (.newarray .int, 2) := by decide +kernel
theorem d_St_init_37 : decode b_St_init 37 = .ok (.putfield 22, 3) := by decide +kernel
theorem d_St_init_40 : decode b_St_init 40 = .ok (.aload_n 0, 1) := by decide +kernel
theorem d_St_init_41 : decode b_St_init 41 = .ok (.iconst 0, 1) := by decide +kernel
theorem d_St_init_42 : decode b_St_init 42 = .ok (.putfield 25, 3) := by decide +kernel
theorem d_St_init_45 : decode b_St_init 45 = .ok (.aload_n 0, 1) := by decide +kernel
theorem d_St_init_46 : decode b_St_init 46 = .ok (.iconst 0, 1) := by decide +kernel
theorem d_St_init_47 : decode b_St_init 47 = .ok (.putfield 29, 3) := by decide +kernel
theorem d_St_init_50 : decode b_St_init 50 = .ok (.aload_n 0, 1) := by decide +kernel
theorem d_St_init_51 : decode b_St_init 51 = .ok (.iconst 0, 1) := by decide +kernel
theorem d_St_init_52 : decode b_St_init 52 = .ok (.putfield 32, 3) := by decide +kernel
theorem d_St_init_55 : decode b_St_init 55 = .ok (.aload_n 0, 1) := by decide +kernel
theorem d_St_init_56 : decode b_St_init 56 = .ok (.getfield 9, 3) := by decide +kernel
theorem d_St_init_59 : decode b_St_init 59 = .ok (.iconst (-1), 1) := by decide +kernel
theorem d_St_init_60 : decode b_St_init 60 = .ok (.invokestatic 35, 3) := by decide +kernel
theorem d_St_init_63 : decode b_St_init 63 = .ok (.aload_n 0, 1) := by decide +kernel
theorem d_St_init_64 : decode b_St_init 64 = .ok (.getfield 9, 3) := by decide +kernel
theorem d_St_init_67 : decode b_St_init 67 = .ok (.iconst 0, 1) := by decide +kernel
theorem d_St_init_68 : decode b_St_init 68 = .ok (.bipush 16, 2) := by decide +kernel
theorem d_St_init_70 : decode b_St_init 70 = .ok (.iastore, 1) := by decide +kernel
theorem d_St_init_71 : decode b_St_init 71 = .ok (.return_, 1) := by decide +kernel
theorem d_St_isTuplePlace_0 : decode b_St_isTuplePlace 0 = .ok (.iload_n 1, 1) := by decide +kernel
theorem d_St_isTuplePlace_1 : decode b_St_isTuplePlace 1 = .ok (.ifCond .le 14, 3) := by decide +kernel
theorem d_St_isTuplePlace_4 : decode b_St_isTuplePlace 4 = .ok (.iload_n 1, 1) := by decide +kernel
theorem d_St_isTuplePlace_5 : decode b_St_isTuplePlace 5 = .ok (.sipush 600, 3) := by decide +kernel
theorem d_St_isTuplePlace_8 : decode b_St_isTuplePlace 8 = .ok (.if_icmp .gt 7, 3) := by decide +kernel
theorem d_St_isTuplePlace_11 : decode b_St_isTuplePlace 11 = .ok (.iconst 1, 1) := by decide +kernel
theorem d_St_isTuplePlace_12 : decode b_St_isTuplePlace 12 = .ok (.goto 4, 3) := by decide +kernel
theorem d_St_isTuplePlace_15 : decode b_St_isTuplePlace 15 = .ok (.iconst 0, 1) := by decide +kernel
theorem d_St_isTuplePlace_16 : decode b_St_isTuplePlace 16 = .ok (.ireturn, 1) := by decide +kernel
theorem d_St_isFree_0 : decode b_St_isFree 0 = .ok (.aload_n 0, 1) := by decide +kernel
theorem d_St_isFree_1 : decode b_St_isFree 1 = .ok (.iload_n 1, 1) := by decide +kernel
theorem d_St_isFree_2 : decode b_St_isFree 2 = .ok (.invokevirtual 41, 3) := by decide +kernel
theorem d_St_isFree_5 : decode b_St_isFree 5 = .ok (.ifCond .eq 17, 3) := by decide +kernel
theorem d_St_isFree_8 : decode b_St_isFree 8 = .ok (.aload_n 0, 1) := by decide +kernel
theorem d_St_isFree_9 : decode b_St_isFree 9 = .ok (.getfield 9, 3) := by decide +kernel
theorem d_St_isFree_12 : decode b_St_isFree 12 = .ok (.iload_n 1, 1) := by decide +kernel
theorem d_St_isFree_13 : decode b_St_isFree 13 = .ok (.iaload, 1) := by decide +kernel
theorem d_St_isFree_14 : decode b_St_isFree 14 = .ok (.iconst (-1), 1) := by decide +kernel
theorem d_St_isFree_15 : decode b_St_isFree 15 = .ok (.if_icmp .ne 7, 3) := by decide +kernel
theorem d_St_isFree_18 : decode b_St_isFree 18 = .ok (.iconst 1, 1) := by decide +kernel
theorem d_St_isFree_19 : decode b_St_isFree 19 = .ok (.goto 4, 3) := by decide +kernel
theorem d_St_isFree_22 : decode b_St_isFree 22 = .ok (.iconst 0, 1) := by decide +kernel
theorem d_St_isFree_23 : decode b_St_isFree 23 = .ok (.ireturn, 1) := by decide +kernel
theorem d_St_valuesOf_0 : decode b_St_valuesOf 0 = .ok (.iload_n 1, 1) := by decide +kernel
theorem d_St_valuesOf_1 : decode b_St_valuesOf 1 = .ok (.ifCond .lt 20, 3) := by decide +kernel
theorem d_St_valuesOf_4 : decode b_St_valuesOf 4 = .ok (.iload_n 1, 1) := by decide +kernel
theorem d_St_valuesOf_5 : decode b_St_valuesOf 5 = .ok (.sipush 600, 3) := by decide +kernel
theorem d_St_valuesOf_8 : decode b_St_valuesOf 8 = .ok (.if_icmp .gt 13, 3) := by decide +kernel
theorem d_St_valuesOf_11 : decode b_St_valuesOf 11 = .ok (.aload_n 0, 1) := by decide +kernel
theorem d_St_valuesOf_12 : decode b_St_valuesOf 12 = .ok (.getfield 9, 3) := by decide +kernel
theorem d_St_valuesOf_15 : decode b_St_valuesOf 15 = .ok (.iload_n 1, 1) := by decide +kernel
theorem d_St_valuesOf_16 : decode b_St_valuesOf 16 = .ok (.iaload, 1) := by decide +kernel
theorem d_St_valuesOf_17 : decode b_St_valuesOf 17 = .ok (.iconst (-1), 1) := by decide +kernel
theorem d_St_valuesOf_18 : decode b_St_valuesOf 18 = .ok (.if_icmp .ne 7, 3) := by decide +kernel
theorem d_St_valuesOf_21 : decode b_St_valuesOf 21 = .ok (.iconst 0, 1) := by decide +kernel
theorem d_St_valuesOf_22 : decode b_St_valuesOf 22 = .ok (.goto 9, 3) := by decide +kernel
theorem d_St_valuesOf_25 : decode b_St_valuesOf 25 = .ok (.aload_n 0, 1) := by decide +kernel
theorem d_St_valuesOf_26 : decode b_St_valuesOf 26 = .ok (.getfield 9, 3) := by decide +kernel
theorem d_St_valuesOf_29 : decode b_St_valuesOf 29 = .ok (.iload_n 1, 1) := by decide +kernel
theorem d_St_valuesOf_30 : decode b_St_valuesOf 30 = .ok (.iaload, 1) := by decide +kernel
theorem d_St_valuesOf_31 : decode b_St_valuesOf 31 = .ok (.ireturn, 1) := by decide +kernel
theorem d_St_cellsFor_0 : decode b_St_cellsFor 0 = .ok (.iload_n 0, 1) := by decide +kernel
theorem d_St_cellsFor_1 : decode b_St_cellsFor 1 = .ok (.iconst 2, 1) := by decide +kernel
theorem d_St_cellsFor_2 : decode b_St_cellsFor 2 = .ok (.iadd, 1) := by decide +kernel
theorem d_St_cellsFor_3 : decode b_St_cellsFor 3 = .ok (.ireturn, 1) := by decide +kernel
theorem d_St_top_0 : decode b_St_top 0 = .ok (.aload_n 0, 1) := by decide +kernel
theorem d_St_top_1 : decode b_St_top 1 = .ok (.getfield 29, 3) := by decide +kernel
theorem d_St_top_4 : decode b_St_top 4 = .ok (.ireturn, 1) := by decide +kernel
theorem d_St_tuples_0 : decode b_St_tuples 0 = .ok (.aload_n 0, 1) := by decide +kernel
theorem d_St_tuples_1 : decode b_St_tuples 1 = .ok (.getfield 29, 3) := by decide +kernel
theorem d_St_tuples_4 : decode b_St_tuples 4 = .ok (.aload_n 0, 1) := by decide +kernel
theorem d_St_tuples_5 : decode b_St_tuples 5 = .ok (.getfield 25, 3) := by decide +kernel
theorem d_St_tuples_8 : decode b_St_tuples 8 = .ok (.isub, 1) := by decide +kernel
theorem d_St_tuples_9 : decode b_St_tuples 9 = .ok (.ireturn, 1) := by decide +kernel
theorem d_St_hasRoomFor_0 : decode b_St_hasRoomFor 0 = .ok (.aload_n 0, 1) := by decide +kernel
theorem d_St_hasRoomFor_1 : decode b_St_hasRoomFor 1 = .ok (.getfield 32, 3) := by decide +kernel
theorem d_St_hasRoomFor_4 : decode b_St_hasRoomFor 4 = .ok (.iload_n 1, 1) := by decide +kernel
theorem d_St_hasRoomFor_5 : decode b_St_hasRoomFor 5 = .ok (.invokestatic 45, 3) := by decide +kernel
theorem d_St_hasRoomFor_8 : decode b_St_hasRoomFor 8 = .ok (.iadd, 1) := by decide +kernel
theorem d_St_hasRoomFor_9 : decode b_St_hasRoomFor 9 = .ok (.sipush 1200, 3) := by decide +kernel
theorem d_St_hasRoomFor_12 : decode b_St_hasRoomFor 12 = .ok (.if_icmp .gt 7, 3) := by decide +kernel
theorem d_St_hasRoomFor_15 : decode b_St_hasRoomFor 15 = .ok (.iconst 1, 1) := by decide +kernel
theorem d_St_hasRoomFor_16 : decode b_St_hasRoomFor 16 = .ok (.goto 4, 3) := by decide +kernel
theorem d_St_hasRoomFor_19 : decode b_St_hasRoomFor 19 = .ok (.iconst 0, 1) := by decide +kernel
theorem d_St_hasRoomFor_20 : decode b_St_hasRoomFor 20 = .ok (.ireturn, 1) := by decide +kernel
theorem d_St_take_0 : decode b_St_take 0 = .ok (.iload_n 1, 1) := by decide +kernel
theorem d_St_take_1 : decode b_St_take 1 = .ok (.ifCond .lt 17, 3) := by decide +kernel
theorem d_St_take_4 : decode b_St_take 4 = .ok (.iload_n 1, 1) := by decide +kernel
theorem d_St_take_5 : decode b_St_take 5 = .ok (.bipush 16, 2) := by decide +kernel
theorem d_St_take_7 : decode b_St_take 7 = .ok (.if_icmp .gt 11, 3) := by decide +kernel
theorem d_St_take_10 : decode b_St_take 10 = .ok (.aload_n 0, 1) := by decide +kernel
theorem d_St_take_11 : decode b_St_take 11 = .ok (.iload_n 1, 1) := by decide +kernel
theorem d_St_take_12 : decode b_St_take 12 = .ok (.invokevirtual 49, 3) := by decide +kernel
theorem d_St_take_15 : decode b_St_take 15 = .ok (.ifCond .ne 5, 3) := by decide +kernel
theorem d_St_take_18 : decode b_St_take 18 = .ok (.iconst 0, 1) := by decide +kernel
theorem d_St_take_19 : decode b_St_take 19 = .ok (.ireturn, 1) := by decide +kernel
theorem d_St_take_20 : decode b_St_take 20 = .ok (.aload_n 0, 1) := by decide +kernel
theorem d_St_take_21 : decode b_St_take 21 = .ok (.invokevirtual 52, 3) := by decide +kernel
theorem d_St_take_24 : decode b_St_take 24 = .ok (.istore_n 2, 1) := by decide +kernel
theorem d_St_take_25 : decode b_St_take 25 = .ok (.aload_n 0, 1) := by decide +kernel
theorem d_St_take_26 : decode b_St_take 26 = .ok (.iload_n 2, 1) := by decide +kernel
theorem d_St_take_27 : decode b_St_take 27 = .ok (.invokevirtual 56, 3) := by decide +kernel
theorem d_St_take_30 : decode b_St_take 30 = .ok (.ifCond .ne 5, 3) := by decide +kernel
theorem d_St_take_33 : decode b_St_take 33 = .ok (.iconst 0, 1) := by decide +kernel
theorem d_St_take_34 : decode b_St_take 34 = .ok (.ireturn, 1) := by decide +kernel
theorem d_St_take_35 : decode b_St_take 35 = .ok (.aload_n 0, 1) := by decide +kernel
theorem d_St_take_36 : decode b_St_take 36 = .ok (.getfield 9, 3) := by decide +kernel
theorem d_St_take_39 : decode b_St_take 39 = .ok (.iload_n 2, 1) := by decide +kernel
theorem d_St_take_40 : decode b_St_take 40 = .ok (.iload_n 1, 1) := by decide +kernel
theorem d_St_take_41 : decode b_St_take 41 = .ok (.iastore, 1) := by decide +kernel
theorem d_St_take_42 : decode b_St_take 42 = .ok (.aload_n 0, 1) := by decide +kernel
theorem d_St_take_43 : decode b_St_take 43 = .ok (.dup, 1) := by decide +kernel
theorem d_St_take_44 : decode b_St_take 44 = .ok (.getfield 32, 3) := by decide +kernel
theorem d_St_take_47 : decode b_St_take 47 = .ok (.iload_n 1, 1) := by decide +kernel
theorem d_St_take_48 : decode b_St_take 48 = .ok (.invokestatic 45, 3) := by decide +kernel
theorem d_St_take_51 : decode b_St_take 51 = .ok (.iadd, 1) := by decide +kernel
theorem d_St_take_52 : decode b_St_take 52 = .ok (.putfield 32, 3) := by decide +kernel
theorem d_St_take_55 : decode b_St_take 55 = .ok (.iconst 0, 1) := by decide +kernel
theorem d_St_take_56 : decode b_St_take 56 = .ok (.istore_n 3, 1) := by decide +kernel
theorem d_St_take_57 : decode b_St_take 57 = .ok (.iload_n 3, 1) := by decide +kernel
theorem d_St_take_58 : decode b_St_take 58 = .ok (.iload_n 1, 1) := by decide +kernel
theorem d_St_take_59 : decode b_St_take 59 = .ok (.if_icmp .ge 19, 3) := by decide +kernel
theorem d_St_take_62 : decode b_St_take 62 = .ok (.aload_n 0, 1) := by decide +kernel
theorem d_St_take_63 : decode b_St_take 63 = .ok (.iload_n 2, 1) := by decide +kernel
theorem d_St_take_64 : decode b_St_take 64 = .ok (.iload_n 3, 1) := by decide +kernel
theorem d_St_take_65 : decode b_St_take 65 = .ok (.invokestatic 59, 3) := by decide +kernel
theorem d_St_take_68 : decode b_St_take 68 = .ok (.lconst 0, 1) := by decide +kernel
theorem d_St_take_69 : decode b_St_take 69 = .ok (.invokevirtual 63, 3) := by decide +kernel
theorem d_St_take_72 : decode b_St_take 72 = .ok (.iinc 3 1, 3) := by decide +kernel
theorem d_St_take_75 : decode b_St_take 75 = .ok (.goto (-18), 3) := by decide +kernel
theorem d_St_take_78 : decode b_St_take 78 = .ok (.iload_n 2, 1) := by decide +kernel
theorem d_St_take_79 : decode b_St_take 79 = .ok (.ireturn, 1) := by decide +kernel
theorem d_St_takeFreePlace_0 : decode b_St_takeFreePlace 0 = .ok (.aload_n 0, 1) := by decide +kernel
theorem d_St_takeFreePlace_1 : decode b_St_takeFreePlace 1 = .ok (.getfield 25, 3) := by decide +kernel
theorem d_St_takeFreePlace_4 : decode b_St_takeFreePlace 4 = .ok (.ifCond .le 23, 3) := by decide +kernel
theorem d_St_takeFreePlace_7 : decode b_St_takeFreePlace 7 = .ok (.aload_n 0, 1) := by decide +kernel
theorem d_St_takeFreePlace_8 : decode b_St_takeFreePlace 8 = .ok (.dup, 1) := by decide +kernel
theorem d_St_takeFreePlace_9 : decode b_St_takeFreePlace 9 = .ok (.getfield 25, 3) := by decide +kernel
theorem d_St_takeFreePlace_12 : decode b_St_takeFreePlace 12 = .ok (.iconst 1, 1) := by decide +kernel
theorem d_St_takeFreePlace_13 : decode b_St_takeFreePlace 13 = .ok (.isub, 1) := by decide +kernel
theorem d_St_takeFreePlace_14 : decode b_St_takeFreePlace 14 = .ok (.putfield 25, 3) := by decide +kernel
theorem d_St_takeFreePlace_17 : decode b_St_takeFreePlace 17 = .ok (.aload_n 0, 1) := by decide +kernel
theorem d_St_takeFreePlace_18 : decode b_St_takeFreePlace 18 = .ok (.getfield 22, 3) := by decide +kernel
theorem d_St_takeFreePlace_21 : decode b_St_takeFreePlace 21 = .ok (.aload_n 0, 1) := by decide +kernel
theorem d_St_takeFreePlace_22 : decode b_St_takeFreePlace 22 = .ok (.getfield 25, 3) := by decide +kernel
theorem d_St_takeFreePlace_25 : decode b_St_takeFreePlace 25 = .ok (.iaload, 1) := by decide +kernel
theorem d_St_takeFreePlace_26 : decode b_St_takeFreePlace 26 = .ok (.ireturn, 1) := by decide +kernel
theorem d_St_takeFreePlace_27 : decode b_St_takeFreePlace 27 = .ok (.aload_n 0, 1) := by decide +kernel
theorem d_St_takeFreePlace_28 : decode b_St_takeFreePlace 28 = .ok (.getfield 29, 3) := by decide +kernel
theorem d_St_takeFreePlace_31 : decode b_St_takeFreePlace 31 = .ok (.sipush 600, 3) := by decide +kernel
theorem d_St_takeFreePlace_34 : decode b_St_takeFreePlace 34 = .ok (.if_icmp .ge 18, 3) := by decide +kernel
theorem d_St_takeFreePlace_37 : decode b_St_takeFreePlace 37 = .ok (.aload_n 0, 1) := by decide +kernel
theorem d_St_takeFreePlace_38 : decode b_St_takeFreePlace 38 = .ok (.dup, 1) := by decide +kernel
theorem d_St_takeFreePlace_39 : decode b_St_takeFreePlace 39 = .ok (.getfield 29, 3) := by decide +kernel
theorem d_St_takeFreePlace_42 : decode b_St_takeFreePlace 42 = .ok (.iconst 1, 1) := by decide +kernel
theorem d_St_takeFreePlace_43 : decode b_St_takeFreePlace 43 = .ok (.iadd, 1) := by decide +kernel
theorem d_St_takeFreePlace_44 : decode b_St_takeFreePlace 44 = .ok (.putfield 29, 3) := by decide +kernel
theorem d_St_takeFreePlace_47 : decode b_St_takeFreePlace 47 = .ok (.aload_n 0, 1) := by decide +kernel
theorem d_St_takeFreePlace_48 : decode b_St_takeFreePlace 48 = .ok (.getfield 29, 3) := by decide +kernel
theorem d_St_takeFreePlace_51 : decode b_St_takeFreePlace 51 = .ok (.ireturn, 1) := by decide +kernel
theorem d_St_takeFreePlace_52 : decode b_St_takeFreePlace 52 = .ok (.iconst 0, 1) := by decide +kernel
theorem d_St_takeFreePlace_53 : decode b_St_takeFreePlace 53 = .ok (.ireturn, 1) := by decide +kernel
theorem d_St_release_0 : decode b_St_release 0 = .ok (.aload_n 0, 1) := by decide +kernel
theorem d_St_release_1 : decode b_St_release 1 = .ok (.iload_n 1, 1) := by decide +kernel
theorem d_St_release_2 : decode b_St_release 2 = .ok (.invokevirtual 41, 3) := by decide +kernel
theorem d_St_release_5 : decode b_St_release 5 = .ok (.ifCond .eq 59, 3) := by decide +kernel
theorem d_St_release_8 : decode b_St_release 8 = .ok (.aload_n 0, 1) := by decide +kernel
theorem d_St_release_9 : decode b_St_release 9 = .ok (.getfield 25, 3) := by decide +kernel
theorem d_St_release_12 : decode b_St_release 12 = .ok (.aload_n 0, 1) := by decide +kernel
theorem d_St_release_13 : decode b_St_release 13 = .ok (.getfield 22, 3) := by decide +kernel
theorem d_St_release_16 : decode b_St_release 16 = .ok (.arraylength, 1) := by decide +kernel
theorem d_St_release_17 : decode b_St_release 17 = .ok (.if_icmp .ge 47, 3) := by decide +kernel
theorem d_St_release_20 : decode b_St_release 20 = .ok (.aload_n 0, 1) := by decide +kernel
theorem d_St_release_21 : decode b_St_release 21 = .ok (.dup, 1) := by decide +kernel
theorem d_St_release_22 : decode b_St_release 22 = .ok (.getfield 32, 3) := by decide +kernel
theorem d_St_release_25 : decode b_St_release 25 = .ok (.aload_n 0, 1) := by decide +kernel
theorem d_St_release_26 : decode b_St_release 26 = .ok (.iload_n 1, 1) := by decide +kernel
theorem d_St_release_27 : decode b_St_release 27 = .ok (.invokevirtual 67, 3) := by decide +kernel
theorem d_St_release_30 : decode b_St_release 30 = .ok (.invokestatic 45, 3) := by decide +kernel
theorem d_St_release_33 : decode b_St_release 33 = .ok (.isub, 1) := by decide +kernel
theorem d_St_release_34 : decode b_St_release 34 = .ok (.putfield 32, 3) := by decide +kernel
theorem d_St_release_37 : decode b_St_release 37 = .ok (.aload_n 0, 1) := by decide +kernel
theorem d_St_release_38 : decode b_St_release 38 = .ok (.getfield 9, 3) := by decide +kernel
theorem d_St_release_41 : decode b_St_release 41 = .ok (.iload_n 1, 1) := by decide +kernel
theorem d_St_release_42 : decode b_St_release 42 = .ok (.iconst (-1), 1) := by decide +kernel
theorem d_St_release_43 : decode b_St_release 43 = .ok (.iastore, 1) := by decide +kernel
theorem d_St_release_44 : decode b_St_release 44 = .ok (.aload_n 0, 1) := by decide +kernel
theorem d_St_release_45 : decode b_St_release 45 = .ok (.getfield 22, 3) := by decide +kernel
theorem d_St_release_48 : decode b_St_release 48 = .ok (.aload_n 0, 1) := by decide +kernel
theorem d_St_release_49 : decode b_St_release 49 = .ok (.getfield 25, 3) := by decide +kernel
theorem d_St_release_52 : decode b_St_release 52 = .ok (.iload_n 1, 1) := by decide +kernel
theorem d_St_release_53 : decode b_St_release 53 = .ok (.iastore, 1) := by decide +kernel
theorem d_St_release_54 : decode b_St_release 54 = .ok (.aload_n 0, 1) := by decide +kernel
theorem d_St_release_55 : decode b_St_release 55 = .ok (.dup, 1) := by decide +kernel
theorem d_St_release_56 : decode b_St_release 56 = .ok (.getfield 25, 3) := by decide +kernel
theorem d_St_release_59 : decode b_St_release 59 = .ok (.iconst 1, 1) := by decide +kernel
theorem d_St_release_60 : decode b_St_release 60 = .ok (.iadd, 1) := by decide +kernel
theorem d_St_release_61 : decode b_St_release 61 = .ok (.putfield 25, 3) := by decide +kernel
theorem d_St_release_64 : decode b_St_release 64 = .ok (.return_, 1) := by decide +kernel
theorem d_St_placeAt_0 : decode b_St_placeAt 0 = .ok (.aload_n 0, 1) := by decide +kernel
theorem d_St_placeAt_1 : decode b_St_placeAt 1 = .ok (.getfield 15, 3) := by decide +kernel
theorem d_St_placeAt_4 : decode b_St_placeAt 4 = .ok (.iload_n 1, 1) := by decide +kernel
theorem d_St_placeAt_5 : decode b_St_placeAt 5 = .ok (.iaload, 1) := by decide +kernel
theorem d_St_placeAt_6 : decode b_St_placeAt 6 = .ok (.ireturn, 1) := by decide +kernel
theorem d_St_numberAt_0 : decode b_St_numberAt 0 = .ok (.aload_n 0, 1) := by decide +kernel
theorem d_St_numberAt_1 : decode b_St_numberAt 1 = .ok (.getfield 18, 3) := by decide +kernel
theorem d_St_numberAt_4 : decode b_St_numberAt 4 = .ok (.iload_n 1, 1) := by decide +kernel
theorem d_St_numberAt_5 : decode b_St_numberAt 5 = .ok (.laload, 1) := by decide +kernel
theorem d_St_numberAt_6 : decode b_St_numberAt 6 = .ok (.lreturn, 1) := by decide +kernel
theorem d_St_putNumber_0 : decode b_St_putNumber 0 = .ok (.aload_n 0, 1) := by decide +kernel
theorem d_St_putNumber_1 : decode b_St_putNumber 1 = .ok (.getfield 15, 3) := by decide +kernel
theorem d_St_putNumber_4 : decode b_St_putNumber 4 = .ok (.iload_n 1, 1) := by decide +kernel
theorem d_St_putNumber_5 : decode b_St_putNumber 5 = .ok (.iconst 0, 1) := by decide +kernel
theorem d_St_putNumber_6 : decode b_St_putNumber 6 = .ok (.iastore, 1) := by decide +kernel
theorem d_St_putNumber_7 : decode b_St_putNumber 7 = .ok (.aload_n 0, 1) := by decide +kernel
theorem d_St_putNumber_8 : decode b_St_putNumber 8 = .ok (.getfield 18, 3) := by decide +kernel
theorem d_St_putNumber_11 : decode b_St_putNumber 11 = .ok (.iload_n 1, 1) := by decide +kernel
theorem d_St_putNumber_12 : decode b_St_putNumber 12 = .ok (.lload_n 2, 1) := by decide +kernel
theorem d_St_putNumber_13 : decode b_St_putNumber 13 = .ok (.lastore, 1) := by decide +kernel
theorem d_St_putNumber_14 : decode b_St_putNumber 14 = .ok (.return_, 1) := by decide +kernel
theorem d_St_putReference_0 : decode b_St_putReference 0 = .ok (.aload_n 0, 1) := by decide +kernel
theorem d_St_putReference_1 : decode b_St_putReference 1 = .ok (.getfield 15, 3) := by decide +kernel
theorem d_St_putReference_4 : decode b_St_putReference 4 = .ok (.iload_n 1, 1) := by decide +kernel
theorem d_St_putReference_5 : decode b_St_putReference 5 = .ok (.iload_n 2, 1) := by decide +kernel
theorem d_St_putReference_6 : decode b_St_putReference 6 = .ok (.iastore, 1) := by decide +kernel
theorem d_St_putReference_7 : decode b_St_putReference 7 = .ok (.aload_n 0, 1) := by decide +kernel
theorem d_St_putReference_8 : decode b_St_putReference 8 = .ok (.getfield 18, 3) := by decide +kernel
theorem d_St_putReference_11 : decode b_St_putReference 11 = .ok (.iload_n 1, 1) := by decide +kernel
theorem d_St_putReference_12 : decode b_St_putReference 12 = .ok (.lconst 0, 1) := by decide +kernel
theorem d_St_putReference_13 : decode b_St_putReference 13 = .ok (.lastore, 1) := by decide +kernel
theorem d_St_putReference_14 : decode b_St_putReference 14 = .ok (.return_, 1) := by decide +kernel
theorem d_St_move_0 : decode b_St_move 0 = .ok (.aload_n 0, 1) := by decide +kernel
theorem d_St_move_1 : decode b_St_move 1 = .ok (.getfield 15, 3) := by decide +kernel
theorem d_St_move_4 : decode b_St_move 4 = .ok (.iload_n 2, 1) := by decide +kernel
theorem d_St_move_5 : decode b_St_move 5 = .ok (.aload_n 0, 1) := by decide +kernel
theorem d_St_move_6 : decode b_St_move 6 = .ok (.getfield 15, 3) := by decide +kernel
theorem d_St_move_9 : decode b_St_move 9 = .ok (.iload_n 1, 1) := by decide +kernel
theorem d_St_move_10 : decode b_St_move 10 = .ok (.iaload, 1) := by decide +kernel
theorem d_St_move_11 : decode b_St_move 11 = .ok (.iastore, 1) := by decide +kernel
theorem d_St_move_12 : decode b_St_move 12 = .ok (.aload_n 0, 1) := by decide +kernel
theorem d_St_move_13 : decode b_St_move 13 = .ok (.getfield 18, 3) := by decide +kernel
theorem d_St_move_16 : decode b_St_move 16 = .ok (.iload_n 2, 1) := by decide +kernel
theorem d_St_move_17 : decode b_St_move 17 = .ok (.aload_n 0, 1) := by decide +kernel
theorem d_St_move_18 : decode b_St_move 18 = .ok (.getfield 18, 3) := by decide +kernel
theorem d_St_move_21 : decode b_St_move 21 = .ok (.iload_n 1, 1) := by decide +kernel
theorem d_St_move_22 : decode b_St_move 22 = .ok (.laload, 1) := by decide +kernel
theorem d_St_move_23 : decode b_St_move 23 = .ok (.lastore, 1) := by decide +kernel
theorem d_St_move_24 : decode b_St_move 24 = .ok (.return_, 1) := by decide +kernel
theorem d_St_alike_0 : decode b_St_alike 0 = .ok (.aload_n 0, 1) := by decide +kernel
theorem d_St_alike_1 : decode b_St_alike 1 = .ok (.getfield 15, 3) := by decide +kernel
theorem d_St_alike_4 : decode b_St_alike 4 = .ok (.iload_n 1, 1) := by decide +kernel
theorem d_St_alike_5 : decode b_St_alike 5 = .ok (.iaload, 1) := by decide +kernel
theorem d_St_alike_6 : decode b_St_alike 6 = .ok (.aload_n 0, 1) := by decide +kernel
theorem d_St_alike_7 : decode b_St_alike 7 = .ok (.getfield 15, 3) := by decide +kernel
theorem d_St_alike_10 : decode b_St_alike 10 = .ok (.iload_n 2, 1) := by decide +kernel
theorem d_St_alike_11 : decode b_St_alike 11 = .ok (.iaload, 1) := by decide +kernel
theorem d_St_alike_12 : decode b_St_alike 12 = .ok (.if_icmp .ne 23, 3) := by decide +kernel
theorem d_St_alike_15 : decode b_St_alike 15 = .ok (.aload_n 0, 1) := by decide +kernel
theorem d_St_alike_16 : decode b_St_alike 16 = .ok (.getfield 18, 3) := by decide +kernel
theorem d_St_alike_19 : decode b_St_alike 19 = .ok (.iload_n 1, 1) := by decide +kernel
theorem d_St_alike_20 : decode b_St_alike 20 = .ok (.laload, 1) := by decide +kernel
theorem d_St_alike_21 : decode b_St_alike 21 = .ok (.aload_n 0, 1) := by decide +kernel
theorem d_St_alike_22 : decode b_St_alike 22 = .ok (.getfield 18, 3) := by decide +kernel
theorem d_St_alike_25 : decode b_St_alike 25 = .ok (.iload_n 2, 1) := by decide +kernel
theorem d_St_alike_26 : decode b_St_alike 26 = .ok (.laload, 1) := by decide +kernel
theorem d_St_alike_27 : decode b_St_alike 27 = .ok (.lcmp, 1) := by decide +kernel
theorem d_St_alike_28 : decode b_St_alike 28 = .ok (.ifCond .ne 7, 3) := by decide +kernel
theorem d_St_alike_31 : decode b_St_alike 31 = .ok (.iconst 1, 1) := by decide +kernel
theorem d_St_alike_32 : decode b_St_alike 32 = .ok (.goto 4, 3) := by decide +kernel
theorem d_St_alike_35 : decode b_St_alike 35 = .ok (.iconst 0, 1) := by decide +kernel
theorem d_St_alike_36 : decode b_St_alike 36 = .ok (.ireturn, 1) := by decide +kernel
theorem d_St_countHolders_0 : decode b_St_countHolders 0 = .ok (.iconst 1, 1) := by decide +kernel
theorem d_St_countHolders_1 : decode b_St_countHolders 1 = .ok (.istore_n 2, 1) := by decide +kernel
theorem d_St_countHolders_2 : decode b_St_countHolders 2 = .ok (.iload_n 2, 1) := by decide +kernel
theorem d_St_countHolders_3 : decode b_St_countHolders 3 = .ok (.aload_n 0, 1) := by decide +kernel
theorem d_St_countHolders_4 : decode b_St_countHolders 4 = .ok (.getfield 29, 3) := by decide +kernel
theorem d_St_countHolders_7 : decode b_St_countHolders 7 = .ok (.if_icmp .gt 31, 3) := by decide +kernel
theorem d_St_countHolders_10 : decode b_St_countHolders 10 = .ok (.iload_n 2, 1) := by decide +kernel
theorem d_St_countHolders_11 : decode b_St_countHolders 11 = .ok (.aload_n 1, 1) := by decide +kernel
theorem d_St_countHolders_12 : decode b_St_countHolders 12 = .ok (.arraylength, 1) := by decide +kernel
theorem d_St_countHolders_13 : decode b_St_countHolders 13 = .ok (.if_icmp .ge 25, 3) := by decide +kernel
theorem d_St_countHolders_16 : decode b_St_countHolders 16 = .ok (.aload_n 1, 1) := by decide +kernel
theorem d_St_countHolders_17 : decode b_St_countHolders 17 = .ok (.iload_n 2, 1) := by decide +kernel
theorem d_St_countHolders_18 : decode b_St_countHolders 18 = .ok (.aload_n 0, 1) := by decide +kernel
theorem d_St_countHolders_19 : decode b_St_countHolders 19 = .ok (.iload_n 2, 1) := by decide +kernel
theorem d_St_countHolders_20 : decode b_St_countHolders 20 = .ok (.invokevirtual 56, 3) := by decide +kernel
theorem d_St_countHolders_23 : decode b_St_countHolders 23 = .ok (.ifCond .eq 7, 3) := by decide +kernel
theorem d_St_countHolders_26 : decode b_St_countHolders 26 = .ok (.iconst 0, 1) := by decide +kernel
theorem d_St_countHolders_27 : decode b_St_countHolders 27 = .ok (.goto 4, 3) := by decide +kernel
theorem d_St_countHolders_30 : decode b_St_countHolders 30 = .ok (.iconst 1, 1) := by decide +kernel
theorem d_St_countHolders_31 : decode b_St_countHolders 31 = .ok (.iastore, 1) := by decide +kernel
theorem d_St_countHolders_32 : decode b_St_countHolders 32 = .ok (.iinc 2 1, 3) := by decide +kernel
theorem d_St_countHolders_35 : decode b_St_countHolders 35 = .ok (.goto (-33), 3) := by decide +kernel
theorem d_St_countHolders_38 : decode b_St_countHolders 38 = .ok (.iconst 0, 1) := by decide +kernel
theorem d_St_countHolders_39 : decode b_St_countHolders 39 = .ok (.istore_n 2, 1) := by decide +kernel
theorem d_St_countHolders_40 : decode b_St_countHolders 40 = .ok (.iload_n 2, 1) := by decide +kernel
theorem d_St_countHolders_41 : decode b_St_countHolders 41 = .ok (.aload_n 0, 1) := by decide +kernel
theorem d_St_countHolders_42 : decode b_St_countHolders 42 = .ok (.getfield 25, 3) := by decide +kernel
theorem d_St_countHolders_45 : decode b_St_countHolders 45 = .ok (.if_icmp .ge 32, 3) := by decide +kernel
theorem d_St_countHolders_48 : decode b_St_countHolders 48 = .ok (.aload_n 0, 1) := by decide +kernel
theorem d_St_countHolders_49 : decode b_St_countHolders 49 = .ok (.getfield 22, 3) := by decide +kernel
theorem d_St_countHolders_52 : decode b_St_countHolders 52 = .ok (.iload_n 2, 1) := by decide +kernel
theorem d_St_countHolders_53 : decode b_St_countHolders 53 = .ok (.iaload, 1) := by decide +kernel
theorem d_St_countHolders_54 : decode b_St_countHolders 54 = .ok (.aload_n 1, 1) := by decide +kernel
theorem d_St_countHolders_55 : decode b_St_countHolders 55 = .ok (.arraylength, 1) := by decide +kernel
theorem d_St_countHolders_56 : decode b_St_countHolders 56 = .ok (.if_icmp .ge 15, 3) := by decide +kernel
theorem d_St_countHolders_59 : decode b_St_countHolders 59 = .ok (.aload_n 1, 1) := by decide +kernel
theorem d_St_countHolders_60 : decode b_St_countHolders 60 = .ok (.aload_n 0, 1) := by decide +kernel
theorem d_St_countHolders_61 : decode b_St_countHolders 61 = .ok (.getfield 22, 3) := by decide +kernel
theorem d_St_countHolders_64 : decode b_St_countHolders 64 = .ok (.iload_n 2, 1) := by decide +kernel
theorem d_St_countHolders_65 : decode b_St_countHolders 65 = .ok (.iaload, 1) := by decide +kernel
theorem d_St_countHolders_66 : decode b_St_countHolders 66 = .ok (.dup2, 1) := by decide +kernel
theorem d_St_countHolders_67 : decode b_St_countHolders 67 = .ok (.iaload, 1) := by decide +kernel
theorem d_St_countHolders_68 : decode b_St_countHolders 68 = .ok (.iconst 1, 1) := by decide +kernel
theorem d_St_countHolders_69 : decode b_St_countHolders 69 = .ok (.iadd, 1) := by decide +kernel
theorem d_St_countHolders_70 : decode b_St_countHolders 70 = .ok (.iastore, 1) := by decide +kernel
theorem d_St_countHolders_71 : decode b_St_countHolders 71 = .ok (.iinc 2 1, 3) := by decide +kernel
theorem d_St_countHolders_74 : decode b_St_countHolders 74 = .ok (.goto (-34), 3) := by decide +kernel
theorem d_St_countHolders_77 : decode b_St_countHolders 77 = .ok (.return_, 1) := by decide +kernel
theorem d_Wa_init_0 : decode b_Wa_init 0 = .ok (.aload_n 0, 1) := by decide +kernel
theorem d_Wa_init_1 : decode b_Wa_init 1 = .ok (.invokespecial 3, 3) := by decide +kernel
theorem d_Wa_init_4 : decode b_Wa_init 4 = .ok (.aload_n 0, 1) := by decide +kernel
theorem d_Wa_init_5 : decode b_Wa_init 5 = .ok (.aload_n 1, 1) := by decide +kernel
theorem d_Wa_init_6 : decode b_Wa_init 6 = .ok (.putfield 9, 3) := by decide +kernel
theorem d_Wa_init_9 : decode b_Wa_init 9 = .ok (.aload_n 0, 1) := by decide +kernel
theorem d_Wa_init_10 : decode b_Wa_init 10 = .ok (.sipush 601, 3) := by decide +kernel
theorem d_Wa_init_13 : decode b_Wa_init 13 = .ok (.newarray .int, 2) := by decide +kernel
theorem d_Wa_init_15 : decode b_Wa_init 15 = .ok (.putfield 15, 3) := by decide +kernel
theorem d_Wa_init_18 : decode b_Wa_init 18 = .ok (.aload_n 0, 1) := by decide +kernel
theorem d_Wa_init_19 : decode b_Wa_init 19 = .ok (.sipush 601, 3) := by decide +kernel
theorem d_Wa_init_22 : decode b_Wa_init 22 = .ok (.newarray .int, 2) := by decide +kernel
theorem d_Wa_init_24 : decode b_Wa_init 24 = .ok (.putfield 19, 3) := by decide +kernel
theorem d_Wa_init_27 : decode b_Wa_init 27 = .ok (.aload_n 0, 1) := by decide +kernel
theorem d_Wa_init_28 : decode b_Wa_init 28 = .ok (.sipush 601, 3) := by decide +kernel
theorem d_Wa_init_31 : decode b_Wa_init 31 = .ok (.newarray .int, 2) := by decide +kernel
theorem d_Wa_init_33 : decode b_Wa_init 33 = .ok (.putfield 22, 3) := by decide +kernel
theorem d_Wa_init_36 : decode b_Wa_init 36 = .ok (.return_, 1) := by decide +kernel
theorem d_Wa_tuples_0 : decode b_Wa_tuples 0 = .ok (.aload_n 0, 1) := by decide +kernel
theorem d_Wa_tuples_1 : decode b_Wa_tuples 1 = .ok (.getfield 25, 3) := by decide +kernel
theorem d_Wa_tuples_4 : decode b_Wa_tuples 4 = .ok (.ireturn, 1) := by decide +kernel
theorem d_Wa_cells_0 : decode b_Wa_cells 0 = .ok (.aload_n 0, 1) := by decide +kernel
theorem d_Wa_cells_1 : decode b_Wa_cells 1 = .ok (.getfield 29, 3) := by decide +kernel
theorem d_Wa_cells_4 : decode b_Wa_cells 4 = .ok (.ireturn, 1) := by decide +kernel
theorem d_Wa_hash_0 : decode b_Wa_hash 0 = .ok (.aload_n 0, 1) := by decide +kernel
theorem d_Wa_hash_1 : decode b_Wa_hash 1 = .ok (.getfield 32, 3) := by decide +kernel
theorem d_Wa_hash_4 : decode b_Wa_hash 4 = .ok (.lreturn, 1) := by decide +kernel
theorem d_Wa_hasMet_0 : decode b_Wa_hasMet 0 = .ok (.aload_n 0, 1) := by decide +kernel
theorem d_Wa_hasMet_1 : decode b_Wa_hasMet 1 = .ok (.getfield 9, 3) := by decide +kernel
theorem d_Wa_hasMet_4 : decode b_Wa_hasMet 4 = .ok (.iload_n 1, 1) := by decide +kernel
theorem d_Wa_hasMet_5 : decode b_Wa_hasMet 5 = .ok (.invokevirtual 36, 3) := by decide +kernel
theorem d_Wa_hasMet_8 : decode b_Wa_hasMet 8 = .ok (.ifCond .eq 16, 3) := by decide +kernel
theorem d_Wa_hasMet_11 : decode b_Wa_hasMet 11 = .ok (.aload_n 0, 1) := by decide +kernel
theorem d_Wa_hasMet_12 : decode b_Wa_hasMet 12 = .ok (.getfield 15, 3) := by decide +kernel
theorem d_Wa_hasMet_15 : decode b_Wa_hasMet 15 = .ok (.iload_n 1, 1) := by decide +kernel
theorem d_Wa_hasMet_16 : decode b_Wa_hasMet 16 = .ok (.iaload, 1) := by decide +kernel
theorem d_Wa_hasMet_17 : decode b_Wa_hasMet 17 = .ok (.ifCond .le 7, 3) := by decide +kernel
theorem d_Wa_hasMet_20 : decode b_Wa_hasMet 20 = .ok (.iconst 1, 1) := by decide +kernel
theorem d_Wa_hasMet_21 : decode b_Wa_hasMet 21 = .ok (.goto 4, 3) := by decide +kernel
theorem d_Wa_hasMet_24 : decode b_Wa_hasMet 24 = .ok (.iconst 0, 1) := by decide +kernel
theorem d_Wa_hasMet_25 : decode b_Wa_hasMet 25 = .ok (.ireturn, 1) := by decide +kernel
theorem d_Wa_run_0 : decode b_Wa_run 0 = .ok (.aload_n 0, 1) := by decide +kernel
theorem d_Wa_run_1 : decode b_Wa_run 1 = .ok (.getfield 15, 3) := by decide +kernel
theorem d_Wa_run_4 : decode b_Wa_run 4 = .ok (.iconst 0, 1) := by decide +kernel
theorem d_Wa_run_5 : decode b_Wa_run 5 = .ok (.invokestatic 42, 3) := by decide +kernel
theorem d_Wa_run_8 : decode b_Wa_run 8 = .ok (.aload_n 0, 1) := by decide +kernel
theorem d_Wa_run_9 : decode b_Wa_run 9 = .ok (.iconst 0, 1) := by decide +kernel
theorem d_Wa_run_10 : decode b_Wa_run 10 = .ok (.putfield 25, 3) := by decide +kernel
theorem d_Wa_run_13 : decode b_Wa_run 13 = .ok (.aload_n 0, 1) := by decide +kernel
theorem d_Wa_run_14 : decode b_Wa_run 14 = .ok (.iconst 0, 1) := by decide +kernel
theorem d_Wa_run_15 : decode b_Wa_run 15 = .ok (.putfield 29, 3) := by decide +kernel
theorem d_Wa_run_18 : decode b_Wa_run 18 = .ok (.aload_n 0, 1) := by decide +kernel
theorem d_Wa_run_19 : decode b_Wa_run 19 = .ok (.ldc2_w 48, 3) := by decide +kernel
theorem d_Wa_run_22 : decode b_Wa_run 22 = .ok (.putfield 32, 3) := by decide +kernel
theorem d_Wa_run_25 : decode b_Wa_run 25 = .ok (.aload_n 0, 1) := by decide +kernel
theorem d_Wa_run_26 : decode b_Wa_run 26 = .ok (.iconst 0, 1) := by decide +kernel
theorem d_Wa_run_27 : decode b_Wa_run 27 = .ok (.putfield 50, 3) := by decide +kernel
theorem d_Wa_run_30 : decode b_Wa_run 30 = .ok (.aload_n 0, 1) := by decide +kernel
theorem d_Wa_run_31 : decode b_Wa_run 31 = .ok (.iconst 0, 1) := by decide +kernel
theorem d_Wa_run_32 : decode b_Wa_run 32 = .ok (.invokevirtual 53, 3) := by decide +kernel
theorem d_Wa_run_35 : decode b_Wa_run 35 = .ok (.iconst 0, 1) := by decide +kernel
theorem d_Wa_run_36 : decode b_Wa_run 36 = .ok (.istore_n 1, 1) := by decide +kernel
theorem d_Wa_run_37 : decode b_Wa_run 37 = .ok (.iload_n 1, 1) := by decide +kernel
theorem d_Wa_run_38 : decode b_Wa_run 38 = .ok (.sipush 10217, 3) := by decide +kernel
theorem d_Wa_run_41 : decode b_Wa_run 41 = .ok (.if_icmp .ge 20, 3) := by decide +kernel
theorem d_Wa_run_44 : decode b_Wa_run 44 = .ok (.aload_n 0, 1) := by decide +kernel
theorem d_Wa_run_45 : decode b_Wa_run 45 = .ok (.getfield 50, 3) := by decide +kernel
theorem d_Wa_run_48 : decode b_Wa_run 48 = .ok (.ifCond .le 13, 3) := by decide +kernel
theorem d_Wa_run_51 : decode b_Wa_run 51 = .ok (.aload_n 0, 1) := by decide +kernel
theorem d_Wa_run_52 : decode b_Wa_run 52 = .ok (.invokevirtual 57, 3) := by decide +kernel
theorem d_Wa_run_55 : decode b_Wa_run 55 = .ok (.iinc 1 1, 3) := by decide +kernel
theorem d_Wa_run_58 : decode b_Wa_run 58 = .ok (.goto (-21), 3) := by decide +kernel
theorem d_Wa_run_61 : decode b_Wa_run 61 = .ok (.return_, 1) := by decide +kernel
theorem d_Wa_goOn_0 : decode b_Wa_goOn 0 = .ok (.aload_n 0, 1) := by decide +kernel
theorem d_Wa_goOn_1 : decode b_Wa_goOn 1 = .ok (.getfield 19, 3) := by decide +kernel
theorem d_Wa_goOn_4 : decode b_Wa_goOn 4 = .ok (.aload_n 0, 1) := by decide +kernel
theorem d_Wa_goOn_5 : decode b_Wa_goOn 5 = .ok (.getfield 50, 3) := by decide +kernel
theorem d_Wa_goOn_8 : decode b_Wa_goOn 8 = .ok (.iconst 1, 1) := by decide +kernel
theorem d_Wa_goOn_9 : decode b_Wa_goOn 9 = .ok (.isub, 1) := by decide +kernel
theorem d_Wa_goOn_10 : decode b_Wa_goOn 10 = .ok (.iaload, 1) := by decide +kernel
theorem d_Wa_goOn_11 : decode b_Wa_goOn 11 = .ok (.istore_n 1, 1) := by decide +kernel
theorem d_Wa_goOn_12 : decode b_Wa_goOn 12 = .ok (.aload_n 0, 1) := by decide +kernel
theorem d_Wa_goOn_13 : decode b_Wa_goOn 13 = .ok (.getfield 22, 3) := by decide +kernel
theorem d_Wa_goOn_16 : decode b_Wa_goOn 16 = .ok (.aload_n 0, 1) := by decide +kernel
theorem d_Wa_goOn_17 : decode b_Wa_goOn 17 = .ok (.getfield 50, 3) := by decide +kernel
theorem d_Wa_goOn_20 : decode b_Wa_goOn 20 = .ok (.iconst 1, 1) := by decide +kernel
theorem d_Wa_goOn_21 : decode b_Wa_goOn 21 = .ok (.isub, 1) := by decide +kernel
theorem d_Wa_goOn_22 : decode b_Wa_goOn 22 = .ok (.iaload, 1) := by decide +kernel
theorem d_Wa_goOn_23 : decode b_Wa_goOn 23 = .ok (.istore_n 2, 1) := by decide +kernel
theorem d_Wa_goOn_24 : decode b_Wa_goOn 24 = .ok (.iload_n 2, 1) := by decide +kernel
theorem d_Wa_goOn_25 : decode b_Wa_goOn 25 = .ok (.aload_n 0, 1) := by decide +kernel
theorem d_Wa_goOn_26 : decode b_Wa_goOn 26 = .ok (.getfield 9, 3) := by decide +kernel
theorem d_Wa_goOn_29 : decode b_Wa_goOn 29 = .ok (.iload_n 1, 1) := by decide +kernel
theorem d_Wa_goOn_30 : decode b_Wa_goOn 30 = .ok (.invokevirtual 60, 3) := by decide +kernel
theorem d_Wa_goOn_33 : decode b_Wa_goOn 33 = .ok (.if_icmp .ge 29, 3) := by decide +kernel
theorem d_Wa_goOn_36 : decode b_Wa_goOn 36 = .ok (.aload_n 0, 1) := by decide +kernel
theorem d_Wa_goOn_37 : decode b_Wa_goOn 37 = .ok (.getfield 22, 3) := by decide +kernel
