theorem dX0_init_0 : decode cX0_init 0 = .ok (.aload_n 0, 1) := by decide +kernel
theorem dX0_init_1 : decode cX0_init 1 = .ok (.invokespecial 3, 3) := by decide +kernel
theorem dX0_init_4 : decode cX0_init 4 = .ok (.aload_n 0, 1) := by decide +kernel
theorem dX0_init_5 : decode cX0_init 5 = .ok (.bipush 24, 2) := by decide +kernel
theorem dX0_init_7 : decode cX0_init 7 = .ok (.newarray .int, 2) := by decide +kernel
theorem dX0_init_9 : decode cX0_init 9 = .ok (.putfield 9, 3) := by decide +kernel
theorem dX0_init_12 : decode cX0_init 12 = .ok (.aload_n 0, 1) := by decide +kernel
theorem dX0_init_13 : decode cX0_init 13 = .ok (.bipush 9, 2) := by decide +kernel
theorem dX0_init_15 : decode cX0_init 15 = .ok (.newarray .int, 2) := by decide +kernel
theorem dX0_init_17 : decode cX0_init 17 = .ok (.putfield 15, 3) := by decide +kernel
theorem dX0_init_20 : decode cX0_init 20 = .ok (.aload_n 0, 1) := by decide +kernel
theorem dX0_init_21 : decode cX0_init 21 = .ok (.bipush 6, 2) := by decide +kernel
theorem dX0_init_23 : decode cX0_init 23 = .ok (.newarray .int, 2) := by decide +kernel
theorem dX0_init_25 : decode cX0_init 25 = .ok (.putfield 18, 3) := by decide +kernel
theorem dX0_init_28 : decode cX0_init 28 = .ok (.aload_n 0, 1) := by decide +kernel
theorem dX0_init_29 : decode cX0_init 29 = .ok (.invokevirtual 21, 3) := by decide +kernel
theorem dX0_init_32 : decode cX0_init 32 = .ok (.return_, 1) := by decide +kernel
theorem dX0_reset_0 : decode cX0_reset 0 = .ok (.iconst 0, 1) := by decide +kernel
theorem dX0_reset_1 : decode cX0_reset 1 = .ok (.istore_n 1, 1) := by decide +kernel
theorem dX0_reset_2 : decode cX0_reset 2 = .ok (.iload_n 1, 1) := by decide +kernel
theorem dX0_reset_3 : decode cX0_reset 3 = .ok (.bipush 24, 2) := by decide +kernel
theorem dX0_reset_5 : decode cX0_reset 5 = .ok (.if_icmp .ge 16, 3) := by decide +kernel
theorem dX0_reset_8 : decode cX0_reset 8 = .ok (.aload_n 0, 1) := by decide +kernel
theorem dX0_reset_9 : decode cX0_reset 9 = .ok (.getfield 9, 3) := by decide +kernel
theorem dX0_reset_12 : decode cX0_reset 12 = .ok (.iload_n 1, 1) := by decide +kernel
theorem dX0_reset_13 : decode cX0_reset 13 = .ok (.iconst 0, 1) := by decide +kernel
theorem dX0_reset_14 : decode cX0_reset 14 = .ok (.iastore, 1) := by decide +kernel
theorem dX0_reset_15 : decode cX0_reset 15 = .ok (.iinc 1 1, 3) := by decide +kernel
theorem dX0_reset_18 : decode cX0_reset 18 = .ok (.goto (-16), 3) := by decide +kernel
theorem dX0_reset_21 : decode cX0_reset 21 = .ok (.iconst 0, 1) := by decide +kernel
theorem dX0_reset_22 : decode cX0_reset 22 = .ok (.istore_n 1, 1) := by decide +kernel
theorem dX0_reset_23 : decode cX0_reset 23 = .ok (.iload_n 1, 1) := by decide +kernel
theorem dX0_reset_24 : decode cX0_reset 24 = .ok (.bipush 8, 2) := by decide +kernel
theorem dX0_reset_26 : decode cX0_reset 26 = .ok (.if_icmp .gt 17, 3) := by decide +kernel
theorem dX0_reset_29 : decode cX0_reset 29 = .ok (.aload_n 0, 1) := by decide +kernel
theorem dX0_reset_30 : decode cX0_reset 30 = .ok (.getfield 15, 3) := by decide +kernel
theorem dX0_reset_33 : decode cX0_reset 33 = .ok (.iload_n 1, 1) := by decide +kernel
theorem dX0_reset_34 : decode cX0_reset 34 = .ok (.bipush (-4), 2) := by decide +kernel
theorem dX0_reset_36 : decode cX0_reset 36 = .ok (.iastore, 1) := by decide +kernel
theorem dX0_reset_37 : decode cX0_reset 37 = .ok (.iinc 1 1, 3) := by decide +kernel
theorem dX0_reset_40 : decode cX0_reset 40 = .ok (.goto (-17), 3) := by decide +kernel
theorem dX0_reset_43 : decode cX0_reset 43 = .ok (.aload_n 0, 1) := by decide +kernel
theorem dX0_reset_44 : decode cX0_reset 44 = .ok (.iconst 0, 1) := by decide +kernel
theorem dX0_reset_45 : decode cX0_reset 45 = .ok (.putfield 24, 3) := by decide +kernel
theorem dX0_reset_48 : decode cX0_reset 48 = .ok (.aload_n 0, 1) := by decide +kernel
theorem dX0_reset_49 : decode cX0_reset 49 = .ok (.bipush (-4), 2) := by decide +kernel
theorem dX0_reset_51 : decode cX0_reset 51 = .ok (.putfield 28, 3) := by decide +kernel
theorem dX0_reset_54 : decode cX0_reset 54 = .ok (.aload_n 0, 1) := by decide +kernel
theorem dX0_reset_55 : decode cX0_reset 55 = .ok (.invokevirtual 31, 3) := by decide +kernel
theorem dX0_reset_58 : decode cX0_reset 58 = .ok (.return_, 1) := by decide +kernel
theorem dX0_resetSums_0 : decode cX0_resetSums 0 = .ok (.aload_n 0, 1) := by decide +kernel
theorem dX0_resetSums_1 : decode cX0_resetSums 1 = .ok (.iconst 0, 1) := by decide +kernel
theorem dX0_resetSums_2 : decode cX0_resetSums 2 = .ok (.putfield 34, 3) := by decide +kernel
theorem dX0_resetSums_5 : decode cX0_resetSums 5 = .ok (.aload_n 0, 1) := by decide +kernel
theorem dX0_resetSums_6 : decode cX0_resetSums 6 = .ok (.iconst 0, 1) := by decide +kernel
theorem dX0_resetSums_7 : decode cX0_resetSums 7 = .ok (.putfield 37, 3) := by decide +kernel
theorem dX0_resetSums_10 : decode cX0_resetSums 10 = .ok (.aload_n 0, 1) := by decide +kernel
theorem dX0_resetSums_11 : decode cX0_resetSums 11 = .ok (.iconst 0, 1) := by decide +kernel
theorem dX0_resetSums_12 : decode cX0_resetSums 12 = .ok (.putfield 40, 3) := by decide +kernel
theorem dX0_resetSums_15 : decode cX0_resetSums 15 = .ok (.return_, 1) := by decide +kernel
theorem dX0_copyFrom_0 : decode cX0_copyFrom 0 = .ok (.aload_n 1, 1) := by decide +kernel
theorem dX0_copyFrom_1 : decode cX0_copyFrom 1 = .ok (.getfield 9, 3) := by decide +kernel
theorem dX0_copyFrom_4 : decode cX0_copyFrom 4 = .ok (.iconst 0, 1) := by decide +kernel
theorem dX0_copyFrom_5 : decode cX0_copyFrom 5 = .ok (.aload_n 0, 1) := by decide +kernel
theorem dX0_copyFrom_6 : decode cX0_copyFrom 6 = .ok (.getfield 9, 3) := by decide +kernel
theorem dX0_copyFrom_9 : decode cX0_copyFrom 9 = .ok (.iconst 0, 1) := by decide +kernel
theorem dX0_copyFrom_10 : decode cX0_copyFrom 10 = .ok (.bipush 24, 2) := by decide +kernel
theorem dX0_copyFrom_12 : decode cX0_copyFrom 12 = .ok (.invokestatic 43, 3) := by decide +kernel
theorem dX0_copyFrom_15 : decode cX0_copyFrom 15 = .ok (.aload_n 1, 1) := by decide +kernel
theorem dX0_copyFrom_16 : decode cX0_copyFrom 16 = .ok (.getfield 15, 3) := by decide +kernel
theorem dX0_copyFrom_19 : decode cX0_copyFrom 19 = .ok (.iconst 0, 1) := by decide +kernel
theorem dX0_copyFrom_20 : decode cX0_copyFrom 20 = .ok (.aload_n 0, 1) := by decide +kernel
theorem dX0_copyFrom_21 : decode cX0_copyFrom 21 = .ok (.getfield 15, 3) := by decide +kernel
theorem dX0_copyFrom_24 : decode cX0_copyFrom 24 = .ok (.iconst 0, 1) := by decide +kernel
theorem dX0_copyFrom_25 : decode cX0_copyFrom 25 = .ok (.bipush 9, 2) := by decide +kernel
theorem dX0_copyFrom_27 : decode cX0_copyFrom 27 = .ok (.invokestatic 43, 3) := by decide +kernel
theorem dX0_copyFrom_30 : decode cX0_copyFrom 30 = .ok (.aload_n 0, 1) := by decide +kernel
theorem dX0_copyFrom_31 : decode cX0_copyFrom 31 = .ok (.aload_n 1, 1) := by decide +kernel
theorem dX0_copyFrom_32 : decode cX0_copyFrom 32 = .ok (.getfield 24, 3) := by decide +kernel
theorem dX0_copyFrom_35 : decode cX0_copyFrom 35 = .ok (.putfield 24, 3) := by decide +kernel
theorem dX0_copyFrom_38 : decode cX0_copyFrom 38 = .ok (.aload_n 0, 1) := by decide +kernel
theorem dX0_copyFrom_39 : decode cX0_copyFrom 39 = .ok (.aload_n 1, 1) := by decide +kernel
theorem dX0_copyFrom_40 : decode cX0_copyFrom 40 = .ok (.getfield 28, 3) := by decide +kernel
theorem dX0_copyFrom_43 : decode cX0_copyFrom 43 = .ok (.putfield 28, 3) := by decide +kernel
theorem dX0_copyFrom_46 : decode cX0_copyFrom 46 = .ok (.aload_n 0, 1) := by decide +kernel
theorem dX0_copyFrom_47 : decode cX0_copyFrom 47 = .ok (.aload_n 1, 1) := by decide +kernel
theorem dX0_copyFrom_48 : decode cX0_copyFrom 48 = .ok (.getfield 34, 3) := by decide +kernel
theorem dX0_copyFrom_51 : decode cX0_copyFrom 51 = .ok (.putfield 34, 3) := by decide +kernel
theorem dX0_copyFrom_54 : decode cX0_copyFrom 54 = .ok (.aload_n 0, 1) := by decide +kernel
theorem dX0_copyFrom_55 : decode cX0_copyFrom 55 = .ok (.aload_n 1, 1) := by decide +kernel
theorem dX0_copyFrom_56 : decode cX0_copyFrom 56 = .ok (.getfield 37, 3) := by decide +kernel
theorem dX0_copyFrom_59 : decode cX0_copyFrom 59 = .ok (.putfield 37, 3) := by decide +kernel
theorem dX0_copyFrom_62 : decode cX0_copyFrom 62 = .ok (.aload_n 0, 1) := by decide +kernel
theorem dX0_copyFrom_63 : decode cX0_copyFrom 63 = .ok (.aload_n 1, 1) := by decide +kernel
theorem dX0_copyFrom_64 : decode cX0_copyFrom 64 = .ok (.getfield 40, 3) := by decide +kernel
theorem dX0_copyFrom_67 : decode cX0_copyFrom 67 = .ok (.putfield 40, 3) := by decide +kernel
theorem dX0_copyFrom_70 : decode cX0_copyFrom 70 = .ok (.return_, 1) := by decide +kernel
theorem dX0_beginRow_0 : decode cX0_beginRow 0 = .ok (.aload_n 0, 1) := by decide +kernel
theorem dX0_beginRow_1 : decode cX0_beginRow 1 = .ok (.aload_n 1, 1) := by decide +kernel
theorem dX0_beginRow_2 : decode cX0_beginRow 2 = .ok (.invokevirtual 49, 3) := by decide +kernel
theorem dX0_beginRow_5 : decode cX0_beginRow 5 = .ok (.aload_n 0, 1) := by decide +kernel
theorem dX0_beginRow_6 : decode cX0_beginRow 6 = .ok (.invokevirtual 31, 3) := by decide +kernel
theorem dX0_beginRow_9 : decode cX0_beginRow 9 = .ok (.return_, 1) := by decide +kernel
theorem dX0_hasSameLarder_0 : decode cX0_hasSameLarder 0 = .ok (.iconst 0, 1) := by decide +kernel
theorem dX0_hasSameLarder_1 : decode cX0_hasSameLarder 1 = .ok (.istore_n 2, 1) := by decide +kernel
theorem dX0_hasSameLarder_2 : decode cX0_hasSameLarder 2 = .ok (.iload_n 2, 1) := by decide +kernel
theorem dX0_hasSameLarder_3 : decode cX0_hasSameLarder 3 = .ok (.bipush 24, 2) := by decide +kernel
theorem dX0_hasSameLarder_5 : decode cX0_hasSameLarder 5 = .ok (.if_icmp .ge 26, 3) := by decide +kernel
theorem dX0_hasSameLarder_8 : decode cX0_hasSameLarder 8 = .ok (.aload_n 0, 1) := by decide +kernel
theorem dX0_hasSameLarder_9 : decode cX0_hasSameLarder 9 = .ok (.getfield 9, 3) := by decide +kernel
theorem dX0_hasSameLarder_12 : decode cX0_hasSameLarder 12 = .ok (.iload_n 2, 1) := by decide +kernel
theorem dX0_hasSameLarder_13 : decode cX0_hasSameLarder 13 = .ok (.iaload, 1) := by decide +kernel
theorem dX0_hasSameLarder_14 : decode cX0_hasSameLarder 14 = .ok (.aload_n 1, 1) := by decide +kernel
theorem dX0_hasSameLarder_15 : decode cX0_hasSameLarder 15 = .ok (.getfield 9, 3) := by decide +kernel
theorem dX0_hasSameLarder_18 : decode cX0_hasSameLarder 18 = .ok (.iload_n 2, 1) := by decide +kernel
theorem dX0_hasSameLarder_19 : decode cX0_hasSameLarder 19 = .ok (.iaload, 1) := by decide +kernel
theorem dX0_hasSameLarder_20 : decode cX0_hasSameLarder 20 = .ok (.if_icmp .eq 5, 3) := by decide +kernel
theorem dX0_hasSameLarder_23 : decode cX0_hasSameLarder 23 = .ok (.iconst 0, 1) := by decide +kernel
theorem dX0_hasSameLarder_24 : decode cX0_hasSameLarder 24 = .ok (.ireturn, 1) := by decide +kernel
theorem dX0_hasSameLarder_25 : decode cX0_hasSameLarder 25 = .ok (.iinc 2 1, 3) := by decide +kernel
theorem dX0_hasSameLarder_28 : decode cX0_hasSameLarder 28 = .ok (.goto (-26), 3) := by decide +kernel
theorem dX0_hasSameLarder_31 : decode cX0_hasSameLarder 31 = .ok (.iconst 1, 1) := by decide +kernel
theorem dX0_hasSameLarder_32 : decode cX0_hasSameLarder 32 = .ok (.ireturn, 1) := by decide +kernel
theorem dX0_unitsInAll_0 : decode cX0_unitsInAll 0 = .ok (.iconst 0, 1) := by decide +kernel
theorem dX0_unitsInAll_1 : decode cX0_unitsInAll 1 = .ok (.istore_n 1, 1) := by decide +kernel
theorem dX0_unitsInAll_2 : decode cX0_unitsInAll 2 = .ok (.iconst 0, 1) := by decide +kernel
theorem dX0_unitsInAll_3 : decode cX0_unitsInAll 3 = .ok (.istore_n 2, 1) := by decide +kernel
theorem dX0_unitsInAll_4 : decode cX0_unitsInAll 4 = .ok (.iload_n 2, 1) := by decide +kernel
theorem dX0_unitsInAll_5 : decode cX0_unitsInAll 5 = .ok (.bipush 24, 2) := by decide +kernel
theorem dX0_unitsInAll_7 : decode cX0_unitsInAll 7 = .ok (.if_icmp .ge 18, 3) := by decide +kernel
theorem dX0_unitsInAll_10 : decode cX0_unitsInAll 10 = .ok (.iload_n 1, 1) := by decide +kernel
theorem dX0_unitsInAll_11 : decode cX0_unitsInAll 11 = .ok (.aload_n 0, 1) := by decide +kernel
theorem dX0_unitsInAll_12 : decode cX0_unitsInAll 12 = .ok (.getfield 9, 3) := by decide +kernel
theorem dX0_unitsInAll_15 : decode cX0_unitsInAll 15 = .ok (.iload_n 2, 1) := by decide +kernel
theorem dX0_unitsInAll_16 : decode cX0_unitsInAll 16 = .ok (.iaload, 1) := by decide +kernel
theorem dX0_unitsInAll_17 : decode cX0_unitsInAll 17 = .ok (.iadd, 1) := by decide +kernel
theorem dX0_unitsInAll_18 : decode cX0_unitsInAll 18 = .ok (.istore_n 1, 1) := by decide +kernel
theorem dX0_unitsInAll_19 : decode cX0_unitsInAll 19 = .ok (.iinc 2 1, 3) := by decide +kernel
theorem dX0_unitsInAll_22 : decode cX0_unitsInAll 22 = .ok (.goto (-18), 3) := by decide +kernel
theorem dX0_unitsInAll_25 : decode cX0_unitsInAll 25 = .ok (.iload_n 1, 1) := by decide +kernel
theorem dX0_unitsInAll_26 : decode cX0_unitsInAll 26 = .ok (.ireturn, 1) := by decide +kernel
theorem dX0_unitsOf_0 : decode cX0_unitsOf 0 = .ok (.iconst 0, 1) := by decide +kernel
theorem dX0_unitsOf_1 : decode cX0_unitsOf 1 = .ok (.istore_n 2, 1) := by decide +kernel
theorem dX0_unitsOf_2 : decode cX0_unitsOf 2 = .ok (.iconst 0, 1) := by decide +kernel
theorem dX0_unitsOf_3 : decode cX0_unitsOf 3 = .ok (.istore_n 3, 1) := by decide +kernel
theorem dX0_unitsOf_4 : decode cX0_unitsOf 4 = .ok (.iload_n 3, 1) := by decide +kernel
theorem dX0_unitsOf_5 : decode cX0_unitsOf 5 = .ok (.iconst 4, 1) := by decide +kernel
theorem dX0_unitsOf_6 : decode cX0_unitsOf 6 = .ok (.if_icmp .ge 22, 3) := by decide +kernel
theorem dX0_unitsOf_9 : decode cX0_unitsOf 9 = .ok (.iload_n 2, 1) := by decide +kernel
theorem dX0_unitsOf_10 : decode cX0_unitsOf 10 = .ok (.aload_n 0, 1) := by decide +kernel
theorem dX0_unitsOf_11 : decode cX0_unitsOf 11 = .ok (.getfield 9, 3) := by decide +kernel
theorem dX0_unitsOf_14 : decode cX0_unitsOf 14 = .ok (.iload_n 1, 1) := by decide +kernel
theorem dX0_unitsOf_15 : decode cX0_unitsOf 15 = .ok (.iconst 4, 1) := by decide +kernel
theorem dX0_unitsOf_16 : decode cX0_unitsOf 16 = .ok (.imul, 1) := by decide +kernel
theorem dX0_unitsOf_17 : decode cX0_unitsOf 17 = .ok (.iload_n 3, 1) := by decide +kernel
theorem dX0_unitsOf_18 : decode cX0_unitsOf 18 = .ok (.iadd, 1) := by decide +kernel
theorem dX0_unitsOf_19 : decode cX0_unitsOf 19 = .ok (.iaload, 1) := by decide +kernel
theorem dX0_unitsOf_20 : decode cX0_unitsOf 20 = .ok (.iadd, 1) := by decide +kernel
theorem dX0_unitsOf_21 : decode cX0_unitsOf 21 = .ok (.istore_n 2, 1) := by decide +kernel
theorem dX0_unitsOf_22 : decode cX0_unitsOf 22 = .ok (.iinc 3 1, 3) := by decide +kernel
theorem dX0_unitsOf_25 : decode cX0_unitsOf 25 = .ok (.goto (-21), 3) := by decide +kernel
theorem dX0_unitsOf_28 : decode cX0_unitsOf 28 = .ok (.iload_n 2, 1) := by decide +kernel
theorem dX0_unitsOf_29 : decode cX0_unitsOf 29 = .ok (.ireturn, 1) := by decide +kernel
theorem dX0_whyNot_0 : decode cX0_whyNot 0 = .ok (.aload_n 1, 1) := by decide +kernel
theorem dX0_whyNot_1 : decode cX0_whyNot 1 = .ok (.aload_n 0, 1) := by decide +kernel
theorem dX0_whyNot_2 : decode cX0_whyNot 2 = .ok (.getfield 24, 3) := by decide +kernel
theorem dX0_whyNot_5 : decode cX0_whyNot 5 = .ok (.invokevirtual 53, 3) := by decide +kernel
theorem dX0_whyNot_8 : decode cX0_whyNot 8 = .ok (.ifCond .eq 5, 3) := by decide +kernel
theorem dX0_whyNot_11 : decode cX0_whyNot 11 = .ok (.iconst 1, 1) := by decide +kernel
theorem dX0_whyNot_12 : decode cX0_whyNot 12 = .ok (.ireturn, 1) := by decide +kernel
theorem dX0_whyNot_13 : decode cX0_whyNot 13 = .ok (.aload_n 0, 1) := by decide +kernel
theorem dX0_whyNot_14 : decode cX0_whyNot 14 = .ok (.getfield 15, 3) := by decide +kernel
theorem dX0_whyNot_17 : decode cX0_whyNot 17 = .ok (.iload_n 2, 1) := by decide +kernel
theorem dX0_whyNot_18 : decode cX0_whyNot 18 = .ok (.iaload, 1) := by decide +kernel
theorem dX0_whyNot_19 : decode cX0_whyNot 19 = .ok (.bipush (-4), 2) := by decide +kernel
theorem dX0_whyNot_21 : decode cX0_whyNot 21 = .ok (.if_icmp .eq 23, 3) := by decide +kernel
theorem dX0_whyNot_24 : decode cX0_whyNot 24 = .ok (.aload_n 0, 1) := by decide +kernel
theorem dX0_whyNot_25 : decode cX0_whyNot 25 = .ok (.getfield 24, 3) := by decide +kernel
theorem dX0_whyNot_28 : decode cX0_whyNot 28 = .ok (.aload_n 0, 1) := by decide +kernel
theorem dX0_whyNot_29 : decode cX0_whyNot 29 = .ok (.getfield 15, 3) := by decide +kernel
theorem dX0_whyNot_32 : decode cX0_whyNot 32 = .ok (.iload_n 2, 1) := by decide +kernel
theorem dX0_whyNot_33 : decode cX0_whyNot 33 = .ok (.iaload, 1) := by decide +kernel
theorem dX0_whyNot_34 : decode cX0_whyNot 34 = .ok (.isub, 1) := by decide +kernel
theorem dX0_whyNot_35 : decode cX0_whyNot 35 = .ok (.aload_n 1, 1) := by decide +kernel
theorem dX0_whyNot_36 : decode cX0_whyNot 36 = .ok (.getfield 59, 3) := by decide +kernel
theorem dX0_whyNot_39 : decode cX0_whyNot 39 = .ok (.if_icmp .ge 5, 3) := by decide +kernel
theorem dX0_whyNot_42 : decode cX0_whyNot 42 = .ok (.iconst 2, 1) := by decide +kernel
theorem dX0_whyNot_43 : decode cX0_whyNot 43 = .ok (.ireturn, 1) := by decide +kernel
theorem dX0_whyNot_44 : decode cX0_whyNot 44 = .ok (.iconst 0, 1) := by decide +kernel
theorem dX0_whyNot_45 : decode cX0_whyNot 45 = .ok (.istore 4, 2) := by decide +kernel
theorem dX0_whyNot_47 : decode cX0_whyNot 47 = .ok (.iload 4, 2) := by decide +kernel
theorem dX0_whyNot_49 : decode cX0_whyNot 49 = .ok (.aload_n 1, 1) := by decide +kernel
theorem dX0_whyNot_50 : decode cX0_whyNot 50 = .ok (.getfield 62, 3) := by decide +kernel
theorem dX0_whyNot_53 : decode cX0_whyNot 53 = .ok (.if_icmp .ge 37, 3) := by decide +kernel
theorem dX0_whyNot_56 : decode cX0_whyNot 56 = .ok (.aload_n 0, 1) := by decide +kernel
theorem dX0_whyNot_57 : decode cX0_whyNot 57 = .ok (.aload_n 1, 1) := by decide +kernel
theorem dX0_whyNot_58 : decode cX0_whyNot 58 = .ok (.iload_n 2, 1) := by decide +kernel
theorem dX0_whyNot_59 : decode cX0_whyNot 59 = .ok (.iload_n 3, 1) := by decide +kernel
theorem dX0_whyNot_60 : decode cX0_whyNot 60 = .ok (.iload 4, 2) := by decide +kernel
theorem dX0_whyNot_62 : decode cX0_whyNot 62 = .ok (.invokevirtual 65, 3) := by decide +kernel
theorem dX0_whyNot_65 : decode cX0_whyNot 65 = .ok (.ifCond .le 19, 3) := by decide +kernel
theorem dX0_whyNot_68 : decode cX0_whyNot 68 = .ok (.aload_n 1, 1) := by decide +kernel
theorem dX0_whyNot_69 : decode cX0_whyNot 69 = .ok (.iload_n 2, 1) := by decide +kernel
theorem dX0_whyNot_70 : decode cX0_whyNot 70 = .ok (.iload 4, 2) := by decide +kernel
theorem dX0_whyNot_72 : decode cX0_whyNot 72 = .ok (.aload_n 0, 1) := by decide +kernel
theorem dX0_whyNot_73 : decode cX0_whyNot 73 = .ok (.getfield 24, 3) := by decide +kernel
theorem dX0_whyNot_76 : decode cX0_whyNot 76 = .ok (.invokevirtual 69, 3) := by decide +kernel
theorem dX0_whyNot_79 : decode cX0_whyNot 79 = .ok (.ifCond .ne 5, 3) := by decide +kernel
theorem dX0_whyNot_82 : decode cX0_whyNot 82 = .ok (.iconst 3, 1) := by decide +kernel
theorem dX0_whyNot_83 : decode cX0_whyNot 83 = .ok (.ireturn, 1) := by decide +kernel
theorem dX0_whyNot_84 : decode cX0_whyNot 84 = .ok (.iinc 4 1, 3) := by decide +kernel
theorem dX0_whyNot_87 : decode cX0_whyNot 87 = .ok (.goto (-40), 3) := by decide +kernel
theorem dX0_whyNot_90 : decode cX0_whyNot 90 = .ok (.iconst 0, 1) := by decide +kernel
theorem dX0_whyNot_91 : decode cX0_whyNot 91 = .ok (.ireturn, 1) := by decide +kernel
theorem dX0_lacking_0 : decode cX0_lacking 0 = .ok (.aload_n 1, 1) := by decide +kernel
theorem dX0_lacking_1 : decode cX0_lacking 1 = .ok (.getfield 73, 3) := by decide +kernel
theorem dX0_lacking_4 : decode cX0_lacking 4 = .ok (.iload_n 2, 1) := by decide +kernel
theorem dX0_lacking_5 : decode cX0_lacking 5 = .ok (.iaload, 1) := by decide +kernel
theorem dX0_lacking_6 : decode cX0_lacking 6 = .ok (.iconst 3, 1) := by decide +kernel
theorem dX0_lacking_7 : decode cX0_lacking 7 = .ok (.if_icmp .eq 23, 3) := by decide +kernel
theorem dX0_lacking_10 : decode cX0_lacking 10 = .ok (.iconst 0, 1) := by decide +kernel
theorem dX0_lacking_11 : decode cX0_lacking 11 = .ok (.aload_n 1, 1) := by decide +kernel
theorem dX0_lacking_12 : decode cX0_lacking 12 = .ok (.iload_n 2, 1) := by decide +kernel
theorem dX0_lacking_13 : decode cX0_lacking 13 = .ok (.iload_n 3, 1) := by decide +kernel
theorem dX0_lacking_14 : decode cX0_lacking 14 = .ok (.iload 4, 2) := by decide +kernel
theorem dX0_lacking_16 : decode cX0_lacking 16 = .ok (.invokevirtual 76, 3) := by decide +kernel
theorem dX0_lacking_19 : decode cX0_lacking 19 = .ok (.aload_n 0, 1) := by decide +kernel
theorem dX0_lacking_20 : decode cX0_lacking 20 = .ok (.iload 4, 2) := by decide +kernel
theorem dX0_lacking_22 : decode cX0_lacking 22 = .ok (.invokevirtual 80, 3) := by decide +kernel
theorem dX0_lacking_25 : decode cX0_lacking 25 = .ok (.isub, 1) := by decide +kernel
theorem dX0_lacking_26 : decode cX0_lacking 26 = .ok (.invokestatic 84, 3) := by decide +kernel
theorem dX0_lacking_29 : decode cX0_lacking 29 = .ok (.ireturn, 1) := by decide +kernel
theorem dX0_lacking_30 : decode cX0_lacking 30 = .ok (.aload_n 1, 1) := by decide +kernel
theorem dX0_lacking_31 : decode cX0_lacking 31 = .ok (.iload_n 2, 1) := by decide +kernel
theorem dX0_lacking_32 : decode cX0_lacking 32 = .ok (.iload 4, 2) := by decide +kernel
theorem dX0_lacking_34 : decode cX0_lacking 34 = .ok (.invokevirtual 90, 3) := by decide +kernel
theorem dX0_lacking_37 : decode cX0_lacking 37 = .ok (.ifCond .ne 5, 3) := by decide +kernel
theorem dX0_lacking_40 : decode cX0_lacking 40 = .ok (.iconst 0, 1) := by decide +kernel
theorem dX0_lacking_41 : decode cX0_lacking 41 = .ok (.ireturn, 1) := by decide +kernel
theorem dX0_lacking_42 : decode cX0_lacking 42 = .ok (.aload_n 1, 1) := by decide +kernel
theorem dX0_lacking_43 : decode cX0_lacking 43 = .ok (.iload_n 2, 1) := by decide +kernel
theorem dX0_lacking_44 : decode cX0_lacking 44 = .ok (.iload_n 3, 1) := by decide +kernel
theorem dX0_lacking_45 : decode cX0_lacking 45 = .ok (.invokevirtual 94, 3) := by decide +kernel
theorem dX0_lacking_48 : decode cX0_lacking 48 = .ok (.istore 5, 2) := by decide +kernel
theorem dX0_lacking_50 : decode cX0_lacking 50 = .ok (.iconst 0, 1) := by decide +kernel
theorem dX0_lacking_51 : decode cX0_lacking 51 = .ok (.istore 6, 2) := by decide +kernel
theorem dX0_lacking_53 : decode cX0_lacking 53 = .ok (.iload 6, 2) := by decide +kernel
theorem dX0_lacking_55 : decode cX0_lacking 55 = .ok (.aload_n 1, 1) := by decide +kernel
theorem dX0_lacking_56 : decode cX0_lacking 56 = .ok (.getfield 62, 3) := by decide +kernel
theorem dX0_lacking_59 : decode cX0_lacking 59 = .ok (.if_icmp .ge 30, 3) := by decide +kernel
theorem dX0_lacking_62 : decode cX0_lacking 62 = .ok (.aload_n 1, 1) := by decide +kernel
theorem dX0_lacking_63 : decode cX0_lacking 63 = .ok (.iload_n 2, 1) := by decide +kernel
theorem dX0_lacking_64 : decode cX0_lacking 64 = .ok (.iload 6, 2) := by decide +kernel
theorem dX0_lacking_66 : decode cX0_lacking 66 = .ok (.invokevirtual 90, 3) := by decide +kernel
theorem dX0_lacking_69 : decode cX0_lacking 69 = .ok (.ifCond .eq 14, 3) := by decide +kernel
theorem dX0_lacking_72 : decode cX0_lacking 72 = .ok (.iload 5, 2) := by decide +kernel
theorem dX0_lacking_74 : decode cX0_lacking 74 = .ok (.aload_n 0, 1) := by decide +kernel
theorem dX0_lacking_75 : decode cX0_lacking 75 = .ok (.iload 6, 2) := by decide +kernel
theorem dX0_lacking_77 : decode cX0_lacking 77 = .ok (.invokevirtual 80, 3) := by decide +kernel
theorem dX0_lacking_80 : decode cX0_lacking 80 = .ok (.isub, 1) := by decide +kernel
theorem dX0_lacking_81 : decode cX0_lacking 81 = .ok (.istore 5, 2) := by decide +kernel
theorem dX0_lacking_83 : decode cX0_lacking 83 = .ok (.iinc 6 1, 3) := by decide +kernel
theorem dX0_lacking_86 : decode cX0_lacking 86 = .ok (.goto (-33), 3) := by decide +kernel
theorem dX0_lacking_89 : decode cX0_lacking 89 = .ok (.iconst 0, 1) := by decide +kernel
theorem dX0_lacking_90 : decode cX0_lacking 90 = .ok (.iload 5, 2) := by decide +kernel
theorem dX0_lacking_92 : decode cX0_lacking 92 = .ok (.invokestatic 84, 3) := by decide +kernel
theorem dX0_lacking_95 : decode cX0_lacking 95 = .ok (.ireturn, 1) := by decide +kernel
theorem dX0_packs_0 : decode cX0_packs 0 = .ok (.aload_n 1, 1) := by decide +kernel
theorem dX0_packs_1 : decode cX0_packs 1 = .ok (.iload_n 2, 1) := by decide +kernel
theorem dX0_packs_2 : decode cX0_packs 2 = .ok (.iload 4, 2) := by decide +kernel
theorem dX0_packs_4 : decode cX0_packs 4 = .ok (.aload_n 0, 1) := by decide +kernel
theorem dX0_packs_5 : decode cX0_packs 5 = .ok (.getfield 24, 3) := by decide +kernel
theorem dX0_packs_8 : decode cX0_packs 8 = .ok (.invokevirtual 69, 3) := by decide +kernel
theorem dX0_packs_11 : decode cX0_packs 11 = .ok (.ifCond .eq 14, 3) := by decide +kernel
theorem dX0_packs_14 : decode cX0_packs 14 = .ok (.aload_n 1, 1) := by decide +kernel
theorem dX0_packs_15 : decode cX0_packs 15 = .ok (.getfield 98, 3) := by decide +kernel
theorem dX0_packs_18 : decode cX0_packs 18 = .ok (.iload 4, 2) := by decide +kernel
theorem dX0_packs_20 : decode cX0_packs 20 = .ok (.iaload, 1) := by decide +kernel
theorem dX0_packs_21 : decode cX0_packs 21 = .ok (.iconst 1, 1) := by decide +kernel
theorem dX0_packs_22 : decode cX0_packs 22 = .ok (.if_icmp .ge 5, 3) := by decide +kernel
theorem dX0_packs_25 : decode cX0_packs 25 = .ok (.iconst 0, 1) := by decide +kernel
theorem dX0_packs_26 : decode cX0_packs 26 = .ok (.ireturn, 1) := by decide +kernel
theorem dX0_packs_27 : decode cX0_packs 27 = .ok (.aload_n 0, 1) := by decide +kernel
theorem dX0_packs_28 : decode cX0_packs 28 = .ok (.aload_n 1, 1) := by decide +kernel
theorem dX0_packs_29 : decode cX0_packs 29 = .ok (.iload_n 2, 1) := by decide +kernel
theorem dX0_packs_30 : decode cX0_packs 30 = .ok (.iload_n 3, 1) := by decide +kernel
theorem dX0_packs_31 : decode cX0_packs 31 = .ok (.iload 4, 2) := by decide +kernel
theorem dX0_packs_33 : decode cX0_packs 33 = .ok (.invokevirtual 65, 3) := by decide +kernel
theorem dX0_packs_36 : decode cX0_packs 36 = .ok (.aload_n 1, 1) := by decide +kernel
theorem dX0_packs_37 : decode cX0_packs 37 = .ok (.getfield 98, 3) := by decide +kernel
theorem dX0_packs_40 : decode cX0_packs 40 = .ok (.iload 4, 2) := by decide +kernel
theorem dX0_packs_42 : decode cX0_packs 42 = .ok (.iaload, 1) := by decide +kernel
theorem dX0_packs_43 : decode cX0_packs 43 = .ok (.iadd, 1) := by decide +kernel
theorem dX0_packs_44 : decode cX0_packs 44 = .ok (.iconst 1, 1) := by decide +kernel
theorem dX0_packs_45 : decode cX0_packs 45 = .ok (.isub, 1) := by decide +kernel
theorem dX0_packs_46 : decode cX0_packs 46 = .ok (.aload_n 1, 1) := by decide +kernel
theorem dX0_packs_47 : decode cX0_packs 47 = .ok (.getfield 98, 3) := by decide +kernel
theorem dX0_packs_50 : decode cX0_packs 50 = .ok (.iload 4, 2) := by decide +kernel
theorem dX0_packs_52 : decode cX0_packs 52 = .ok (.iaload, 1) := by decide +kernel
theorem dX0_packs_53 : decode cX0_packs 53 = .ok (.idiv, 1) := by decide +kernel
theorem dX0_packs_54 : decode cX0_packs 54 = .ok (.ireturn, 1) := by decide +kernel
theorem dX0_taking_0 : decode cX0_taking 0 = .ok (.aload_n 0, 1) := by decide +kernel
theorem dX0_taking_1 : decode cX0_taking 1 = .ok (.aload_n 1, 1) := by decide +kernel
theorem dX0_taking_2 : decode cX0_taking 2 = .ok (.iload_n 2, 1) := by decide +kernel
theorem dX0_taking_3 : decode cX0_taking 3 = .ok (.iload_n 3, 1) := by decide +kernel
theorem dX0_taking_4 : decode cX0_taking 4 = .ok (.invokevirtual 101, 3) := by decide +kernel
theorem dX0_taking_7 : decode cX0_taking 7 = .ok (.aload_n 0, 1) := by decide +kernel
theorem dX0_taking_8 : decode cX0_taking 8 = .ok (.getfield 18, 3) := by decide +kernel
theorem dX0_taking_11 : decode cX0_taking 11 = .ok (.iload 4, 2) := by decide +kernel
theorem dX0_taking_13 : decode cX0_taking 13 = .ok (.iaload, 1) := by decide +kernel
theorem dX0_taking_14 : decode cX0_taking 14 = .ok (.ireturn, 1) := by decide +kernel
theorem dX0_findTaken_0 : decode cX0_findTaken 0 = .ok (.iconst 0, 1) := by decide +kernel
theorem dX0_findTaken_1 : decode cX0_findTaken 1 = .ok (.istore 4, 2) := by decide +kernel
theorem dX0_findTaken_3 : decode cX0_findTaken 3 = .ok (.iload 4, 2) := by decide +kernel
theorem dX0_findTaken_5 : decode cX0_findTaken 5 = .ok (.aload_n 1, 1) := by decide +kernel
theorem dX0_findTaken_6 : decode cX0_findTaken 6 = .ok (.getfield 62, 3) := by decide +kernel
theorem dX0_findTaken_9 : decode cX0_findTaken 9 = .ok (.if_icmp .ge 17, 3) := by decide +kernel
theorem dX0_findTaken_12 : decode cX0_findTaken 12 = .ok (.aload_n 0, 1) := by decide +kernel
theorem dX0_findTaken_13 : decode cX0_findTaken 13 = .ok (.getfield 18, 3) := by decide +kernel
theorem dX0_findTaken_16 : decode cX0_findTaken 16 = .ok (.iload 4, 2) := by decide +kernel
theorem dX0_findTaken_18 : decode cX0_findTaken 18 = .ok (.iconst 0, 1) := by decide +kernel
theorem dX0_findTaken_19 : decode cX0_findTaken 19 = .ok (.iastore, 1) := by decide +kernel
theorem dX0_findTaken_20 : decode cX0_findTaken 20 = .ok (.iinc 4 1, 3) := by decide +kernel
theorem dX0_findTaken_23 : decode cX0_findTaken 23 = .ok (.goto (-20), 3) := by decide +kernel
theorem dX0_findTaken_26 : decode cX0_findTaken 26 = .ok (.aload_n 1, 1) := by decide +kernel
theorem dX0_findTaken_27 : decode cX0_findTaken 27 = .ok (.getfield 73, 3) := by decide +kernel
theorem dX0_findTaken_30 : decode cX0_findTaken 30 = .ok (.iload_n 2, 1) := by decide +kernel
theorem dX0_findTaken_31 : decode cX0_findTaken 31 = .ok (.iaload, 1) := by decide +kernel
theorem dX0_findTaken_32 : decode cX0_findTaken 32 = .ok (.iconst 3, 1) := by decide +kernel
theorem dX0_findTaken_33 : decode cX0_findTaken 33 = .ok (.if_icmp .ne 11, 3) := by decide +kernel
theorem dX0_findTaken_36 : decode cX0_findTaken 36 = .ok (.aload_n 0, 1) := by decide +kernel
theorem dX0_findTaken_37 : decode cX0_findTaken 37 = .ok (.aload_n 1, 1) := by decide +kernel
theorem dX0_findTaken_38 : decode cX0_findTaken 38 = .ok (.iload_n 2, 1) := by decide +kernel
theorem dX0_findTaken_39 : decode cX0_findTaken 39 = .ok (.iload_n 3, 1) := by decide +kernel
theorem dX0_findTaken_40 : decode cX0_findTaken 40 = .ok (.invokevirtual 105, 3) := by decide +kernel
theorem dX0_findTaken_43 : decode cX0_findTaken 43 = .ok (.return_, 1) := by decide +kernel
theorem dX0_findTaken_44 : decode cX0_findTaken 44 = .ok (.iconst 0, 1) := by decide +kernel
theorem dX0_findTaken_45 : decode cX0_findTaken 45 = .ok (.istore 4, 2) := by decide +kernel
theorem dX0_findTaken_47 : decode cX0_findTaken 47 = .ok (.iload 4, 2) := by decide +kernel
theorem dX0_findTaken_49 : decode cX0_findTaken 49 = .ok (.aload_n 1, 1) := by decide +kernel
theorem dX0_findTaken_50 : decode cX0_findTaken 50 = .ok (.getfield 62, 3) := by decide +kernel
theorem dX0_findTaken_53 : decode cX0_findTaken 53 = .ok (.if_icmp .ge 33, 3) := by decide +kernel
theorem dX0_findTaken_56 : decode cX0_findTaken 56 = .ok (.aload_n 0, 1) := by decide +kernel
theorem dX0_findTaken_57 : decode cX0_findTaken 57 = .ok (.getfield 18, 3) := by decide +kernel
theorem dX0_findTaken_60 : decode cX0_findTaken 60 = .ok (.iload 4, 2) := by decide +kernel
theorem dX0_findTaken_62 : decode cX0_findTaken 62 = .ok (.aload_n 1, 1) := by decide +kernel
theorem dX0_findTaken_63 : decode cX0_findTaken 63 = .ok (.iload_n 2, 1) := by decide +kernel
theorem dX0_findTaken_64 : decode cX0_findTaken 64 = .ok (.iload_n 3, 1) := by decide +kernel
theorem dX0_findTaken_65 : decode cX0_findTaken 65 = .ok (.iload 4, 2) := by decide +kernel
theorem dX0_findTaken_67 : decode cX0_findTaken 67 = .ok (.invokevirtual 76, 3) := by decide +kernel
theorem dX0_findTaken_70 : decode cX0_findTaken 70 = .ok (.aload_n 0, 1) := by decide +kernel
theorem dX0_findTaken_71 : decode cX0_findTaken 71 = .ok (.iload 4, 2) := by decide +kernel
theorem dX0_findTaken_73 : decode cX0_findTaken 73 = .ok (.invokevirtual 80, 3) := by decide +kernel
theorem dX0_findTaken_76 : decode cX0_findTaken 76 = .ok (.invokestatic 108, 3) := by decide +kernel
theorem dX0_findTaken_79 : decode cX0_findTaken 79 = .ok (.iastore, 1) := by decide +kernel
theorem dX0_findTaken_80 : decode cX0_findTaken 80 = .ok (.iinc 4 1, 3) := by decide +kernel
theorem dX0_findTaken_83 : decode cX0_findTaken 83 = .ok (.goto (-36), 3) := by decide +kernel
theorem dX0_findTaken_86 : decode cX0_findTaken 86 = .ok (.return_, 1) := by decide +kernel
theorem dX0_findTakenBySoup_0 : decode cX0_findTakenBySoup 0 = .ok (.aload_n 1, 1) := by decide +kernel
theorem dX0_findTakenBySoup_1 : decode cX0_findTakenBySoup 1 = .ok (.iload_n 2, 1) := by decide +kernel
theorem dX0_findTakenBySoup_2 : decode cX0_findTakenBySoup 2 = .ok (.iload_n 3, 1) := by decide +kernel
theorem dX0_findTakenBySoup_3 : decode cX0_findTakenBySoup 3 = .ok (.invokevirtual 94, 3) := by decide +kernel
theorem dX0_findTakenBySoup_6 : decode cX0_findTakenBySoup 6 = .ok (.istore 4, 2) := by decide +kernel
theorem dX0_findTakenBySoup_8 : decode cX0_findTakenBySoup 8 = .ok (.iconst 3, 1) := by decide +kernel
theorem dX0_findTakenBySoup_9 : decode cX0_findTakenBySoup 9 = .ok (.istore 5, 2) := by decide +kernel
theorem dX0_findTakenBySoup_11 : decode cX0_findTakenBySoup 11 = .ok (.iload 5, 2) := by decide +kernel
theorem dX0_findTakenBySoup_13 : decode cX0_findTakenBySoup 13 = .ok (.ifCond .lt 79, 3) := by decide +kernel
theorem dX0_findTakenBySoup_16 : decode cX0_findTakenBySoup 16 = .ok (.iconst 0, 1) := by decide +kernel
theorem dX0_findTakenBySoup_17 : decode cX0_findTakenBySoup 17 = .ok (.istore 6, 2) := by decide +kernel
theorem dX0_findTakenBySoup_19 : decode cX0_findTakenBySoup 19 = .ok (.iload 6, 2) := by decide +kernel
theorem dX0_findTakenBySoup_21 : decode cX0_findTakenBySoup 21 = .ok (.aload_n 1, 1) := by decide +kernel
theorem dX0_findTakenBySoup_22 : decode cX0_findTakenBySoup 22 = .ok (.getfield 62, 3) := by decide +kernel
theorem dX0_findTakenBySoup_25 : decode cX0_findTakenBySoup 25 = .ok (.if_icmp .ge 61, 3) := by decide +kernel
theorem dX0_findTakenBySoup_28 : decode cX0_findTakenBySoup 28 = .ok (.aload_n 1, 1) := by decide +kernel
theorem dX0_findTakenBySoup_29 : decode cX0_findTakenBySoup 29 = .ok (.iload_n 2, 1) := by decide +kernel
theorem dX0_findTakenBySoup_30 : decode cX0_findTakenBySoup 30 = .ok (.iload 6, 2) := by decide +kernel
theorem dX0_findTakenBySoup_32 : decode cX0_findTakenBySoup 32 = .ok (.invokevirtual 90, 3) := by decide +kernel
theorem dX0_findTakenBySoup_35 : decode cX0_findTakenBySoup 35 = .ok (.ifCond .eq 23, 3) := by decide +kernel
theorem dX0_findTakenBySoup_38 : decode cX0_findTakenBySoup 38 = .ok (.iload 4, 2) := by decide +kernel
theorem dX0_findTakenBySoup_40 : decode cX0_findTakenBySoup 40 = .ok (.aload_n 0, 1) := by decide +kernel
theorem dX0_findTakenBySoup_41 : decode cX0_findTakenBySoup 41 = .ok (.getfield 9, 3) := by decide +kernel
theorem dX0_findTakenBySoup_44 : decode cX0_findTakenBySoup 44 = .ok (.iload 6, 2) := by decide +kernel
theorem dX0_findTakenBySoup_46 : decode cX0_findTakenBySoup 46 = .ok (.iconst 4, 1) := by decide +kernel
theorem dX0_findTakenBySoup_47 : decode cX0_findTakenBySoup 47 = .ok (.imul, 1) := by decide +kernel
theorem dX0_findTakenBySoup_48 : decode cX0_findTakenBySoup 48 = .ok (.iload 5, 2) := by decide +kernel
theorem dX0_findTakenBySoup_50 : decode cX0_findTakenBySoup 50 = .ok (.iadd, 1) := by decide +kernel
theorem dX0_findTakenBySoup_51 : decode cX0_findTakenBySoup 51 = .ok (.iaload, 1) := by decide +kernel
theorem dX0_findTakenBySoup_52 : decode cX0_findTakenBySoup 52 = .ok (.invokestatic 108, 3) := by decide +kernel
theorem dX0_findTakenBySoup_55 : decode cX0_findTakenBySoup 55 = .ok (.goto 4, 3) := by decide +kernel
theorem dX0_findTakenBySoup_58 : decode cX0_findTakenBySoup 58 = .ok (.iconst 0, 1) := by decide +kernel
theorem dX0_findTakenBySoup_59 : decode cX0_findTakenBySoup 59 = .ok (.istore 7, 2) := by decide +kernel
theorem dX0_findTakenBySoup_61 : decode cX0_findTakenBySoup 61 = .ok (.aload_n 0, 1) := by decide +kernel
theorem dX0_findTakenBySoup_62 : decode cX0_findTakenBySoup 62 = .ok (.getfield 18, 3) := by decide +kernel
theorem dX0_findTakenBySoup_65 : decode cX0_findTakenBySoup 65 = .ok (.iload 6, 2) := by decide +kernel
theorem dX0_findTakenBySoup_67 : decode cX0_findTakenBySoup 67 = .ok (.dup2, 1) := by decide +kernel
theorem dX0_findTakenBySoup_68 : decode cX0_findTakenBySoup 68 = .ok (.iaload, 1) := by decide +kernel
theorem dX0_findTakenBySoup_69 : decode cX0_findTakenBySoup 69 = .ok (.iload 7, 2) := by decide +kernel
theorem dX0_findTakenBySoup_71 : decode cX0_findTakenBySoup 71 = .ok (.iadd, 1) := by decide +kernel
theorem dX0_findTakenBySoup_72 : decode cX0_findTakenBySoup 72 = .ok (.iastore, 1) := by decide +kernel
theorem dX0_findTakenBySoup_73 : decode cX0_findTakenBySoup 73 = .ok (.iload 4, 2) := by decide +kernel
theorem dX0_findTakenBySoup_75 : decode cX0_findTakenBySoup 75 = .ok (.iload 7, 2) := by decide +kernel
theorem dX0_findTakenBySoup_77 : decode cX0_findTakenBySoup 77 = .ok (.isub, 1) := by decide +kernel
theorem dX0_findTakenBySoup_78 : decode cX0_findTakenBySoup 78 = .ok (.istore 4, 2) := by decide +kernel
theorem dX0_findTakenBySoup_80 : decode cX0_findTakenBySoup 80 = .ok (.iinc 6 1, 3) := by decide +kernel
theorem dX0_findTakenBySoup_83 : decode cX0_findTakenBySoup 83 = .ok (.goto (-64), 3) := by decide +kernel
theorem dX0_findTakenBySoup_86 : decode cX0_findTakenBySoup 86 = .ok (.iinc 5 (-1), 3) := by decide +kernel
theorem dX0_findTakenBySoup_89 : decode cX0_findTakenBySoup 89 = .ok (.goto (-78), 3) := by decide +kernel
theorem dX0_findTakenBySoup_92 : decode cX0_findTakenBySoup 92 = .ok (.return_, 1) := by decide +kernel
theorem dX0_serve_0 : decode cX0_serve 0 = .ok (.iconst 0, 1) := by decide +kernel
theorem dX0_serve_1 : decode cX0_serve 1 = .ok (.istore 4, 2) := by decide +kernel
theorem dX0_serve_3 : decode cX0_serve 3 = .ok (.aload_n 0, 1) := by decide +kernel
theorem dX0_serve_4 : decode cX0_serve 4 = .ok (.aload_n 1, 1) := by decide +kernel
theorem dX0_serve_5 : decode cX0_serve 5 = .ok (.iload_n 2, 1) := by decide +kernel
theorem dX0_serve_6 : decode cX0_serve 6 = .ok (.iload_n 3, 1) := by decide +kernel
theorem dX0_serve_7 : decode cX0_serve 7 = .ok (.invokevirtual 101, 3) := by decide +kernel
theorem dX0_serve_10 : decode cX0_serve 10 = .ok (.iconst 0, 1) := by decide +kernel
theorem dX0_serve_11 : decode cX0_serve 11 = .ok (.istore 5, 2) := by decide +kernel
theorem dX0_serve_13 : decode cX0_serve 13 = .ok (.iload 5, 2) := by decide +kernel
theorem dX0_serve_15 : decode cX0_serve 15 = .ok (.aload_n 1, 1) := by decide +kernel
theorem dX0_serve_16 : decode cX0_serve 16 = .ok (.getfield 62, 3) := by decide +kernel
theorem dX0_serve_19 : decode cX0_serve 19 = .ok (.if_icmp .ge 106, 3) := by decide +kernel
theorem dX0_serve_22 : decode cX0_serve 22 = .ok (.aload_n 0, 1) := by decide +kernel
theorem dX0_serve_23 : decode cX0_serve 23 = .ok (.aload_n 1, 1) := by decide +kernel
theorem dX0_serve_24 : decode cX0_serve 24 = .ok (.iload_n 2, 1) := by decide +kernel
theorem dX0_serve_25 : decode cX0_serve 25 = .ok (.iload_n 3, 1) := by decide +kernel
theorem dX0_serve_26 : decode cX0_serve 26 = .ok (.iload 5, 2) := by decide +kernel
theorem dX0_serve_28 : decode cX0_serve 28 = .ok (.invokevirtual 111, 3) := by decide +kernel
theorem dX0_serve_31 : decode cX0_serve 31 = .ok (.istore 6, 2) := by decide +kernel
theorem dX0_serve_33 : decode cX0_serve 33 = .ok (.iload 6, 2) := by decide +kernel
theorem dX0_serve_35 : decode cX0_serve 35 = .ok (.ifCond .ne 7, 3) := by decide +kernel
theorem dX0_serve_38 : decode cX0_serve 38 = .ok (.iconst 0, 1) := by decide +kernel
theorem dX0_serve_39 : decode cX0_serve 39 = .ok (.goto 23, 3) := by decide +kernel
theorem dX0_serve_42 : decode cX0_serve 42 = .ok (.iload 6, 2) := by decide +kernel
theorem dX0_serve_44 : decode cX0_serve 44 = .ok (.aload_n 1, 1) := by decide +kernel
theorem dX0_serve_45 : decode cX0_serve 45 = .ok (.getfield 98, 3) := by decide +kernel
theorem dX0_serve_48 : decode cX0_serve 48 = .ok (.iload 5, 2) := by decide +kernel
theorem dX0_serve_50 : decode cX0_serve 50 = .ok (.iaload, 1) := by decide +kernel
theorem dX0_serve_51 : decode cX0_serve 51 = .ok (.imul, 1) := by decide +kernel
theorem dX0_serve_52 : decode cX0_serve 52 = .ok (.aload_n 0, 1) := by decide +kernel
theorem dX0_serve_53 : decode cX0_serve 53 = .ok (.aload_n 1, 1) := by decide +kernel
theorem dX0_serve_54 : decode cX0_serve 54 = .ok (.iload_n 2, 1) := by decide +kernel
theorem dX0_serve_55 : decode cX0_serve 55 = .ok (.iload_n 3, 1) := by decide +kernel
theorem dX0_serve_56 : decode cX0_serve 56 = .ok (.iload 5, 2) := by decide +kernel
theorem dX0_serve_58 : decode cX0_serve 58 = .ok (.invokevirtual 65, 3) := by decide +kernel
theorem dX0_serve_61 : decode cX0_serve 61 = .ok (.isub, 1) := by decide +kernel
theorem dX0_serve_62 : decode cX0_serve 62 = .ok (.istore 7, 2) := by decide +kernel
theorem dX0_serve_64 : decode cX0_serve 64 = .ok (.aload_n 0, 1) := by decide +kernel
theorem dX0_serve_65 : decode cX0_serve 65 = .ok (.iload 5, 2) := by decide +kernel
theorem dX0_serve_67 : decode cX0_serve 67 = .ok (.aload_n 0, 1) := by decide +kernel
theorem dX0_serve_68 : decode cX0_serve 68 = .ok (.getfield 18, 3) := by decide +kernel
theorem dX0_serve_71 : decode cX0_serve 71 = .ok (.iload 5, 2) := by decide +kernel
theorem dX0_serve_73 : decode cX0_serve 73 = .ok (.iaload, 1) := by decide +kernel
theorem dX0_serve_74 : decode cX0_serve 74 = .ok (.invokevirtual 114, 3) := by decide +kernel
theorem dX0_serve_77 : decode cX0_serve 77 = .ok (.aload_n 0, 1) := by decide +kernel
theorem dX0_serve_78 : decode cX0_serve 78 = .ok (.getfield 9, 3) := by decide +kernel
theorem dX0_serve_81 : decode cX0_serve 81 = .ok (.iload 5, 2) := by decide +kernel
theorem dX0_serve_83 : decode cX0_serve 83 = .ok (.iconst 4, 1) := by decide +kernel
theorem dX0_serve_84 : decode cX0_serve 84 = .ok (.imul, 1) := by decide +kernel
theorem dX0_serve_85 : decode cX0_serve 85 = .ok (.dup2, 1) := by decide +kernel
theorem dX0_serve_86 : decode cX0_serve 86 = .ok (.iaload, 1) := by decide +kernel
theorem dX0_serve_87 : decode cX0_serve 87 = .ok (.iload 7, 2) := by decide +kernel
theorem dX0_serve_89 : decode cX0_serve 89 = .ok (.aload_n 1, 1) := by decide +kernel
theorem dX0_serve_90 : decode cX0_serve 90 = .ok (.getfield 118, 3) := by decide +kernel
theorem dX0_serve_93 : decode cX0_serve 93 = .ok (.iload_n 2, 1) := by decide +kernel
theorem dX0_serve_94 : decode cX0_serve 94 = .ok (.bipush 6, 2) := by decide +kernel
theorem dX0_serve_96 : decode cX0_serve 96 = .ok (.imul, 1) := by decide +kernel
theorem dX0_serve_97 : decode cX0_serve 97 = .ok (.iload 5, 2) := by decide +kernel
theorem dX0_serve_99 : decode cX0_serve 99 = .ok (.iadd, 1) := by decide +kernel
theorem dX0_serve_100 : decode cX0_serve 100 = .ok (.iaload, 1) := by decide +kernel
theorem dX0_serve_101 : decode cX0_serve 101 = .ok (.iadd, 1) := by decide +kernel
theorem dX0_serve_102 : decode cX0_serve 102 = .ok (.iadd, 1) := by decide +kernel
theorem dX0_serve_103 : decode cX0_serve 103 = .ok (.iastore, 1) := by decide +kernel
theorem dX0_serve_104 : decode cX0_serve 104 = .ok (.iload 4, 2) := by decide +kernel
theorem dX0_serve_106 : decode cX0_serve 106 = .ok (.iload 6, 2) := by decide +kernel
theorem dX0_serve_108 : decode cX0_serve 108 = .ok (.aload_n 1, 1) := by decide +kernel
theorem dX0_serve_109 : decode cX0_serve 109 = .ok (.getfield 121, 3) := by decide +kernel
theorem dX0_serve_112 : decode cX0_serve 112 = .ok (.iload 5, 2) := by decide +kernel
theorem dX0_serve_114 : decode cX0_serve 114 = .ok (.iaload, 1) := by decide +kernel
theorem dX0_serve_115 : decode cX0_serve 115 = .ok (.imul, 1) := by decide +kernel
theorem dX0_serve_116 : decode cX0_serve 116 = .ok (.iadd, 1) := by decide +kernel
theorem dX0_serve_117 : decode cX0_serve 117 = .ok (.istore 4, 2) := by decide +kernel
theorem dX0_serve_119 : decode cX0_serve 119 = .ok (.iinc 5 1, 3) := by decide +kernel
theorem dX0_serve_122 : decode cX0_serve 122 = .ok (.goto (-109), 3) := by decide +kernel
theorem dX0_serve_125 : decode cX0_serve 125 = .ok (.aload_n 0, 1) := by decide +kernel
theorem dX0_serve_126 : decode cX0_serve 126 = .ok (.getfield 15, 3) := by decide +kernel
theorem dX0_serve_129 : decode cX0_serve 129 = .ok (.iload_n 2, 1) := by decide +kernel
theorem dX0_serve_130 : decode cX0_serve 130 = .ok (.aload_n 0, 1) := by decide +kernel
theorem dX0_serve_131 : decode cX0_serve 131 = .ok (.getfield 24, 3) := by decide +kernel
theorem dX0_serve_134 : decode cX0_serve 134 = .ok (.iastore, 1) := by decide +kernel
theorem dX0_serve_135 : decode cX0_serve 135 = .ok (.aload_n 0, 1) := by decide +kernel
theorem dX0_serve_136 : decode cX0_serve 136 = .ok (.iload_n 2, 1) := by decide +kernel
theorem dX0_serve_137 : decode cX0_serve 137 = .ok (.putfield 28, 3) := by decide +kernel
theorem dX0_serve_140 : decode cX0_serve 140 = .ok (.aload_n 0, 1) := by decide +kernel
theorem dX0_serve_141 : decode cX0_serve 141 = .ok (.dup, 1) := by decide +kernel
theorem dX0_serve_142 : decode cX0_serve 142 = .ok (.getfield 34, 3) := by decide +kernel
theorem dX0_serve_145 : decode cX0_serve 145 = .ok (.iload 4, 2) := by decide +kernel
theorem dX0_serve_147 : decode cX0_serve 147 = .ok (.iadd, 1) := by decide +kernel
theorem dX0_serve_148 : decode cX0_serve 148 = .ok (.putfield 34, 3) := by decide +kernel
theorem dX0_serve_151 : decode cX0_serve 151 = .ok (.aload_n 0, 1) := by decide +kernel
theorem dX0_serve_152 : decode cX0_serve 152 = .ok (.dup, 1) := by decide +kernel
theorem dX0_serve_153 : decode cX0_serve 153 = .ok (.getfield 40, 3) := by decide +kernel
theorem dX0_serve_156 : decode cX0_serve 156 = .ok (.aload_n 1, 1) := by decide +kernel
theorem dX0_serve_157 : decode cX0_serve 157 = .ok (.getfield 124, 3) := by decide +kernel
theorem dX0_serve_160 : decode cX0_serve 160 = .ok (.iload_n 2, 1) := by decide +kernel
theorem dX0_serve_161 : decode cX0_serve 161 = .ok (.iaload, 1) := by decide +kernel
theorem dX0_serve_162 : decode cX0_serve 162 = .ok (.iadd, 1) := by decide +kernel
theorem dX0_serve_163 : decode cX0_serve 163 = .ok (.putfield 40, 3) := by decide +kernel
theorem dX0_serve_166 : decode cX0_serve 166 = .ok (.iload 4, 2) := by decide +kernel
theorem dX0_serve_168 : decode cX0_serve 168 = .ok (.ireturn, 1) := by decide +kernel
theorem dX0_takeOldest_0 : decode cX0_takeOldest 0 = .ok (.iload_n 2, 1) := by decide +kernel
theorem dX0_takeOldest_1 : decode cX0_takeOldest 1 = .ok (.istore_n 3, 1) := by decide +kernel
theorem dX0_takeOldest_2 : decode cX0_takeOldest 2 = .ok (.iconst 3, 1) := by decide +kernel
theorem dX0_takeOldest_3 : decode cX0_takeOldest 3 = .ok (.istore 4, 2) := by decide +kernel
theorem dX0_takeOldest_5 : decode cX0_takeOldest 5 = .ok (.iload 4, 2) := by decide +kernel
theorem dX0_takeOldest_7 : decode cX0_takeOldest 7 = .ok (.ifCond .lt 51, 3) := by decide +kernel
theorem dX0_takeOldest_10 : decode cX0_takeOldest 10 = .ok (.iload_n 3, 1) := by decide +kernel
theorem dX0_takeOldest_11 : decode cX0_takeOldest 11 = .ok (.ifCond .le 47, 3) := by decide +kernel
theorem dX0_takeOldest_14 : decode cX0_takeOldest 14 = .ok (.iload_n 3, 1) := by decide +kernel
theorem dX0_takeOldest_15 : decode cX0_takeOldest 15 = .ok (.aload_n 0, 1) := by decide +kernel
theorem dX0_takeOldest_16 : decode cX0_takeOldest 16 = .ok (.getfield 9, 3) := by decide +kernel
theorem dX0_takeOldest_19 : decode cX0_takeOldest 19 = .ok (.iload_n 1, 1) := by decide +kernel
theorem dX0_takeOldest_20 : decode cX0_takeOldest 20 = .ok (.iconst 4, 1) := by decide +kernel
theorem dX0_takeOldest_21 : decode cX0_takeOldest 21 = .ok (.imul, 1) := by decide +kernel
theorem dX0_takeOldest_22 : decode cX0_takeOldest 22 = .ok (.iload 4, 2) := by decide +kernel
theorem dX0_takeOldest_24 : decode cX0_takeOldest 24 = .ok (.iadd, 1) := by decide +kernel
theorem dX0_takeOldest_25 : decode cX0_takeOldest 25 = .ok (.iaload, 1) := by decide +kernel
theorem dX0_takeOldest_26 : decode cX0_takeOldest 26 = .ok (.invokestatic 108, 3) := by decide +kernel
theorem dX0_takeOldest_29 : decode cX0_takeOldest 29 = .ok (.istore 5, 2) := by decide +kernel
theorem dX0_takeOldest_31 : decode cX0_takeOldest 31 = .ok (.aload_n 0, 1) := by decide +kernel
theorem dX0_takeOldest_32 : decode cX0_takeOldest 32 = .ok (.getfield 9, 3) := by decide +kernel
theorem dX0_takeOldest_35 : decode cX0_takeOldest 35 = .ok (.iload_n 1, 1) := by decide +kernel
theorem dX0_takeOldest_36 : decode cX0_takeOldest 36 = .ok (.iconst 4, 1) := by decide +kernel
theorem dX0_takeOldest_37 : decode cX0_takeOldest 37 = .ok (.imul, 1) := by decide +kernel
theorem dX0_takeOldest_38 : decode cX0_takeOldest 38 = .ok (.iload 4, 2) := by decide +kernel
theorem dX0_takeOldest_40 : decode cX0_takeOldest 40 = .ok (.iadd, 1) := by decide +kernel
theorem dX0_takeOldest_41 : decode cX0_takeOldest 41 = .ok (.dup2, 1) := by decide +kernel
theorem dX0_takeOldest_42 : decode cX0_takeOldest 42 = .ok (.iaload, 1) := by decide +kernel
theorem dX0_takeOldest_43 : decode cX0_takeOldest 43 = .ok (.iload 5, 2) := by decide +kernel
theorem dX0_takeOldest_45 : decode cX0_takeOldest 45 = .ok (.isub, 1) := by decide +kernel
theorem dX0_takeOldest_46 : decode cX0_takeOldest 46 = .ok (.iastore, 1) := by decide +kernel
theorem dX0_takeOldest_47 : decode cX0_takeOldest 47 = .ok (.iload_n 3, 1) := by decide +kernel
theorem dX0_takeOldest_48 : decode cX0_takeOldest 48 = .ok (.iload 5, 2) := by decide +kernel
theorem dX0_takeOldest_50 : decode cX0_takeOldest 50 = .ok (.isub, 1) := by decide +kernel
theorem dX0_takeOldest_51 : decode cX0_takeOldest 51 = .ok (.istore_n 3, 1) := by decide +kernel
theorem dX0_takeOldest_52 : decode cX0_takeOldest 52 = .ok (.iinc 4 (-1), 3) := by decide +kernel
theorem dX0_takeOldest_55 : decode cX0_takeOldest 55 = .ok (.goto (-50), 3) := by decide +kernel
theorem dX0_takeOldest_58 : decode cX0_takeOldest 58 = .ok (.return_, 1) := by decide +kernel
theorem dX0_passNight_0 : decode cX0_passNight 0 = .ok (.iconst 0, 1) := by decide +kernel
theorem dX0_passNight_1 : decode cX0_passNight 1 = .ok (.istore_n 2, 1) := by decide +kernel
theorem dX0_passNight_2 : decode cX0_passNight 2 = .ok (.iconst 0, 1) := by decide +kernel
theorem dX0_passNight_3 : decode cX0_passNight 3 = .ok (.istore_n 3, 1) := by decide +kernel
theorem dX0_passNight_4 : decode cX0_passNight 4 = .ok (.iload_n 3, 1) := by decide +kernel
theorem dX0_passNight_5 : decode cX0_passNight 5 = .ok (.aload_n 1, 1) := by decide +kernel
theorem dX0_passNight_6 : decode cX0_passNight 6 = .ok (.getfield 62, 3) := by decide +kernel
theorem dX0_passNight_9 : decode cX0_passNight 9 = .ok (.if_icmp .ge 84, 3) := by decide +kernel
theorem dX0_passNight_12 : decode cX0_passNight 12 = .ok (.iconst 3, 1) := by decide +kernel
theorem dX0_passNight_13 : decode cX0_passNight 13 = .ok (.istore 4, 2) := by decide +kernel
theorem dX0_passNight_15 : decode cX0_passNight 15 = .ok (.iload 4, 2) := by decide +kernel
theorem dX0_passNight_17 : decode cX0_passNight 17 = .ok (.ifCond .lt 70, 3) := by decide +kernel
theorem dX0_passNight_20 : decode cX0_passNight 20 = .ok (.aload_n 0, 1) := by decide +kernel
theorem dX0_passNight_21 : decode cX0_passNight 21 = .ok (.getfield 9, 3) := by decide +kernel
theorem dX0_passNight_24 : decode cX0_passNight 24 = .ok (.iload_n 3, 1) := by decide +kernel
theorem dX0_passNight_25 : decode cX0_passNight 25 = .ok (.iconst 4, 1) := by decide +kernel
theorem dX0_passNight_26 : decode cX0_passNight 26 = .ok (.imul, 1) := by decide +kernel
theorem dX0_passNight_27 : decode cX0_passNight 27 = .ok (.iload 4, 2) := by decide +kernel
theorem dX0_passNight_29 : decode cX0_passNight 29 = .ok (.iadd, 1) := by decide +kernel
theorem dX0_passNight_30 : decode cX0_passNight 30 = .ok (.iaload, 1) := by decide +kernel
theorem dX0_passNight_31 : decode cX0_passNight 31 = .ok (.istore 5, 2) := by decide +kernel
theorem dX0_passNight_33 : decode cX0_passNight 33 = .ok (.aload_n 0, 1) := by decide +kernel
theorem dX0_passNight_34 : decode cX0_passNight 34 = .ok (.getfield 9, 3) := by decide +kernel
theorem dX0_passNight_37 : decode cX0_passNight 37 = .ok (.iload_n 3, 1) := by decide +kernel
theorem dX0_passNight_38 : decode cX0_passNight 38 = .ok (.iconst 4, 1) := by decide +kernel
theorem dX0_passNight_39 : decode cX0_passNight 39 = .ok (.imul, 1) := by decide +kernel
theorem dX0_passNight_40 : decode cX0_passNight 40 = .ok (.iload 4, 2) := by decide +kernel
theorem dX0_passNight_42 : decode cX0_passNight 42 = .ok (.iadd, 1) := by decide +kernel
theorem dX0_passNight_43 : decode cX0_passNight 43 = .ok (.iconst 0, 1) := by decide +kernel
theorem dX0_passNight_44 : decode cX0_passNight 44 = .ok (.iastore, 1) := by decide +kernel
theorem dX0_passNight_45 : decode cX0_passNight 45 = .ok (.iload 4, 2) := by decide +kernel
theorem dX0_passNight_47 : decode cX0_passNight 47 = .ok (.iconst 1, 1) := by decide +kernel
theorem dX0_passNight_48 : decode cX0_passNight 48 = .ok (.iadd, 1) := by decide +kernel
theorem dX0_passNight_49 : decode cX0_passNight 49 = .ok (.aload_n 1, 1) := by decide +kernel
theorem dX0_passNight_50 : decode cX0_passNight 50 = .ok (.getfield 127, 3) := by decide +kernel
theorem dX0_passNight_53 : decode cX0_passNight 53 = .ok (.iload_n 3, 1) := by decide +kernel
theorem dX0_passNight_54 : decode cX0_passNight 54 = .ok (.iaload, 1) := by decide +kernel
theorem dX0_passNight_55 : decode cX0_passNight 55 = .ok (.if_icmp .ge 21, 3) := by decide +kernel
theorem dX0_passNight_58 : decode cX0_passNight 58 = .ok (.aload_n 0, 1) := by decide +kernel
theorem dX0_passNight_59 : decode cX0_passNight 59 = .ok (.getfield 9, 3) := by decide +kernel
theorem dX0_passNight_62 : decode cX0_passNight 62 = .ok (.iload_n 3, 1) := by decide +kernel
theorem dX0_passNight_63 : decode cX0_passNight 63 = .ok (.iconst 4, 1) := by decide +kernel
theorem dX0_passNight_64 : decode cX0_passNight 64 = .ok (.imul, 1) := by decide +kernel
theorem dX0_passNight_65 : decode cX0_passNight 65 = .ok (.iload 4, 2) := by decide +kernel
theorem dX0_passNight_67 : decode cX0_passNight 67 = .ok (.iadd, 1) := by decide +kernel
theorem dX0_passNight_68 : decode cX0_passNight 68 = .ok (.iconst 1, 1) := by decide +kernel
theorem dX0_passNight_69 : decode cX0_passNight 69 = .ok (.iadd, 1) := by decide +kernel
theorem dX0_passNight_70 : decode cX0_passNight 70 = .ok (.iload 5, 2) := by decide +kernel
theorem dX0_passNight_72 : decode cX0_passNight 72 = .ok (.iastore, 1) := by decide +kernel
theorem dX0_passNight_73 : decode cX0_passNight 73 = .ok (.goto 8, 3) := by decide +kernel
theorem dX0_passNight_76 : decode cX0_passNight 76 = .ok (.iload_n 2, 1) := by decide +kernel
theorem dX0_passNight_77 : decode cX0_passNight 77 = .ok (.iload 5, 2) := by decide +kernel
theorem dX0_passNight_79 : decode cX0_passNight 79 = .ok (.iadd, 1) := by decide +kernel
theorem dX0_passNight_80 : decode cX0_passNight 80 = .ok (.istore_n 2, 1) := by decide +kernel
theorem dX0_passNight_81 : decode cX0_passNight 81 = .ok (.iinc 4 (-1), 3) := by decide +kernel
theorem dX0_passNight_84 : decode cX0_passNight 84 = .ok (.goto (-69), 3) := by decide +kernel
theorem dX0_passNight_87 : decode cX0_passNight 87 = .ok (.iinc 3 1, 3) := by decide +kernel
theorem dX0_passNight_90 : decode cX0_passNight 90 = .ok (.goto (-86), 3) := by decide +kernel
theorem dX0_passNight_93 : decode cX0_passNight 93 = .ok (.aload_n 0, 1) := by decide +kernel
theorem dX0_passNight_94 : decode cX0_passNight 94 = .ok (.dup, 1) := by decide +kernel
theorem dX0_passNight_95 : decode cX0_passNight 95 = .ok (.getfield 37, 3) := by decide +kernel
theorem dX0_passNight_98 : decode cX0_passNight 98 = .ok (.iload_n 2, 1) := by decide +kernel
theorem dX0_passNight_99 : decode cX0_passNight 99 = .ok (.iadd, 1) := by decide +kernel
theorem dX0_passNight_100 : decode cX0_passNight 100 = .ok (.putfield 37, 3) := by decide +kernel
theorem dX0_passNight_103 : decode cX0_passNight 103 = .ok (.aload_n 0, 1) := by decide +kernel
theorem dX0_passNight_104 : decode cX0_passNight 104 = .ok (.dup, 1) := by decide +kernel
theorem dX0_passNight_105 : decode cX0_passNight 105 = .ok (.getfield 24, 3) := by decide +kernel
theorem dX0_passNight_108 : decode cX0_passNight 108 = .ok (.iconst 1, 1) := by decide +kernel
theorem dX0_passNight_109 : decode cX0_passNight 109 = .ok (.iadd, 1) := by decide +kernel
theorem dX0_passNight_110 : decode cX0_passNight 110 = .ok (.putfield 24, 3) := by decide +kernel
theorem dX0_passNight_113 : decode cX0_passNight 113 = .ok (.aload_n 0, 1) := by decide +kernel
theorem dX0_passNight_114 : decode cX0_passNight 114 = .ok (.bipush (-4), 2) := by decide +kernel
theorem dX0_passNight_116 : decode cX0_passNight 116 = .ok (.putfield 28, 3) := by decide +kernel
theorem dX0_passNight_119 : decode cX0_passNight 119 = .ok (.iload_n 2, 1) := by decide +kernel
theorem dX0_passNight_120 : decode cX0_passNight 120 = .ok (.ireturn, 1) := by decide +kernel
theorem dX1_init_0 : decode cX1_init 0 = .ok (.aload_n 0, 1) := by decide +kernel
theorem dX1_init_1 : decode cX1_init 1 = .ok (.invokespecial 3, 3) := by decide +kernel
theorem dX1_init_4 : decode cX1_init 4 = .ok (.aload_n 0, 1) := by decide +kernel
theorem dX1_init_5 : decode cX1_init 5 = .ok (.sipush 400, 3) := by decide +kernel
theorem dX1_init_8 : decode cX1_init 8 = .ok (.newarray .byte, 2) := by decide +kernel
theorem dX1_init_10 : decode cX1_init 10 = .ok (.putfield 9, 3) := by decide +kernel
theorem dX1_init_13 : decode cX1_init 13 = .ok (.aload_n 0, 1) := by decide +kernel
theorem dX1_init_14 : decode cX1_init 14 = .ok (.new 15, 3) := by decide +kernel
theorem dX1_init_17 : decode cX1_init 17 = .ok (.dup, 1) := by decide +kernel
theorem dX1_init_18 : decode cX1_init 18 = .ok (.invokespecial 17, 3) := by decide +kernel
theorem dX1_init_21 : decode cX1_init 21 = .ok (.putfield 18, 3) := by decide +kernel
theorem dX1_init_24 : decode cX1_init 24 = .ok (.aload_n 0, 1) := by decide +kernel
theorem dX1_init_25 : decode cX1_init 25 = .ok (.bipush 6, 2) := by decide +kernel
theorem dX1_init_27 : decode cX1_init 27 = .ok (.newarray .int, 2) := by decide +kernel
theorem dX1_init_29 : decode cX1_init 29 = .ok (.putfield 22, 3) := by decide +kernel
theorem dX1_init_32 : decode cX1_init 32 = .ok (.return_, 1) := by decide +kernel
theorem dX1_readTape_0 : decode cX1_readTape 0 = .ok (.aload_n 0, 1) := by decide +kernel
theorem dX1_readTape_1 : decode cX1_readTape 1 = .ok (.invokevirtual 26, 3) := by decide +kernel
theorem dX1_readTape_4 : decode cX1_readTape 4 = .ok (.iconst 0, 1) := by decide +kernel
theorem dX1_readTape_5 : decode cX1_readTape 5 = .ok (.istore_n 1, 1) := by decide +kernel
theorem dX1_readTape_6 : decode cX1_readTape 6 = .ok (.iconst 0, 1) := by decide +kernel
theorem dX1_readTape_7 : decode cX1_readTape 7 = .ok (.istore_n 2, 1) := by decide +kernel
theorem dX1_readTape_8 : decode cX1_readTape 8 = .ok (.iload_n 2, 1) := by decide +kernel
theorem dX1_readTape_9 : decode cX1_readTape 9 = .ok (.sipush 400, 3) := by decide +kernel
theorem dX1_readTape_12 : decode cX1_readTape 12 = .ok (.if_icmp .gt 36, 3) := by decide +kernel
theorem dX1_readTape_15 : decode cX1_readTape 15 = .ok (.aload_n 0, 1) := by decide +kernel
theorem dX1_readTape_16 : decode cX1_readTape 16 = .ok (.invokevirtual 29, 3) := by decide +kernel
theorem dX1_readTape_19 : decode cX1_readTape 19 = .ok (.ifCond .eq 29, 3) := by decide +kernel
theorem dX1_readTape_22 : decode cX1_readTape 22 = .ok (.aload_n 0, 1) := by decide +kernel
theorem dX1_readTape_23 : decode cX1_readTape 23 = .ok (.getfield 33, 3) := by decide +kernel
theorem dX1_readTape_26 : decode cX1_readTape 26 = .ok (.ifCond .eq 22, 3) := by decide +kernel
theorem dX1_readTape_29 : decode cX1_readTape 29 = .ok (.aload_n 0, 1) := by decide +kernel
theorem dX1_readTape_30 : decode cX1_readTape 30 = .ok (.invokevirtual 37, 3) := by decide +kernel
theorem dX1_readTape_33 : decode cX1_readTape 33 = .ok (.ifCond .ne 6, 3) := by decide +kernel
theorem dX1_readTape_36 : decode cX1_readTape 36 = .ok (.goto 12, 3) := by decide +kernel
theorem dX1_readTape_39 : decode cX1_readTape 39 = .ok (.iinc 1 1, 3) := by decide +kernel
theorem dX1_readTape_42 : decode cX1_readTape 42 = .ok (.iinc 2 1, 3) := by decide +kernel
theorem dX1_readTape_45 : decode cX1_readTape 45 = .ok (.goto (-37), 3) := by decide +kernel
theorem dX1_readTape_48 : decode cX1_readTape 48 = .ok (.aload_n 0, 1) := by decide +kernel
theorem dX1_readTape_49 : decode cX1_readTape 49 = .ok (.getfield 40, 3) := by decide +kernel
theorem dX1_readTape_52 : decode cX1_readTape 52 = .ok (.ifCond .ne 7, 3) := by decide +kernel
theorem dX1_readTape_55 : decode cX1_readTape 55 = .ok (.aload_n 0, 1) := by decide +kernel
theorem dX1_readTape_56 : decode cX1_readTape 56 = .ok (.invokevirtual 43, 3) := by decide +kernel
theorem dX1_readTape_59 : decode cX1_readTape 59 = .ok (.iload_n 1, 1) := by decide +kernel
theorem dX1_readTape_60 : decode cX1_readTape 60 = .ok (.ireturn, 1) := by decide +kernel
theorem dX1_begin_0 : decode cX1_begin 0 = .ok (.aload_n 0, 1) := by decide +kernel
theorem dX1_begin_1 : decode cX1_begin 1 = .ok (.iconst 0, 1) := by decide +kernel
theorem dX1_begin_2 : decode cX1_begin 2 = .ok (.putfield 46, 3) := by decide +kernel
theorem dX1_begin_5 : decode cX1_begin 5 = .ok (.aload_n 0, 1) := by decide +kernel
theorem dX1_begin_6 : decode cX1_begin 6 = .ok (.iconst 0, 1) := by decide +kernel
theorem dX1_begin_7 : decode cX1_begin 7 = .ok (.putfield 40, 3) := by decide +kernel
theorem dX1_begin_10 : decode cX1_begin 10 = .ok (.aload_n 0, 1) := by decide +kernel
theorem dX1_begin_11 : decode cX1_begin 11 = .ok (.iconst 0, 1) := by decide +kernel
theorem dX1_begin_12 : decode cX1_begin 12 = .ok (.putfield 49, 3) := by decide +kernel
theorem dX1_begin_15 : decode cX1_begin 15 = .ok (.aload_n 0, 1) := by decide +kernel
theorem dX1_begin_16 : decode cX1_begin 16 = .ok (.iconst 0, 1) := by decide +kernel
theorem dX1_begin_17 : decode cX1_begin 17 = .ok (.putfield 53, 3) := by decide +kernel
theorem dX1_begin_20 : decode cX1_begin 20 = .ok (.iconst 0, 1) := by decide +kernel
theorem dX1_begin_21 : decode cX1_begin 21 = .ok (.istore_n 1, 1) := by decide +kernel
theorem dX1_begin_22 : decode cX1_begin 22 = .ok (.iload_n 1, 1) := by decide +kernel
theorem dX1_begin_23 : decode cX1_begin 23 = .ok (.bipush 6, 2) := by decide +kernel
theorem dX1_begin_25 : decode cX1_begin 25 = .ok (.if_icmp .ge 16, 3) := by decide +kernel
theorem dX1_begin_28 : decode cX1_begin 28 = .ok (.aload_n 0, 1) := by decide +kernel
theorem dX1_begin_29 : decode cX1_begin 29 = .ok (.getfield 22, 3) := by decide +kernel
theorem dX1_begin_32 : decode cX1_begin 32 = .ok (.iload_n 1, 1) := by decide +kernel
theorem dX1_begin_33 : decode cX1_begin 33 = .ok (.iconst (-1), 1) := by decide +kernel
theorem dX1_begin_34 : decode cX1_begin 34 = .ok (.iastore, 1) := by decide +kernel
theorem dX1_begin_35 : decode cX1_begin 35 = .ok (.iinc 1 1, 3) := by decide +kernel
theorem dX1_begin_38 : decode cX1_begin 38 = .ok (.goto (-16), 3) := by decide +kernel
theorem dX1_begin_41 : decode cX1_begin 41 = .ok (.aload_n 0, 1) := by decide +kernel
theorem dX1_begin_42 : decode cX1_begin 42 = .ok (.getfield 18, 3) := by decide +kernel
theorem dX1_begin_45 : decode cX1_begin 45 = .ok (.invokevirtual 56, 3) := by decide +kernel
theorem dX1_begin_48 : decode cX1_begin 48 = .ok (.return_, 1) := by decide +kernel
theorem dX1_refuse_0 : decode cX1_refuse 0 = .ok (.aload_n 0, 1) := by decide +kernel
theorem dX1_refuse_1 : decode cX1_refuse 1 = .ok (.iload_n 1, 1) := by decide +kernel
theorem dX1_refuse_2 : decode cX1_refuse 2 = .ok (.putfield 40, 3) := by decide +kernel
theorem dX1_refuse_5 : decode cX1_refuse 5 = .ok (.aload_n 0, 1) := by decide +kernel
theorem dX1_refuse_6 : decode cX1_refuse 6 = .ok (.iload_n 2, 1) := by decide +kernel
theorem dX1_refuse_7 : decode cX1_refuse 7 = .ok (.putfield 59, 3) := by decide +kernel
theorem dX1_refuse_10 : decode cX1_refuse 10 = .ok (.iconst 0, 1) := by decide +kernel
theorem dX1_refuse_11 : decode cX1_refuse 11 = .ok (.ireturn, 1) := by decide +kernel
theorem dX1_findThingNotTold_0 : decode cX1_findThingNotTold 0 = .ok (.iconst (-1), 1) := by decide +kernel
theorem dX1_findThingNotTold_1 : decode cX1_findThingNotTold 1 = .ok (.istore_n 1, 1) := by decide +kernel
theorem dX1_findThingNotTold_2 : decode cX1_findThingNotTold 2 = .ok (.aload_n 0, 1) := by decide +kernel
theorem dX1_findThingNotTold_3 : decode cX1_findThingNotTold 3 = .ok (.getfield 18, 3) := by decide +kernel
theorem dX1_findThingNotTold_6 : decode cX1_findThingNotTold 6 = .ok (.getfield 62, 3) := by decide +kernel
theorem dX1_findThingNotTold_9 : decode cX1_findThingNotTold 9 = .ok (.istore_n 2, 1) := by decide +kernel
theorem dX1_findThingNotTold_10 : decode cX1_findThingNotTold 10 = .ok (.iload_n 2, 1) := by decide +kernel
theorem dX1_findThingNotTold_11 : decode cX1_findThingNotTold 11 = .ok (.bipush 6, 2) := by decide +kernel
theorem dX1_findThingNotTold_13 : decode cX1_findThingNotTold 13 = .ok (.if_icmp .ge 41, 3) := by decide +kernel
theorem dX1_findThingNotTold_16 : decode cX1_findThingNotTold 16 = .ok (.aload_n 0, 1) := by decide +kernel
theorem dX1_findThingNotTold_17 : decode cX1_findThingNotTold 17 = .ok (.getfield 22, 3) := by decide +kernel
theorem dX1_findThingNotTold_20 : decode cX1_findThingNotTold 20 = .ok (.iload_n 2, 1) := by decide +kernel
theorem dX1_findThingNotTold_21 : decode cX1_findThingNotTold 21 = .ok (.iaload, 1) := by decide +kernel
theorem dX1_findThingNotTold_22 : decode cX1_findThingNotTold 22 = .ok (.iconst (-1), 1) := by decide +kernel
theorem dX1_findThingNotTold_23 : decode cX1_findThingNotTold 23 = .ok (.if_icmp .eq 25, 3) := by decide +kernel
theorem dX1_findThingNotTold_26 : decode cX1_findThingNotTold 26 = .ok (.iload_n 1, 1) := by decide +kernel
theorem dX1_findThingNotTold_27 : decode cX1_findThingNotTold 27 = .ok (.iconst (-1), 1) := by decide +kernel
theorem dX1_findThingNotTold_28 : decode cX1_findThingNotTold 28 = .ok (.if_icmp .eq 13, 3) := by decide +kernel
theorem dX1_findThingNotTold_31 : decode cX1_findThingNotTold 31 = .ok (.aload_n 0, 1) := by decide +kernel
theorem dX1_findThingNotTold_32 : decode cX1_findThingNotTold 32 = .ok (.getfield 22, 3) := by decide +kernel
theorem dX1_findThingNotTold_35 : decode cX1_findThingNotTold 35 = .ok (.iload_n 2, 1) := by decide +kernel
theorem dX1_findThingNotTold_36 : decode cX1_findThingNotTold 36 = .ok (.iaload, 1) := by decide +kernel
theorem dX1_findThingNotTold_37 : decode cX1_findThingNotTold 37 = .ok (.iload_n 1, 1) := by decide +kernel
theorem dX1_findThingNotTold_38 : decode cX1_findThingNotTold 38 = .ok (.if_icmp .ge 10, 3) := by decide +kernel
theorem dX1_findThingNotTold_41 : decode cX1_findThingNotTold 41 = .ok (.aload_n 0, 1) := by decide +kernel
theorem dX1_findThingNotTold_42 : decode cX1_findThingNotTold 42 = .ok (.getfield 22, 3) := by decide +kernel
theorem dX1_findThingNotTold_45 : decode cX1_findThingNotTold 45 = .ok (.iload_n 2, 1) := by decide +kernel
theorem dX1_findThingNotTold_46 : decode cX1_findThingNotTold 46 = .ok (.iaload, 1) := by decide +kernel
theorem dX1_findThingNotTold_47 : decode cX1_findThingNotTold 47 = .ok (.istore_n 1, 1) := by decide +kernel
theorem dX1_findThingNotTold_48 : decode cX1_findThingNotTold 48 = .ok (.iinc 2 1, 3) := by decide +kernel
theorem dX1_findThingNotTold_51 : decode cX1_findThingNotTold 51 = .ok (.goto (-41), 3) := by decide +kernel
theorem dX1_findThingNotTold_54 : decode cX1_findThingNotTold 54 = .ok (.iload_n 1, 1) := by decide +kernel
theorem dX1_findThingNotTold_55 : decode cX1_findThingNotTold 55 = .ok (.iconst (-1), 1) := by decide +kernel
theorem dX1_findThingNotTold_56 : decode cX1_findThingNotTold 56 = .ok (.if_icmp .eq 11, 3) := by decide +kernel
theorem dX1_findThingNotTold_59 : decode cX1_findThingNotTold 59 = .ok (.aload_n 0, 1) := by decide +kernel
theorem dX1_findThingNotTold_60 : decode cX1_findThingNotTold 60 = .ok (.bipush 6, 2) := by decide +kernel
theorem dX1_findThingNotTold_62 : decode cX1_findThingNotTold 62 = .ok (.iload_n 1, 1) := by decide +kernel
theorem dX1_findThingNotTold_63 : decode cX1_findThingNotTold 63 = .ok (.invokevirtual 65, 3) := by decide +kernel
theorem dX1_findThingNotTold_66 : decode cX1_findThingNotTold 66 = .ok (.pop, 1) := by decide +kernel
theorem dX1_findThingNotTold_67 : decode cX1_findThingNotTold 67 = .ok (.return_, 1) := by decide +kernel
theorem dX1_readToken_0 : decode cX1_readToken 0 = .ok (.aload_n 0, 1) := by decide +kernel
theorem dX1_readToken_1 : decode cX1_readToken 1 = .ok (.getfield 46, 3) := by decide +kernel
theorem dX1_readToken_4 : decode cX1_readToken 4 = .ok (.aload_n 0, 1) := by decide +kernel
theorem dX1_readToken_5 : decode cX1_readToken 5 = .ok (.getfield 69, 3) := by decide +kernel
theorem dX1_readToken_8 : decode cX1_readToken 8 = .ok (.if_icmp .ge 30, 3) := by decide +kernel
theorem dX1_readToken_11 : decode cX1_readToken 11 = .ok (.aload_n 0, 1) := by decide +kernel
theorem dX1_readToken_12 : decode cX1_readToken 12 = .ok (.getfield 9, 3) := by decide +kernel
theorem dX1_readToken_15 : decode cX1_readToken 15 = .ok (.aload_n 0, 1) := by decide +kernel
theorem dX1_readToken_16 : decode cX1_readToken 16 = .ok (.getfield 46, 3) := by decide +kernel
theorem dX1_readToken_19 : decode cX1_readToken 19 = .ok (.baload, 1) := by decide +kernel
theorem dX1_readToken_20 : decode cX1_readToken 20 = .ok (.bipush 32, 2) := by decide +kernel
theorem dX1_readToken_22 : decode cX1_readToken 22 = .ok (.if_icmp .ne 16, 3) := by decide +kernel
theorem dX1_readToken_25 : decode cX1_readToken 25 = .ok (.aload_n 0, 1) := by decide +kernel
theorem dX1_readToken_26 : decode cX1_readToken 26 = .ok (.dup, 1) := by decide +kernel
theorem dX1_readToken_27 : decode cX1_readToken 27 = .ok (.getfield 46, 3) := by decide +kernel
theorem dX1_readToken_30 : decode cX1_readToken 30 = .ok (.iconst 1, 1) := by decide +kernel
theorem dX1_readToken_31 : decode cX1_readToken 31 = .ok (.iadd, 1) := by decide +kernel
theorem dX1_readToken_32 : decode cX1_readToken 32 = .ok (.putfield 46, 3) := by decide +kernel
theorem dX1_readToken_35 : decode cX1_readToken 35 = .ok (.goto (-35), 3) := by decide +kernel
theorem dX1_readToken_38 : decode cX1_readToken 38 = .ok (.aload_n 0, 1) := by decide +kernel
theorem dX1_readToken_39 : decode cX1_readToken 39 = .ok (.aload_n 0, 1) := by decide +kernel
theorem dX1_readToken_40 : decode cX1_readToken 40 = .ok (.getfield 46, 3) := by decide +kernel
theorem dX1_readToken_43 : decode cX1_readToken 43 = .ok (.putfield 72, 3) := by decide +kernel
theorem dX1_readToken_46 : decode cX1_readToken 46 = .ok (.aload_n 0, 1) := by decide +kernel
theorem dX1_readToken_47 : decode cX1_readToken 47 = .ok (.iconst 0, 1) := by decide +kernel
theorem dX1_readToken_48 : decode cX1_readToken 48 = .ok (.putfield 75, 3) := by decide +kernel
theorem dX1_readToken_51 : decode cX1_readToken 51 = .ok (.aload_n 0, 1) := by decide +kernel
theorem dX1_readToken_52 : decode cX1_readToken 52 = .ok (.getfield 46, 3) := by decide +kernel
theorem dX1_readToken_55 : decode cX1_readToken 55 = .ok (.aload_n 0, 1) := by decide +kernel
theorem dX1_readToken_56 : decode cX1_readToken 56 = .ok (.getfield 69, 3) := by decide +kernel
theorem dX1_readToken_59 : decode cX1_readToken 59 = .ok (.if_icmp .lt 11, 3) := by decide +kernel
theorem dX1_readToken_62 : decode cX1_readToken 62 = .ok (.aload_n 0, 1) := by decide +kernel
theorem dX1_readToken_63 : decode cX1_readToken 63 = .ok (.iconst 0, 1) := by decide +kernel
theorem dX1_readToken_64 : decode cX1_readToken 64 = .ok (.putfield 33, 3) := by decide +kernel
theorem dX1_readToken_67 : decode cX1_readToken 67 = .ok (.goto 162, 3) := by decide +kernel
theorem dX1_readToken_70 : decode cX1_readToken 70 = .ok (.aload_n 0, 1) := by decide +kernel
theorem dX1_readToken_71 : decode cX1_readToken 71 = .ok (.getfield 9, 3) := by decide +kernel
theorem dX1_readToken_74 : decode cX1_readToken 74 = .ok (.aload_n 0, 1) := by decide +kernel
theorem dX1_readToken_75 : decode cX1_readToken 75 = .ok (.getfield 46, 3) := by decide +kernel
theorem dX1_readToken_78 : decode cX1_readToken 78 = .ok (.baload, 1) := by decide +kernel
theorem dX1_readToken_79 : decode cX1_readToken 79 = .ok (.bipush 59, 2) := by decide +kernel
theorem dX1_readToken_81 : decode cX1_readToken 81 = .ok (.if_icmp .ne 21, 3) := by decide +kernel
theorem dX1_readToken_84 : decode cX1_readToken 84 = .ok (.aload_n 0, 1) := by decide +kernel
theorem dX1_readToken_85 : decode cX1_readToken 85 = .ok (.iconst 3, 1) := by decide +kernel
theorem dX1_readToken_86 : decode cX1_readToken 86 = .ok (.putfield 33, 3) := by decide +kernel
theorem dX1_readToken_89 : decode cX1_readToken 89 = .ok (.aload_n 0, 1) := by decide +kernel
theorem dX1_readToken_90 : decode cX1_readToken 90 = .ok (.dup, 1) := by decide +kernel
theorem dX1_readToken_91 : decode cX1_readToken 91 = .ok (.getfield 46, 3) := by decide +kernel
theorem dX1_readToken_94 : decode cX1_readToken 94 = .ok (.iconst 1, 1) := by decide +kernel
theorem dX1_readToken_95 : decode cX1_readToken 95 = .ok (.iadd, 1) := by decide +kernel
theorem dX1_readToken_96 : decode cX1_readToken 96 = .ok (.putfield 46, 3) := by decide +kernel
theorem dX1_readToken_99 : decode cX1_readToken 99 = .ok (.goto 130, 3) := by decide +kernel
theorem dX1_readToken_102 : decode cX1_readToken 102 = .ok (.aload_n 0, 1) := by decide +kernel
theorem dX1_readToken_103 : decode cX1_readToken 103 = .ok (.getfield 9, 3) := by decide +kernel
theorem dX1_readToken_106 : decode cX1_readToken 106 = .ok (.aload_n 0, 1) := by decide +kernel
theorem dX1_readToken_107 : decode cX1_readToken 107 = .ok (.getfield 46, 3) := by decide +kernel
theorem dX1_readToken_110 : decode cX1_readToken 110 = .ok (.baload, 1) := by decide +kernel
theorem dX1_readToken_111 : decode cX1_readToken 111 = .ok (.invokestatic 78, 3) := by decide +kernel
theorem dX1_readToken_114 : decode cX1_readToken 114 = .ok (.ifCond .eq 47, 3) := by decide +kernel
theorem dX1_readToken_117 : decode cX1_readToken 117 = .ok (.aload_n 0, 1) := by decide +kernel
theorem dX1_readToken_118 : decode cX1_readToken 118 = .ok (.iconst 1, 1) := by decide +kernel
theorem dX1_readToken_119 : decode cX1_readToken 119 = .ok (.putfield 33, 3) := by decide +kernel
theorem dX1_readToken_122 : decode cX1_readToken 122 = .ok (.aload_n 0, 1) := by decide +kernel
theorem dX1_readToken_123 : decode cX1_readToken 123 = .ok (.getfield 46, 3) := by decide +kernel
theorem dX1_readToken_126 : decode cX1_readToken 126 = .ok (.aload_n 0, 1) := by decide +kernel
theorem dX1_readToken_127 : decode cX1_readToken 127 = .ok (.getfield 69, 3) := by decide +kernel
theorem dX1_readToken_130 : decode cX1_readToken 130 = .ok (.if_icmp .ge 99, 3) := by decide +kernel
theorem dX1_readToken_133 : decode cX1_readToken 133 = .ok (.aload_n 0, 1) := by decide +kernel
theorem dX1_readToken_134 : decode cX1_readToken 134 = .ok (.getfield 9, 3) := by decide +kernel
theorem dX1_readToken_137 : decode cX1_readToken 137 = .ok (.aload_n 0, 1) := by decide +kernel
theorem dX1_readToken_138 : decode cX1_readToken 138 = .ok (.getfield 46, 3) := by decide +kernel
theorem dX1_readToken_141 : decode cX1_readToken 141 = .ok (.baload, 1) := by decide +kernel
theorem dX1_readToken_142 : decode cX1_readToken 142 = .ok (.invokestatic 78, 3) := by decide +kernel
theorem dX1_readToken_145 : decode cX1_readToken 145 = .ok (.ifCond .eq 84, 3) := by decide +kernel
theorem dX1_readToken_148 : decode cX1_readToken 148 = .ok (.aload_n 0, 1) := by decide +kernel
theorem dX1_readToken_149 : decode cX1_readToken 149 = .ok (.dup, 1) := by decide +kernel
theorem dX1_readToken_150 : decode cX1_readToken 150 = .ok (.getfield 46, 3) := by decide +kernel
theorem dX1_readToken_153 : decode cX1_readToken 153 = .ok (.iconst 1, 1) := by decide +kernel
theorem dX1_readToken_154 : decode cX1_readToken 154 = .ok (.iadd, 1) := by decide +kernel
theorem dX1_readToken_155 : decode cX1_readToken 155 = .ok (.putfield 46, 3) := by decide +kernel
theorem dX1_readToken_158 : decode cX1_readToken 158 = .ok (.goto (-36), 3) := by decide +kernel
theorem dX1_readToken_161 : decode cX1_readToken 161 = .ok (.aload_n 0, 1) := by decide +kernel
theorem dX1_readToken_162 : decode cX1_readToken 162 = .ok (.iconst 2, 1) := by decide +kernel
theorem dX1_readToken_163 : decode cX1_readToken 163 = .ok (.putfield 33, 3) := by decide +kernel
theorem dX1_readToken_166 : decode cX1_readToken 166 = .ok (.aload_n 0, 1) := by decide +kernel
theorem dX1_readToken_167 : decode cX1_readToken 167 = .ok (.getfield 46, 3) := by decide +kernel
theorem dX1_readToken_170 : decode cX1_readToken 170 = .ok (.aload_n 0, 1) := by decide +kernel
theorem dX1_readToken_171 : decode cX1_readToken 171 = .ok (.getfield 69, 3) := by decide +kernel
theorem dX1_readToken_174 : decode cX1_readToken 174 = .ok (.if_icmp .ge 55, 3) := by decide +kernel
theorem dX1_readToken_177 : decode cX1_readToken 177 = .ok (.aload_n 0, 1) := by decide +kernel
theorem dX1_readToken_178 : decode cX1_readToken 178 = .ok (.getfield 9, 3) := by decide +kernel
theorem dX1_readToken_181 : decode cX1_readToken 181 = .ok (.aload_n 0, 1) := by decide +kernel
theorem dX1_readToken_182 : decode cX1_readToken 182 = .ok (.getfield 46, 3) := by decide +kernel
theorem dX1_readToken_185 : decode cX1_readToken 185 = .ok (.baload, 1) := by decide +kernel
theorem dX1_readToken_186 : decode cX1_readToken 186 = .ok (.invokestatic 82, 3) := by decide +kernel
theorem dX1_readToken_189 : decode cX1_readToken 189 = .ok (.ifCond .eq 40, 3) := by decide +kernel
theorem dX1_readToken_192 : decode cX1_readToken 192 = .ok (.aload_n 0, 1) := by decide +kernel
theorem dX1_readToken_193 : decode cX1_readToken 193 = .ok (.aload_n 0, 1) := by decide +kernel
theorem dX1_readToken_194 : decode cX1_readToken 194 = .ok (.getfield 75, 3) := by decide +kernel
theorem dX1_readToken_197 : decode cX1_readToken 197 = .ok (.bipush 10, 2) := by decide +kernel
theorem dX1_readToken_199 : decode cX1_readToken 199 = .ok (.imul, 1) := by decide +kernel
theorem dX1_readToken_200 : decode cX1_readToken 200 = .ok (.aload_n 0, 1) := by decide +kernel
theorem dX1_readToken_201 : decode cX1_readToken 201 = .ok (.getfield 9, 3) := by decide +kernel
theorem dX1_readToken_204 : decode cX1_readToken 204 = .ok (.aload_n 0, 1) := by decide +kernel
theorem dX1_readToken_205 : decode cX1_readToken 205 = .ok (.getfield 46, 3) := by decide +kernel
theorem dX1_readToken_208 : decode cX1_readToken 208 = .ok (.baload, 1) := by decide +kernel
theorem dX1_readToken_209 : decode cX1_readToken 209 = .ok (.iadd, 1) := by decide +kernel
theorem dX1_readToken_210 : decode cX1_readToken 210 = .ok (.bipush 48, 2) := by decide +kernel
theorem dX1_readToken_212 : decode cX1_readToken 212 = .ok (.isub, 1) := by decide +kernel
theorem dX1_readToken_213 : decode cX1_readToken 213 = .ok (.putfield 75, 3) := by decide +kernel
theorem dX1_readToken_216 : decode cX1_readToken 216 = .ok (.aload_n 0, 1) := by decide +kernel
theorem dX1_readToken_217 : decode cX1_readToken 217 = .ok (.dup, 1) := by decide +kernel
theorem dX1_readToken_218 : decode cX1_readToken 218 = .ok (.getfield 46, 3) := by decide +kernel
theorem dX1_readToken_221 : decode cX1_readToken 221 = .ok (.iconst 1, 1) := by decide +kernel
theorem dX1_readToken_222 : decode cX1_readToken 222 = .ok (.iadd, 1) := by decide +kernel
theorem dX1_readToken_223 : decode cX1_readToken 223 = .ok (.putfield 46, 3) := by decide +kernel
theorem dX1_readToken_226 : decode cX1_readToken 226 = .ok (.goto (-60), 3) := by decide +kernel
theorem dX1_readToken_229 : decode cX1_readToken 229 = .ok (.aload_n 0, 1) := by decide +kernel
theorem dX1_readToken_230 : decode cX1_readToken 230 = .ok (.getfield 33, 3) := by decide +kernel
theorem dX1_readToken_233 : decode cX1_readToken 233 = .ok (.iconst 2, 1) := by decide +kernel
theorem dX1_readToken_234 : decode cX1_readToken 234 = .ok (.if_icmp .ne 29, 3) := by decide +kernel
theorem dX1_readToken_237 : decode cX1_readToken 237 = .ok (.aload_n 0, 1) := by decide +kernel
theorem dX1_readToken_238 : decode cX1_readToken 238 = .ok (.getfield 46, 3) := by decide +kernel
theorem dX1_readToken_241 : decode cX1_readToken 241 = .ok (.aload_n 0, 1) := by decide +kernel
theorem dX1_readToken_242 : decode cX1_readToken 242 = .ok (.getfield 72, 3) := by decide +kernel
theorem dX1_readToken_245 : decode cX1_readToken 245 = .ok (.isub, 1) := by decide +kernel
theorem dX1_readToken_246 : decode cX1_readToken 246 = .ok (.iconst 1, 1) := by decide +kernel
theorem dX1_readToken_247 : decode cX1_readToken 247 = .ok (.if_icmp .eq 16, 3) := by decide +kernel
theorem dX1_readToken_250 : decode cX1_readToken 250 = .ok (.aload_n 0, 1) := by decide +kernel
theorem dX1_readToken_251 : decode cX1_readToken 251 = .ok (.getfield 46, 3) := by decide +kernel
theorem dX1_readToken_254 : decode cX1_readToken 254 = .ok (.aload_n 0, 1) := by decide +kernel
theorem dX1_readToken_255 : decode cX1_readToken 255 = .ok (.getfield 72, 3) := by decide +kernel
theorem dX1_readToken_258 : decode cX1_readToken 258 = .ok (.isub, 1) := by decide +kernel
theorem dX1_readToken_259 : decode cX1_readToken 259 = .ok (.iconst 2, 1) := by decide +kernel
theorem dX1_readToken_260 : decode cX1_readToken 260 = .ok (.if_icmp .ne 7, 3) := by decide +kernel
theorem dX1_readToken_263 : decode cX1_readToken 263 = .ok (.iconst 1, 1) := by decide +kernel
theorem dX1_readToken_264 : decode cX1_readToken 264 = .ok (.goto 4, 3) := by decide +kernel
theorem dX1_readToken_267 : decode cX1_readToken 267 = .ok (.iconst 0, 1) := by decide +kernel
theorem dX1_readToken_268 : decode cX1_readToken 268 = .ok (.istore_n 1, 1) := by decide +kernel
theorem dX1_readToken_269 : decode cX1_readToken 269 = .ok (.iload_n 1, 1) := by decide +kernel
theorem dX1_readToken_270 : decode cX1_readToken 270 = .ok (.ifCond .ne 15, 3) := by decide +kernel
theorem dX1_readToken_273 : decode cX1_readToken 273 = .ok (.aload_n 0, 1) := by decide +kernel
theorem dX1_readToken_274 : decode cX1_readToken 274 = .ok (.iconst 1, 1) := by decide +kernel
theorem dX1_readToken_275 : decode cX1_readToken 275 = .ok (.aload_n 0, 1) := by decide +kernel
theorem dX1_readToken_276 : decode cX1_readToken 276 = .ok (.getfield 72, 3) := by decide +kernel
theorem dX1_readToken_279 : decode cX1_readToken 279 = .ok (.invokevirtual 65, 3) := by decide +kernel
theorem dX1_readToken_282 : decode cX1_readToken 282 = .ok (.ifCond .eq 7, 3) := by decide +kernel
theorem dX1_readToken_285 : decode cX1_readToken 285 = .ok (.iconst 1, 1) := by decide +kernel
theorem dX1_readToken_286 : decode cX1_readToken 286 = .ok (.goto 4, 3) := by decide +kernel
theorem dX1_readToken_289 : decode cX1_readToken 289 = .ok (.iconst 0, 1) := by decide +kernel
theorem dX1_readToken_290 : decode cX1_readToken 290 = .ok (.ireturn, 1) := by decide +kernel
theorem dX1_isLetter_0 : decode cX1_isLetter 0 = .ok (.iload_n 0, 1) := by decide +kernel
theorem dX1_isLetter_1 : decode cX1_isLetter 1 = .ok (.bipush 97, 2) := by decide +kernel
theorem dX1_isLetter_3 : decode cX1_isLetter 3 = .ok (.if_icmp .lt 13, 3) := by decide +kernel
theorem dX1_isLetter_6 : decode cX1_isLetter 6 = .ok (.iload_n 0, 1) := by decide +kernel
theorem dX1_isLetter_7 : decode cX1_isLetter 7 = .ok (.bipush 122, 2) := by decide +kernel
theorem dX1_isLetter_9 : decode cX1_isLetter 9 = .ok (.if_icmp .gt 7, 3) := by decide +kernel
theorem dX1_isLetter_12 : decode cX1_isLetter 12 = .ok (.iconst 1, 1) := by decide +kernel
theorem dX1_isLetter_13 : decode cX1_isLetter 13 = .ok (.goto 4, 3) := by decide +kernel
theorem dX1_isLetter_16 : decode cX1_isLetter 16 = .ok (.iconst 0, 1) := by decide +kernel
theorem dX1_isLetter_17 : decode cX1_isLetter 17 = .ok (.ireturn, 1) := by decide +kernel
theorem dX1_isFigure_0 : decode cX1_isFigure 0 = .ok (.iload_n 0, 1) := by decide +kernel
theorem dX1_isFigure_1 : decode cX1_isFigure 1 = .ok (.bipush 48, 2) := by decide +kernel
theorem dX1_isFigure_3 : decode cX1_isFigure 3 = .ok (.if_icmp .lt 13, 3) := by decide +kernel
theorem dX1_isFigure_6 : decode cX1_isFigure 6 = .ok (.iload_n 0, 1) := by decide +kernel
theorem dX1_isFigure_7 : decode cX1_isFigure 7 = .ok (.bipush 57, 2) := by decide +kernel
theorem dX1_isFigure_9 : decode cX1_isFigure 9 = .ok (.if_icmp .gt 7, 3) := by decide +kernel
theorem dX1_isFigure_12 : decode cX1_isFigure 12 = .ok (.iconst 1, 1) := by decide +kernel
theorem dX1_isFigure_13 : decode cX1_isFigure 13 = .ok (.goto 4, 3) := by decide +kernel
theorem dX1_isFigure_16 : decode cX1_isFigure 16 = .ok (.iconst 0, 1) := by decide +kernel
theorem dX1_isFigure_17 : decode cX1_isFigure 17 = .ok (.ireturn, 1) := by decide +kernel
theorem dX1_isName_0 : decode cX1_isName 0 = .ok (.aload_n 0, 1) := by decide +kernel
theorem dX1_isName_1 : decode cX1_isName 1 = .ok (.getfield 33, 3) := by decide +kernel
theorem dX1_isName_4 : decode cX1_isName 4 = .ok (.iconst 1, 1) := by decide +kernel
theorem dX1_isName_5 : decode cX1_isName 5 = .ok (.if_icmp .ne 19, 3) := by decide +kernel
theorem dX1_isName_8 : decode cX1_isName 8 = .ok (.aload_n 0, 1) := by decide +kernel
theorem dX1_isName_9 : decode cX1_isName 9 = .ok (.getfield 46, 3) := by decide +kernel
theorem dX1_isName_12 : decode cX1_isName 12 = .ok (.aload_n 0, 1) := by decide +kernel
theorem dX1_isName_13 : decode cX1_isName 13 = .ok (.getfield 72, 3) := by decide +kernel
theorem dX1_isName_16 : decode cX1_isName 16 = .ok (.isub, 1) := by decide +kernel
theorem dX1_isName_17 : decode cX1_isName 17 = .ok (.aload_n 1, 1) := by decide +kernel
theorem dX1_isName_18 : decode cX1_isName 18 = .ok (.invokevirtual 85, 3) := by decide +kernel
theorem dX1_isName_21 : decode cX1_isName 21 = .ok (.if_icmp .eq 5, 3) := by decide +kernel
theorem dX1_isName_24 : decode cX1_isName 24 = .ok (.iconst 0, 1) := by decide +kernel
theorem dX1_isName_25 : decode cX1_isName 25 = .ok (.ireturn, 1) := by decide +kernel
theorem dX1_isName_26 : decode cX1_isName 26 = .ok (.iconst 0, 1) := by decide +kernel
theorem dX1_isName_27 : decode cX1_isName 27 = .ok (.istore_n 2, 1) := by decide +kernel
theorem dX1_isName_28 : decode cX1_isName 28 = .ok (.iload_n 2, 1) := by decide +kernel
theorem dX1_isName_29 : decode cX1_isName 29 = .ok (.aload_n 1, 1) := by decide +kernel
theorem dX1_isName_30 : decode cX1_isName 30 = .ok (.invokevirtual 85, 3) := by decide +kernel
theorem dX1_isName_33 : decode cX1_isName 33 = .ok (.if_icmp .ge 30, 3) := by decide +kernel
theorem dX1_isName_36 : decode cX1_isName 36 = .ok (.aload_n 0, 1) := by decide +kernel
theorem dX1_isName_37 : decode cX1_isName 37 = .ok (.getfield 9, 3) := by decide +kernel
theorem dX1_isName_40 : decode cX1_isName 40 = .ok (.aload_n 0, 1) := by decide +kernel
theorem dX1_isName_41 : decode cX1_isName 41 = .ok (.getfield 72, 3) := by decide +kernel
theorem dX1_isName_44 : decode cX1_isName 44 = .ok (.iload_n 2, 1) := by decide +kernel
theorem dX1_isName_45 : decode cX1_isName 45 = .ok (.iadd, 1) := by decide +kernel
theorem dX1_isName_46 : decode cX1_isName 46 = .ok (.baload, 1) := by decide +kernel
theorem dX1_isName_47 : decode cX1_isName 47 = .ok (.aload_n 1, 1) := by decide +kernel
theorem dX1_isName_48 : decode cX1_isName 48 = .ok (.iload_n 2, 1) := by decide +kernel
theorem dX1_isName_49 : decode cX1_isName 49 = .ok (.invokevirtual 90, 3) := by decide +kernel
theorem dX1_isName_52 : decode cX1_isName 52 = .ok (.if_icmp .eq 5, 3) := by decide +kernel
theorem dX1_isName_55 : decode cX1_isName 55 = .ok (.iconst 0, 1) := by decide +kernel
theorem dX1_isName_56 : decode cX1_isName 56 = .ok (.ireturn, 1) := by decide +kernel
theorem dX1_isName_57 : decode cX1_isName 57 = .ok (.iinc 2 1, 3) := by decide +kernel
theorem dX1_isName_60 : decode cX1_isName 60 = .ok (.goto (-32), 3) := by decide +kernel
theorem dX1_isName_63 : decode cX1_isName 63 = .ok (.iconst 1, 1) := by decide +kernel
theorem dX1_isName_64 : decode cX1_isName 64 = .ok (.ireturn, 1) := by decide +kernel
theorem dX1_readName_0 : decode cX1_readName 0 = .ok (.aload_n 0, 1) := by decide +kernel
theorem dX1_readName_1 : decode cX1_readName 1 = .ok (.invokevirtual 29, 3) := by decide +kernel
theorem dX1_readName_4 : decode cX1_readName 4 = .ok (.ifCond .eq 27, 3) := by decide +kernel
theorem dX1_readName_7 : decode cX1_readName 7 = .ok (.aload_n 0, 1) := by decide +kernel
theorem dX1_readName_8 : decode cX1_readName 8 = .ok (.getfield 33, 3) := by decide +kernel
theorem dX1_readName_11 : decode cX1_readName 11 = .ok (.iconst 1, 1) := by decide +kernel
theorem dX1_readName_12 : decode cX1_readName 12 = .ok (.if_icmp .eq 15, 3) := by decide +kernel
theorem dX1_readName_15 : decode cX1_readName 15 = .ok (.aload_n 0, 1) := by decide +kernel
theorem dX1_readName_16 : decode cX1_readName 16 = .ok (.iconst 2, 1) := by decide +kernel
theorem dX1_readName_17 : decode cX1_readName 17 = .ok (.aload_n 0, 1) := by decide +kernel
theorem dX1_readName_18 : decode cX1_readName 18 = .ok (.getfield 72, 3) := by decide +kernel
theorem dX1_readName_21 : decode cX1_readName 21 = .ok (.invokevirtual 65, 3) := by decide +kernel
theorem dX1_readName_24 : decode cX1_readName 24 = .ok (.ifCond .eq 7, 3) := by decide +kernel
theorem dX1_readName_27 : decode cX1_readName 27 = .ok (.iconst 1, 1) := by decide +kernel
theorem dX1_readName_28 : decode cX1_readName 28 = .ok (.goto 4, 3) := by decide +kernel
theorem dX1_readName_31 : decode cX1_readName 31 = .ok (.iconst 0, 1) := by decide +kernel
theorem dX1_readName_32 : decode cX1_readName 32 = .ok (.ireturn, 1) := by decide +kernel
theorem dX1_readNumber_0 : decode cX1_readNumber 0 = .ok (.aload_n 0, 1) := by decide +kernel
theorem dX1_readNumber_1 : decode cX1_readNumber 1 = .ok (.invokevirtual 29, 3) := by decide +kernel
theorem dX1_readNumber_4 : decode cX1_readNumber 4 = .ok (.ifCond .ne 5, 3) := by decide +kernel
theorem dX1_readNumber_7 : decode cX1_readNumber 7 = .ok (.iconst 0, 1) := by decide +kernel
theorem dX1_readNumber_8 : decode cX1_readNumber 8 = .ok (.ireturn, 1) := by decide +kernel
theorem dX1_readNumber_9 : decode cX1_readNumber 9 = .ok (.aload_n 0, 1) := by decide +kernel
theorem dX1_readNumber_10 : decode cX1_readNumber 10 = .ok (.getfield 33, 3) := by decide +kernel
theorem dX1_readNumber_13 : decode cX1_readNumber 13 = .ok (.iconst 2, 1) := by decide +kernel
theorem dX1_readNumber_14 : decode cX1_readNumber 14 = .ok (.if_icmp .eq 13, 3) := by decide +kernel
theorem dX1_readNumber_17 : decode cX1_readNumber 17 = .ok (.aload_n 0, 1) := by decide +kernel
theorem dX1_readNumber_18 : decode cX1_readNumber 18 = .ok (.iconst 2, 1) := by decide +kernel
theorem dX1_readNumber_19 : decode cX1_readNumber 19 = .ok (.aload_n 0, 1) := by decide +kernel
theorem dX1_readNumber_20 : decode cX1_readNumber 20 = .ok (.getfield 72, 3) := by decide +kernel
theorem dX1_readNumber_23 : decode cX1_readNumber 23 = .ok (.invokevirtual 65, 3) := by decide +kernel
theorem dX1_readNumber_26 : decode cX1_readNumber 26 = .ok (.ireturn, 1) := by decide +kernel
theorem dX1_readNumber_27 : decode cX1_readNumber 27 = .ok (.aload_n 0, 1) := by decide +kernel
theorem dX1_readNumber_28 : decode cX1_readNumber 28 = .ok (.getfield 75, 3) := by decide +kernel
theorem dX1_readNumber_31 : decode cX1_readNumber 31 = .ok (.iload_n 1, 1) := by decide +kernel
theorem dX1_readNumber_32 : decode cX1_readNumber 32 = .ok (.if_icmp .lt 11, 3) := by decide +kernel
theorem dX1_readNumber_35 : decode cX1_readNumber 35 = .ok (.aload_n 0, 1) := by decide +kernel
theorem dX1_readNumber_36 : decode cX1_readNumber 36 = .ok (.getfield 75, 3) := by decide +kernel
theorem dX1_readNumber_39 : decode cX1_readNumber 39 = .ok (.iload_n 2, 1) := by decide +kernel
theorem dX1_readNumber_40 : decode cX1_readNumber 40 = .ok (.if_icmp .le 15, 3) := by decide +kernel
theorem dX1_readNumber_43 : decode cX1_readNumber 43 = .ok (.aload_n 0, 1) := by decide +kernel
theorem dX1_readNumber_44 : decode cX1_readNumber 44 = .ok (.iconst 3, 1) := by decide +kernel
theorem dX1_readNumber_45 : decode cX1_readNumber 45 = .ok (.aload_n 0, 1) := by decide +kernel
theorem dX1_readNumber_46 : decode cX1_readNumber 46 = .ok (.getfield 72, 3) := by decide +kernel
theorem dX1_readNumber_49 : decode cX1_readNumber 49 = .ok (.invokevirtual 65, 3) := by decide +kernel
theorem dX1_readNumber_52 : decode cX1_readNumber 52 = .ok (.ifCond .eq 7, 3) := by decide +kernel
theorem dX1_readNumber_55 : decode cX1_readNumber 55 = .ok (.iconst 1, 1) := by decide +kernel
theorem dX1_readNumber_56 : decode cX1_readNumber 56 = .ok (.goto 4, 3) := by decide +kernel
theorem dX1_readNumber_59 : decode cX1_readNumber 59 = .ok (.iconst 0, 1) := by decide +kernel
theorem dX1_readNumber_60 : decode cX1_readNumber 60 = .ok (.ireturn, 1) := by decide +kernel
theorem dX1_readPoint_0 : decode cX1_readPoint 0 = .ok (.aload_n 0, 1) := by decide +kernel
theorem dX1_readPoint_1 : decode cX1_readPoint 1 = .ok (.invokevirtual 29, 3) := by decide +kernel
theorem dX1_readPoint_4 : decode cX1_readPoint 4 = .ok (.ifCond .eq 14, 3) := by decide +kernel
theorem dX1_readPoint_7 : decode cX1_readPoint 7 = .ok (.aload_n 0, 1) := by decide +kernel
theorem dX1_readPoint_8 : decode cX1_readPoint 8 = .ok (.invokevirtual 94, 3) := by decide +kernel
theorem dX1_readPoint_11 : decode cX1_readPoint 11 = .ok (.ifCond .eq 7, 3) := by decide +kernel
theorem dX1_readPoint_14 : decode cX1_readPoint 14 = .ok (.iconst 1, 1) := by decide +kernel
theorem dX1_readPoint_15 : decode cX1_readPoint 15 = .ok (.goto 4, 3) := by decide +kernel
theorem dX1_readPoint_18 : decode cX1_readPoint 18 = .ok (.iconst 0, 1) := by decide +kernel
theorem dX1_readPoint_19 : decode cX1_readPoint 19 = .ok (.ireturn, 1) := by decide +kernel
theorem dX1_isPoint_0 : decode cX1_isPoint 0 = .ok (.aload_n 0, 1) := by decide +kernel
theorem dX1_isPoint_1 : decode cX1_isPoint 1 = .ok (.getfield 33, 3) := by decide +kernel
theorem dX1_isPoint_4 : decode cX1_isPoint 4 = .ok (.iconst 3, 1) := by decide +kernel
theorem dX1_isPoint_5 : decode cX1_isPoint 5 = .ok (.if_icmp .eq 15, 3) := by decide +kernel
theorem dX1_isPoint_8 : decode cX1_isPoint 8 = .ok (.aload_n 0, 1) := by decide +kernel
theorem dX1_isPoint_9 : decode cX1_isPoint 9 = .ok (.iconst 2, 1) := by decide +kernel
theorem dX1_isPoint_10 : decode cX1_isPoint 10 = .ok (.aload_n 0, 1) := by decide +kernel
theorem dX1_isPoint_11 : decode cX1_isPoint 11 = .ok (.getfield 72, 3) := by decide +kernel
theorem dX1_isPoint_14 : decode cX1_isPoint 14 = .ok (.invokevirtual 65, 3) := by decide +kernel
theorem dX1_isPoint_17 : decode cX1_isPoint 17 = .ok (.ifCond .eq 7, 3) := by decide +kernel
theorem dX1_isPoint_20 : decode cX1_isPoint 20 = .ok (.iconst 1, 1) := by decide +kernel
theorem dX1_isPoint_21 : decode cX1_isPoint 21 = .ok (.goto 4, 3) := by decide +kernel
theorem dX1_isPoint_24 : decode cX1_isPoint 24 = .ok (.iconst 0, 1) := by decide +kernel
theorem dX1_isPoint_25 : decode cX1_isPoint 25 = .ok (.ireturn, 1) := by decide +kernel
theorem dX1_readLine_0 : decode cX1_readLine 0 = .ok (.aload_n 0, 1) := by decide +kernel
theorem dX1_readLine_1 : decode cX1_readLine 1 = .ok (.ldc 97, 2) := by decide +kernel
theorem dX1_readLine_3 : decode cX1_readLine 3 = .ok (.invokevirtual 99, 3) := by decide +kernel
theorem dX1_readLine_6 : decode cX1_readLine 6 = .ok (.ifCond .eq 8, 3) := by decide +kernel
theorem dX1_readLine_9 : decode cX1_readLine 9 = .ok (.aload_n 0, 1) := by decide +kernel
theorem dX1_readLine_10 : decode cX1_readLine 10 = .ok (.invokevirtual 103, 3) := by decide +kernel
theorem dX1_readLine_13 : decode cX1_readLine 13 = .ok (.ireturn, 1) := by decide +kernel
theorem dX1_readLine_14 : decode cX1_readLine 14 = .ok (.aload_n 0, 1) := by decide +kernel
theorem dX1_readLine_15 : decode cX1_readLine 15 = .ok (.ldc 106, 2) := by decide +kernel
theorem dX1_readLine_17 : decode cX1_readLine 17 = .ok (.invokevirtual 99, 3) := by decide +kernel
theorem dX1_readLine_20 : decode cX1_readLine 20 = .ok (.ifCond .eq 9, 3) := by decide +kernel
theorem dX1_readLine_23 : decode cX1_readLine 23 = .ok (.aload_n 0, 1) := by decide +kernel
theorem dX1_readLine_24 : decode cX1_readLine 24 = .ok (.iconst 0, 1) := by decide +kernel
theorem dX1_readLine_25 : decode cX1_readLine 25 = .ok (.invokevirtual 108, 3) := by decide +kernel
theorem dX1_readLine_28 : decode cX1_readLine 28 = .ok (.ireturn, 1) := by decide +kernel
theorem dX1_readLine_29 : decode cX1_readLine 29 = .ok (.aload_n 0, 1) := by decide +kernel
theorem dX1_readLine_30 : decode cX1_readLine 30 = .ok (.ldc 111, 2) := by decide +kernel
theorem dX1_readLine_32 : decode cX1_readLine 32 = .ok (.invokevirtual 99, 3) := by decide +kernel
theorem dX1_readLine_35 : decode cX1_readLine 35 = .ok (.ifCond .eq 9, 3) := by decide +kernel
theorem dX1_readLine_38 : decode cX1_readLine 38 = .ok (.aload_n 0, 1) := by decide +kernel
theorem dX1_readLine_39 : decode cX1_readLine 39 = .ok (.iconst 1, 1) := by decide +kernel
theorem dX1_readLine_40 : decode cX1_readLine 40 = .ok (.invokevirtual 108, 3) := by decide +kernel
theorem dX1_readLine_43 : decode cX1_readLine 43 = .ok (.ireturn, 1) := by decide +kernel
theorem dX1_readLine_44 : decode cX1_readLine 44 = .ok (.aload_n 0, 1) := by decide +kernel
theorem dX1_readLine_45 : decode cX1_readLine 45 = .ok (.ldc 113, 2) := by decide +kernel
theorem dX1_readLine_47 : decode cX1_readLine 47 = .ok (.invokevirtual 99, 3) := by decide +kernel
theorem dX1_readLine_50 : decode cX1_readLine 50 = .ok (.ifCond .eq 9, 3) := by decide +kernel
theorem dX1_readLine_53 : decode cX1_readLine 53 = .ok (.aload_n 0, 1) := by decide +kernel
theorem dX1_readLine_54 : decode cX1_readLine 54 = .ok (.iconst 2, 1) := by decide +kernel
theorem dX1_readLine_55 : decode cX1_readLine 55 = .ok (.invokevirtual 108, 3) := by decide +kernel
theorem dX1_readLine_58 : decode cX1_readLine 58 = .ok (.ireturn, 1) := by decide +kernel
theorem dX1_readLine_59 : decode cX1_readLine 59 = .ok (.aload_n 0, 1) := by decide +kernel
theorem dX1_readLine_60 : decode cX1_readLine 60 = .ok (.ldc 115, 2) := by decide +kernel
theorem dX1_readLine_62 : decode cX1_readLine 62 = .ok (.invokevirtual 99, 3) := by decide +kernel
theorem dX1_readLine_65 : decode cX1_readLine 65 = .ok (.ifCond .eq 9, 3) := by decide +kernel
theorem dX1_readLine_68 : decode cX1_readLine 68 = .ok (.aload_n 0, 1) := by decide +kernel
theorem dX1_readLine_69 : decode cX1_readLine 69 = .ok (.iconst 3, 1) := by decide +kernel
theorem dX1_readLine_70 : decode cX1_readLine 70 = .ok (.invokevirtual 108, 3) := by decide +kernel
theorem dX1_readLine_73 : decode cX1_readLine 73 = .ok (.ireturn, 1) := by decide +kernel
theorem dX1_readLine_74 : decode cX1_readLine 74 = .ok (.aload_n 0, 1) := by decide +kernel
theorem dX1_readLine_75 : decode cX1_readLine 75 = .ok (.ldc 117, 2) := by decide +kernel
theorem dX1_readLine_77 : decode cX1_readLine 77 = .ok (.invokevirtual 99, 3) := by decide +kernel
theorem dX1_readLine_80 : decode cX1_readLine 80 = .ok (.ifCond .eq 8, 3) := by decide +kernel
theorem dX1_readLine_83 : decode cX1_readLine 83 = .ok (.aload_n 0, 1) := by decide +kernel
theorem dX1_readLine_84 : decode cX1_readLine 84 = .ok (.invokevirtual 119, 3) := by decide +kernel
theorem dX1_readLine_87 : decode cX1_readLine 87 = .ok (.ireturn, 1) := by decide +kernel
theorem dX1_readLine_88 : decode cX1_readLine 88 = .ok (.aload_n 0, 1) := by decide +kernel
theorem dX1_readLine_89 : decode cX1_readLine 89 = .ok (.ldc 122, 2) := by decide +kernel
theorem dX1_readLine_91 : decode cX1_readLine 91 = .ok (.invokevirtual 99, 3) := by decide +kernel
theorem dX1_readLine_94 : decode cX1_readLine 94 = .ok (.ifCond .eq 8, 3) := by decide +kernel
theorem dX1_readLine_97 : decode cX1_readLine 97 = .ok (.aload_n 0, 1) := by decide +kernel
theorem dX1_readLine_98 : decode cX1_readLine 98 = .ok (.invokevirtual 124, 3) := by decide +kernel
theorem dX1_readLine_101 : decode cX1_readLine 101 = .ok (.ireturn, 1) := by decide +kernel
theorem dX1_readLine_102 : decode cX1_readLine 102 = .ok (.aload_n 0, 1) := by decide +kernel
theorem dX1_readLine_103 : decode cX1_readLine 103 = .ok (.ldc 127, 2) := by decide +kernel
theorem dX1_readLine_105 : decode cX1_readLine 105 = .ok (.invokevirtual 99, 3) := by decide +kernel
theorem dX1_readLine_108 : decode cX1_readLine 108 = .ok (.ifCond .eq 8, 3) := by decide +kernel
theorem dX1_readLine_111 : decode cX1_readLine 111 = .ok (.aload_n 0, 1) := by decide +kernel
theorem dX1_readLine_112 : decode cX1_readLine 112 = .ok (.invokevirtual 129, 3) := by decide +kernel
theorem dX1_readLine_115 : decode cX1_readLine 115 = .ok (.ireturn, 1) := by decide +kernel
theorem dX1_readLine_116 : decode cX1_readLine 116 = .ok (.aload_n 0, 1) := by decide +kernel
theorem dX1_readLine_117 : decode cX1_readLine 117 = .ok (.ldc 132, 2) := by decide +kernel
theorem dX1_readLine_119 : decode cX1_readLine 119 = .ok (.invokevirtual 99, 3) := by decide +kernel
theorem dX1_readLine_122 : decode cX1_readLine 122 = .ok (.ifCond .eq 10, 3) := by decide +kernel
theorem dX1_readLine_125 : decode cX1_readLine 125 = .ok (.aload_n 0, 1) := by decide +kernel
theorem dX1_readLine_126 : decode cX1_readLine 126 = .ok (.invokevirtual 134, 3) := by decide +kernel
theorem dX1_readLine_129 : decode cX1_readLine 129 = .ok (.goto 12, 3) := by decide +kernel
theorem dX1_readLine_132 : decode cX1_readLine 132 = .ok (.aload_n 0, 1) := by decide +kernel
theorem dX1_readLine_133 : decode cX1_readLine 133 = .ok (.iconst 2, 1) := by decide +kernel
theorem dX1_readLine_134 : decode cX1_readLine 134 = .ok (.aload_n 0, 1) := by decide +kernel
theorem dX1_readLine_135 : decode cX1_readLine 135 = .ok (.getfield 72, 3) := by decide +kernel
theorem dX1_readLine_138 : decode cX1_readLine 138 = .ok (.invokevirtual 65, 3) := by decide +kernel
theorem dX1_readLine_141 : decode cX1_readLine 141 = .ok (.ireturn, 1) := by decide +kernel
theorem dX1_readThing_0 : decode cX1_readThing 0 = .ok (.aload_n 0, 1) := by decide +kernel
theorem dX1_readThing_1 : decode cX1_readThing 1 = .ok (.getfield 18, 3) := by decide +kernel
theorem dX1_readThing_4 : decode cX1_readThing 4 = .ok (.getfield 62, 3) := by decide +kernel
theorem dX1_readThing_7 : decode cX1_readThing 7 = .ok (.istore_n 1, 1) := by decide +kernel
theorem dX1_readThing_8 : decode cX1_readThing 8 = .ok (.iload_n 1, 1) := by decide +kernel
theorem dX1_readThing_9 : decode cX1_readThing 9 = .ok (.bipush 6, 2) := by decide +kernel
theorem dX1_readThing_11 : decode cX1_readThing 11 = .ok (.if_icmp .lt 13, 3) := by decide +kernel
theorem dX1_readThing_14 : decode cX1_readThing 14 = .ok (.aload_n 0, 1) := by decide +kernel
theorem dX1_readThing_15 : decode cX1_readThing 15 = .ok (.iconst 5, 1) := by decide +kernel
theorem dX1_readThing_16 : decode cX1_readThing 16 = .ok (.aload_n 0, 1) := by decide +kernel
theorem dX1_readThing_17 : decode cX1_readThing 17 = .ok (.getfield 72, 3) := by decide +kernel
theorem dX1_readThing_20 : decode cX1_readThing 20 = .ok (.invokevirtual 65, 3) := by decide +kernel
theorem dX1_readThing_23 : decode cX1_readThing 23 = .ok (.ireturn, 1) := by decide +kernel
theorem dX1_readThing_24 : decode cX1_readThing 24 = .ok (.aload_n 0, 1) := by decide +kernel
theorem dX1_readThing_25 : decode cX1_readThing 25 = .ok (.getfield 18, 3) := by decide +kernel
theorem dX1_readThing_28 : decode cX1_readThing 28 = .ok (.iload_n 1, 1) := by decide +kernel
theorem dX1_readThing_29 : decode cX1_readThing 29 = .ok (.iconst 1, 1) := by decide +kernel
theorem dX1_readThing_30 : decode cX1_readThing 30 = .ok (.iadd, 1) := by decide +kernel
theorem dX1_readThing_31 : decode cX1_readThing 31 = .ok (.putfield 62, 3) := by decide +kernel
theorem dX1_readThing_34 : decode cX1_readThing 34 = .ok (.aload_n 0, 1) := by decide +kernel
theorem dX1_readThing_35 : decode cX1_readThing 35 = .ok (.iconst 1, 1) := by decide +kernel
theorem dX1_readThing_36 : decode cX1_readThing 36 = .ok (.iconst 4, 1) := by decide +kernel
theorem dX1_readThing_37 : decode cX1_readThing 37 = .ok (.invokevirtual 137, 3) := by decide +kernel
theorem dX1_readThing_40 : decode cX1_readThing 40 = .ok (.ifCond .ne 5, 3) := by decide +kernel
theorem dX1_readThing_43 : decode cX1_readThing 43 = .ok (.iconst 0, 1) := by decide +kernel
theorem dX1_readThing_44 : decode cX1_readThing 44 = .ok (.ireturn, 1) := by decide +kernel
theorem dX1_readThing_45 : decode cX1_readThing 45 = .ok (.aload_n 0, 1) := by decide +kernel
theorem dX1_readThing_46 : decode cX1_readThing 46 = .ok (.getfield 18, 3) := by decide +kernel
theorem dX1_readThing_49 : decode cX1_readThing 49 = .ok (.getfield 140, 3) := by decide +kernel
theorem dX1_readThing_52 : decode cX1_readThing 52 = .ok (.iload_n 1, 1) := by decide +kernel
theorem dX1_readThing_53 : decode cX1_readThing 53 = .ok (.aload_n 0, 1) := by decide +kernel
theorem dX1_readThing_54 : decode cX1_readThing 54 = .ok (.getfield 75, 3) := by decide +kernel
theorem dX1_readThing_57 : decode cX1_readThing 57 = .ok (.iastore, 1) := by decide +kernel
theorem dX1_readThing_58 : decode cX1_readThing 58 = .ok (.aload_n 0, 1) := by decide +kernel
theorem dX1_readThing_59 : decode cX1_readThing 59 = .ok (.iconst 1, 1) := by decide +kernel
theorem dX1_readThing_60 : decode cX1_readThing 60 = .ok (.iconst 4, 1) := by decide +kernel
theorem dX1_readThing_61 : decode cX1_readThing 61 = .ok (.invokevirtual 137, 3) := by decide +kernel
theorem dX1_readThing_64 : decode cX1_readThing 64 = .ok (.ifCond .ne 5, 3) := by decide +kernel
theorem dX1_readThing_67 : decode cX1_readThing 67 = .ok (.iconst 0, 1) := by decide +kernel
theorem dX1_readThing_68 : decode cX1_readThing 68 = .ok (.ireturn, 1) := by decide +kernel
theorem dX1_readThing_69 : decode cX1_readThing 69 = .ok (.aload_n 0, 1) := by decide +kernel
theorem dX1_readThing_70 : decode cX1_readThing 70 = .ok (.getfield 18, 3) := by decide +kernel
theorem dX1_readThing_73 : decode cX1_readThing 73 = .ok (.getfield 143, 3) := by decide +kernel
theorem dX1_readThing_76 : decode cX1_readThing 76 = .ok (.iload_n 1, 1) := by decide +kernel
theorem dX1_readThing_77 : decode cX1_readThing 77 = .ok (.aload_n 0, 1) := by decide +kernel
theorem dX1_readThing_78 : decode cX1_readThing 78 = .ok (.getfield 75, 3) := by decide +kernel
theorem dX1_readThing_81 : decode cX1_readThing 81 = .ok (.iastore, 1) := by decide +kernel
theorem dX1_readThing_82 : decode cX1_readThing 82 = .ok (.aload_n 0, 1) := by decide +kernel
theorem dX1_readThing_83 : decode cX1_readThing 83 = .ok (.iconst 0, 1) := by decide +kernel
theorem dX1_readThing_84 : decode cX1_readThing 84 = .ok (.bipush 60, 2) := by decide +kernel
theorem dX1_readThing_86 : decode cX1_readThing 86 = .ok (.invokevirtual 137, 3) := by decide +kernel
theorem dX1_readThing_89 : decode cX1_readThing 89 = .ok (.ifCond .ne 5, 3) := by decide +kernel
theorem dX1_readThing_92 : decode cX1_readThing 92 = .ok (.iconst 0, 1) := by decide +kernel
theorem dX1_readThing_93 : decode cX1_readThing 93 = .ok (.ireturn, 1) := by decide +kernel
theorem dX1_readThing_94 : decode cX1_readThing 94 = .ok (.aload_n 0, 1) := by decide +kernel
theorem dX1_readThing_95 : decode cX1_readThing 95 = .ok (.getfield 18, 3) := by decide +kernel
theorem dX1_readThing_98 : decode cX1_readThing 98 = .ok (.getfield 146, 3) := by decide +kernel
theorem dX1_readThing_101 : decode cX1_readThing 101 = .ok (.iload_n 1, 1) := by decide +kernel
theorem dX1_readThing_102 : decode cX1_readThing 102 = .ok (.aload_n 0, 1) := by decide +kernel
theorem dX1_readThing_103 : decode cX1_readThing 103 = .ok (.getfield 75, 3) := by decide +kernel
theorem dX1_readThing_106 : decode cX1_readThing 106 = .ok (.iastore, 1) := by decide +kernel
theorem dX1_readThing_107 : decode cX1_readThing 107 = .ok (.aload_n 0, 1) := by decide +kernel
theorem dX1_readThing_108 : decode cX1_readThing 108 = .ok (.invokevirtual 149, 3) := by decide +kernel
theorem dX1_readThing_111 : decode cX1_readThing 111 = .ok (.ireturn, 1) := by decide +kernel
theorem dX1_readSupper_0 : decode cX1_readSupper 0 = .ok (.aload_n 0, 1) := by decide +kernel
theorem dX1_readSupper_1 : decode cX1_readSupper 1 = .ok (.getfield 18, 3) := by decide +kernel
theorem dX1_readSupper_4 : decode cX1_readSupper 4 = .ok (.getfield 152, 3) := by decide +kernel
theorem dX1_readSupper_7 : decode cX1_readSupper 7 = .ok (.istore_n 2, 1) := by decide +kernel
theorem dX1_readSupper_8 : decode cX1_readSupper 8 = .ok (.iload_n 2, 1) := by decide +kernel
theorem dX1_readSupper_9 : decode cX1_readSupper 9 = .ok (.bipush 8, 2) := by decide +kernel
theorem dX1_readSupper_11 : decode cX1_readSupper 11 = .ok (.if_icmp .lt 13, 3) := by decide +kernel
theorem dX1_readSupper_14 : decode cX1_readSupper 14 = .ok (.aload_n 0, 1) := by decide +kernel
theorem dX1_readSupper_15 : decode cX1_readSupper 15 = .ok (.iconst 5, 1) := by decide +kernel
theorem dX1_readSupper_16 : decode cX1_readSupper 16 = .ok (.aload_n 0, 1) := by decide +kernel
theorem dX1_readSupper_17 : decode cX1_readSupper 17 = .ok (.getfield 72, 3) := by decide +kernel
theorem dX1_readSupper_20 : decode cX1_readSupper 20 = .ok (.invokevirtual 65, 3) := by decide +kernel
theorem dX1_readSupper_23 : decode cX1_readSupper 23 = .ok (.ireturn, 1) := by decide +kernel
theorem dX1_readSupper_24 : decode cX1_readSupper 24 = .ok (.aload_n 0, 1) := by decide +kernel
theorem dX1_readSupper_25 : decode cX1_readSupper 25 = .ok (.getfield 18, 3) := by decide +kernel
theorem dX1_readSupper_28 : decode cX1_readSupper 28 = .ok (.iload_n 2, 1) := by decide +kernel
theorem dX1_readSupper_29 : decode cX1_readSupper 29 = .ok (.iconst 1, 1) := by decide +kernel
theorem dX1_readSupper_30 : decode cX1_readSupper 30 = .ok (.iadd, 1) := by decide +kernel
theorem dX1_readSupper_31 : decode cX1_readSupper 31 = .ok (.putfield 152, 3) := by decide +kernel
theorem dX1_readSupper_34 : decode cX1_readSupper 34 = .ok (.aload_n 0, 1) := by decide +kernel
theorem dX1_readSupper_35 : decode cX1_readSupper 35 = .ok (.getfield 18, 3) := by decide +kernel
theorem dX1_readSupper_38 : decode cX1_readSupper 38 = .ok (.getfield 155, 3) := by decide +kernel
theorem dX1_readSupper_41 : decode cX1_readSupper 41 = .ok (.iload_n 2, 1) := by decide +kernel
theorem dX1_readSupper_42 : decode cX1_readSupper 42 = .ok (.iload_n 1, 1) := by decide +kernel
theorem dX1_readSupper_43 : decode cX1_readSupper 43 = .ok (.iastore, 1) := by decide +kernel
theorem dX1_readSupper_44 : decode cX1_readSupper 44 = .ok (.iload_n 1, 1) := by decide +kernel
theorem dX1_readSupper_45 : decode cX1_readSupper 45 = .ok (.iconst 3, 1) := by decide +kernel
theorem dX1_readSupper_46 : decode cX1_readSupper 46 = .ok (.if_icmp .ne 14, 3) := by decide +kernel
theorem dX1_readSupper_49 : decode cX1_readSupper 49 = .ok (.aload_n 0, 1) := by decide +kernel
theorem dX1_readSupper_50 : decode cX1_readSupper 50 = .ok (.iload_n 2, 1) := by decide +kernel
theorem dX1_readSupper_51 : decode cX1_readSupper 51 = .ok (.invokevirtual 158, 3) := by decide +kernel
theorem dX1_readSupper_54 : decode cX1_readSupper 54 = .ok (.ifCond .eq 22, 3) := by decide +kernel
theorem dX1_readSupper_57 : decode cX1_readSupper 57 = .ok (.goto 21, 3) := by decide +kernel
theorem dX1_readSupper_60 : decode cX1_readSupper 60 = .ok (.aload_n 0, 1) := by decide +kernel
theorem dX1_readSupper_61 : decode cX1_readSupper 61 = .ok (.aload_n 0, 1) := by decide +kernel
theorem dX1_readSupper_62 : decode cX1_readSupper 62 = .ok (.getfield 18, 3) := by decide +kernel
theorem dX1_readSupper_65 : decode cX1_readSupper 65 = .ok (.getfield 161, 3) := by decide +kernel
theorem dX1_readSupper_68 : decode cX1_readSupper 68 = .ok (.iload_n 2, 1) := by decide +kernel
theorem dX1_readSupper_69 : decode cX1_readSupper 69 = .ok (.iconst 1, 1) := by decide +kernel
theorem dX1_readSupper_70 : decode cX1_readSupper 70 = .ok (.invokevirtual 164, 3) := by decide +kernel
theorem dX1_readSupper_73 : decode cX1_readSupper 73 = .ok (.ifCond .ne 5, 3) := by decide +kernel
theorem dX1_readSupper_76 : decode cX1_readSupper 76 = .ok (.iconst 0, 1) := by decide +kernel
theorem dX1_readSupper_77 : decode cX1_readSupper 77 = .ok (.ireturn, 1) := by decide +kernel
theorem dX1_readSupper_78 : decode cX1_readSupper 78 = .ok (.aload_n 0, 1) := by decide +kernel
theorem dX1_readSupper_79 : decode cX1_readSupper 79 = .ok (.ldc 168, 2) := by decide +kernel
theorem dX1_readSupper_81 : decode cX1_readSupper 81 = .ok (.invokevirtual 99, 3) := by decide +kernel
theorem dX1_readSupper_84 : decode cX1_readSupper 84 = .ok (.ifCond .eq 21, 3) := by decide +kernel
theorem dX1_readSupper_87 : decode cX1_readSupper 87 = .ok (.aload_n 0, 1) := by decide +kernel
theorem dX1_readSupper_88 : decode cX1_readSupper 88 = .ok (.aload_n 0, 1) := by decide +kernel
theorem dX1_readSupper_89 : decode cX1_readSupper 89 = .ok (.getfield 18, 3) := by decide +kernel
theorem dX1_readSupper_92 : decode cX1_readSupper 92 = .ok (.getfield 170, 3) := by decide +kernel
theorem dX1_readSupper_95 : decode cX1_readSupper 95 = .ok (.iload_n 2, 1) := by decide +kernel
theorem dX1_readSupper_96 : decode cX1_readSupper 96 = .ok (.iconst 0, 1) := by decide +kernel
theorem dX1_readSupper_97 : decode cX1_readSupper 97 = .ok (.invokevirtual 164, 3) := by decide +kernel
theorem dX1_readSupper_100 : decode cX1_readSupper 100 = .ok (.ifCond .ne 5, 3) := by decide +kernel
theorem dX1_readSupper_103 : decode cX1_readSupper 103 = .ok (.iconst 0, 1) := by decide +kernel
theorem dX1_readSupper_104 : decode cX1_readSupper 104 = .ok (.ireturn, 1) := by decide +kernel
theorem dX1_readSupper_105 : decode cX1_readSupper 105 = .ok (.aload_n 0, 1) := by decide +kernel
theorem dX1_readSupper_106 : decode cX1_readSupper 106 = .ok (.ldc 172, 2) := by decide +kernel
theorem dX1_readSupper_108 : decode cX1_readSupper 108 = .ok (.invokevirtual 99, 3) := by decide +kernel
theorem dX1_readSupper_111 : decode cX1_readSupper 111 = .ok (.ifCond .eq 13, 3) := by decide +kernel
theorem dX1_readSupper_114 : decode cX1_readSupper 114 = .ok (.aload_n 0, 1) := by decide +kernel
theorem dX1_readSupper_115 : decode cX1_readSupper 115 = .ok (.iload_n 2, 1) := by decide +kernel
theorem dX1_readSupper_116 : decode cX1_readSupper 116 = .ok (.invokevirtual 174, 3) := by decide +kernel
theorem dX1_readSupper_119 : decode cX1_readSupper 119 = .ok (.ifCond .ne 5, 3) := by decide +kernel
theorem dX1_readSupper_122 : decode cX1_readSupper 122 = .ok (.iconst 0, 1) := by decide +kernel
theorem dX1_readSupper_123 : decode cX1_readSupper 123 = .ok (.ireturn, 1) := by decide +kernel
theorem dX1_readSupper_124 : decode cX1_readSupper 124 = .ok (.aload_n 0, 1) := by decide +kernel
theorem dX1_readSupper_125 : decode cX1_readSupper 125 = .ok (.ldc 177, 2) := by decide +kernel
theorem dX1_readSupper_127 : decode cX1_readSupper 127 = .ok (.invokevirtual 99, 3) := by decide +kernel
theorem dX1_readSupper_130 : decode cX1_readSupper 130 = .ok (.ifCond .eq 13, 3) := by decide +kernel
theorem dX1_readSupper_133 : decode cX1_readSupper 133 = .ok (.aload_n 0, 1) := by decide +kernel
theorem dX1_readSupper_134 : decode cX1_readSupper 134 = .ok (.iload_n 2, 1) := by decide +kernel
theorem dX1_readSupper_135 : decode cX1_readSupper 135 = .ok (.invokevirtual 179, 3) := by decide +kernel
theorem dX1_readSupper_138 : decode cX1_readSupper 138 = .ok (.ifCond .ne 5, 3) := by decide +kernel
theorem dX1_readSupper_141 : decode cX1_readSupper 141 = .ok (.iconst 0, 1) := by decide +kernel
theorem dX1_readSupper_142 : decode cX1_readSupper 142 = .ok (.ireturn, 1) := by decide +kernel
theorem dX1_readSupper_143 : decode cX1_readSupper 143 = .ok (.aload_n 0, 1) := by decide +kernel
theorem dX1_readSupper_144 : decode cX1_readSupper 144 = .ok (.invokevirtual 94, 3) := by decide +kernel
theorem dX1_readSupper_147 : decode cX1_readSupper 147 = .ok (.ireturn, 1) := by decide +kernel
theorem dX1_readSoup_0 : decode cX1_readSoup 0 = .ok (.aload_n 0, 1) := by decide +kernel
theorem dX1_readSoup_1 : decode cX1_readSoup 1 = .ok (.iconst 1, 1) := by decide +kernel
theorem dX1_readSoup_2 : decode cX1_readSoup 2 = .ok (.bipush 9, 2) := by decide +kernel
theorem dX1_readSoup_4 : decode cX1_readSoup 4 = .ok (.invokevirtual 137, 3) := by decide +kernel
theorem dX1_readSoup_7 : decode cX1_readSoup 7 = .ok (.ifCond .ne 5, 3) := by decide +kernel
theorem dX1_readSoup_10 : decode cX1_readSoup 10 = .ok (.iconst 0, 1) := by decide +kernel
theorem dX1_readSoup_11 : decode cX1_readSoup 11 = .ok (.ireturn, 1) := by decide +kernel
theorem dX1_readSoup_12 : decode cX1_readSoup 12 = .ok (.aload_n 0, 1) := by decide +kernel
theorem dX1_readSoup_13 : decode cX1_readSoup 13 = .ok (.getfield 18, 3) := by decide +kernel
theorem dX1_readSoup_16 : decode cX1_readSoup 16 = .ok (.getfield 182, 3) := by decide +kernel
theorem dX1_readSoup_19 : decode cX1_readSoup 19 = .ok (.iload_n 1, 1) := by decide +kernel
theorem dX1_readSoup_20 : decode cX1_readSoup 20 = .ok (.aload_n 0, 1) := by decide +kernel
theorem dX1_readSoup_21 : decode cX1_readSoup 21 = .ok (.getfield 75, 3) := by decide +kernel
theorem dX1_readSoup_24 : decode cX1_readSoup 24 = .ok (.iastore, 1) := by decide +kernel
theorem dX1_readSoup_25 : decode cX1_readSoup 25 = .ok (.aload_n 0, 1) := by decide +kernel
theorem dX1_readSoup_26 : decode cX1_readSoup 26 = .ok (.invokevirtual 185, 3) := by decide +kernel
theorem dX1_readSoup_29 : decode cX1_readSoup 29 = .ok (.ifCond .ne 5, 3) := by decide +kernel
theorem dX1_readSoup_32 : decode cX1_readSoup 32 = .ok (.iconst 0, 1) := by decide +kernel
theorem dX1_readSoup_33 : decode cX1_readSoup 33 = .ok (.ireturn, 1) := by decide +kernel
theorem dX1_readSoup_34 : decode cX1_readSoup 34 = .ok (.aload_n 0, 1) := by decide +kernel
theorem dX1_readSoup_35 : decode cX1_readSoup 35 = .ok (.getfield 18, 3) := by decide +kernel
theorem dX1_readSoup_38 : decode cX1_readSoup 38 = .ok (.getfield 188, 3) := by decide +kernel
theorem dX1_readSoup_41 : decode cX1_readSoup 41 = .ok (.iload_n 1, 1) := by decide +kernel
theorem dX1_readSoup_42 : decode cX1_readSoup 42 = .ok (.aload_n 0, 1) := by decide +kernel
theorem dX1_readSoup_43 : decode cX1_readSoup 43 = .ok (.bipush 97, 2) := by decide +kernel
theorem dX1_readSoup_45 : decode cX1_readSoup 45 = .ok (.bipush 6, 2) := by decide +kernel
theorem dX1_readSoup_47 : decode cX1_readSoup 47 = .ok (.invokevirtual 191, 3) := by decide +kernel
theorem dX1_readSoup_50 : decode cX1_readSoup 50 = .ok (.iastore, 1) := by decide +kernel
theorem dX1_readSoup_51 : decode cX1_readSoup 51 = .ok (.aload_n 0, 1) := by decide +kernel
theorem dX1_readSoup_52 : decode cX1_readSoup 52 = .ok (.getfield 18, 3) := by decide +kernel
theorem dX1_readSoup_55 : decode cX1_readSoup 55 = .ok (.getfield 188, 3) := by decide +kernel
theorem dX1_readSoup_58 : decode cX1_readSoup 58 = .ok (.iload_n 1, 1) := by decide +kernel
theorem dX1_readSoup_59 : decode cX1_readSoup 59 = .ok (.iaload, 1) := by decide +kernel
theorem dX1_readSoup_60 : decode cX1_readSoup 60 = .ok (.ifCond .ne 13, 3) := by decide +kernel
theorem dX1_readSoup_63 : decode cX1_readSoup 63 = .ok (.aload_n 0, 1) := by decide +kernel
theorem dX1_readSoup_64 : decode cX1_readSoup 64 = .ok (.iconst 3, 1) := by decide +kernel
theorem dX1_readSoup_65 : decode cX1_readSoup 65 = .ok (.aload_n 0, 1) := by decide +kernel
theorem dX1_readSoup_66 : decode cX1_readSoup 66 = .ok (.getfield 72, 3) := by decide +kernel
theorem dX1_readSoup_69 : decode cX1_readSoup 69 = .ok (.invokevirtual 65, 3) := by decide +kernel
theorem dX1_readSoup_72 : decode cX1_readSoup 72 = .ok (.ireturn, 1) := by decide +kernel
theorem dX1_readSoup_73 : decode cX1_readSoup 73 = .ok (.iconst 0, 1) := by decide +kernel
theorem dX1_readSoup_74 : decode cX1_readSoup 74 = .ok (.istore_n 2, 1) := by decide +kernel
theorem dX1_readSoup_75 : decode cX1_readSoup 75 = .ok (.iload_n 2, 1) := by decide +kernel
theorem dX1_readSoup_76 : decode cX1_readSoup 76 = .ok (.bipush 6, 2) := by decide +kernel
theorem dX1_readSoup_78 : decode cX1_readSoup 78 = .ok (.if_icmp .ge 26, 3) := by decide +kernel
theorem dX1_readSoup_81 : decode cX1_readSoup 81 = .ok (.aload_n 0, 1) := by decide +kernel
theorem dX1_readSoup_82 : decode cX1_readSoup 82 = .ok (.getfield 18, 3) := by decide +kernel
theorem dX1_readSoup_85 : decode cX1_readSoup 85 = .ok (.iload_n 1, 1) := by decide +kernel
theorem dX1_readSoup_86 : decode cX1_readSoup 86 = .ok (.iload_n 2, 1) := by decide +kernel
theorem dX1_readSoup_87 : decode cX1_readSoup 87 = .ok (.invokevirtual 195, 3) := by decide +kernel
theorem dX1_readSoup_90 : decode cX1_readSoup 90 = .ok (.ifCond .eq 8, 3) := by decide +kernel
theorem dX1_readSoup_93 : decode cX1_readSoup 93 = .ok (.aload_n 0, 1) := by decide +kernel
theorem dX1_readSoup_94 : decode cX1_readSoup 94 = .ok (.iload_n 2, 1) := by decide +kernel
theorem dX1_readSoup_95 : decode cX1_readSoup 95 = .ok (.invokevirtual 198, 3) := by decide +kernel
theorem dX1_readSoup_98 : decode cX1_readSoup 98 = .ok (.iinc 2 1, 3) := by decide +kernel
theorem dX1_readSoup_101 : decode cX1_readSoup 101 = .ok (.goto (-26), 3) := by decide +kernel
theorem dX1_readSoup_104 : decode cX1_readSoup 104 = .ok (.aload_n 0, 1) := by decide +kernel
theorem dX1_readSoup_105 : decode cX1_readSoup 105 = .ok (.invokevirtual 29, 3) := by decide +kernel
theorem dX1_readSoup_108 : decode cX1_readSoup 108 = .ok (.ireturn, 1) := by decide +kernel
theorem dX1_lettersOnce_0 : decode cX1_lettersOnce 0 = .ok (.iconst 0, 1) := by decide +kernel
theorem dX1_lettersOnce_1 : decode cX1_lettersOnce 1 = .ok (.istore_n 3, 1) := by decide +kernel
theorem dX1_lettersOnce_2 : decode cX1_lettersOnce 2 = .ok (.aload_n 0, 1) := by decide +kernel
theorem dX1_lettersOnce_3 : decode cX1_lettersOnce 3 = .ok (.getfield 72, 3) := by decide +kernel
theorem dX1_lettersOnce_6 : decode cX1_lettersOnce 6 = .ok (.istore 4, 2) := by decide +kernel
theorem dX1_lettersOnce_8 : decode cX1_lettersOnce 8 = .ok (.iload 4, 2) := by decide +kernel
theorem dX1_lettersOnce_10 : decode cX1_lettersOnce 10 = .ok (.aload_n 0, 1) := by decide +kernel
theorem dX1_lettersOnce_11 : decode cX1_lettersOnce 11 = .ok (.getfield 46, 3) := by decide +kernel
theorem dX1_lettersOnce_14 : decode cX1_lettersOnce 14 = .ok (.if_icmp .ge 49, 3) := by decide +kernel
theorem dX1_lettersOnce_17 : decode cX1_lettersOnce 17 = .ok (.aload_n 0, 1) := by decide +kernel
theorem dX1_lettersOnce_18 : decode cX1_lettersOnce 18 = .ok (.getfield 9, 3) := by decide +kernel
theorem dX1_lettersOnce_21 : decode cX1_lettersOnce 21 = .ok (.iload 4, 2) := by decide +kernel
theorem dX1_lettersOnce_23 : decode cX1_lettersOnce 23 = .ok (.baload, 1) := by decide +kernel
theorem dX1_lettersOnce_24 : decode cX1_lettersOnce 24 = .ok (.iload_n 1, 1) := by decide +kernel
theorem dX1_lettersOnce_25 : decode cX1_lettersOnce 25 = .ok (.isub, 1) := by decide +kernel
theorem dX1_lettersOnce_26 : decode cX1_lettersOnce 26 = .ok (.istore 5, 2) := by decide +kernel
theorem dX1_lettersOnce_28 : decode cX1_lettersOnce 28 = .ok (.iload 5, 2) := by decide +kernel
theorem dX1_lettersOnce_30 : decode cX1_lettersOnce 30 = .ok (.ifCond .lt 18, 3) := by decide +kernel
theorem dX1_lettersOnce_33 : decode cX1_lettersOnce 33 = .ok (.iload 5, 2) := by decide +kernel
theorem dX1_lettersOnce_35 : decode cX1_lettersOnce 35 = .ok (.iload_n 2, 1) := by decide +kernel
theorem dX1_lettersOnce_36 : decode cX1_lettersOnce 36 = .ok (.if_icmp .ge 12, 3) := by decide +kernel
theorem dX1_lettersOnce_39 : decode cX1_lettersOnce 39 = .ok (.iload_n 3, 1) := by decide +kernel
theorem dX1_lettersOnce_40 : decode cX1_lettersOnce 40 = .ok (.iload 5, 2) := by decide +kernel
theorem dX1_lettersOnce_42 : decode cX1_lettersOnce 42 = .ok (.ishr, 1) := by decide +kernel
theorem dX1_lettersOnce_43 : decode cX1_lettersOnce 43 = .ok (.iconst 1, 1) := by decide +kernel
theorem dX1_lettersOnce_44 : decode cX1_lettersOnce 44 = .ok (.iand, 1) := by decide +kernel
theorem dX1_lettersOnce_45 : decode cX1_lettersOnce 45 = .ok (.ifCond .eq 5, 3) := by decide +kernel
theorem dX1_lettersOnce_48 : decode cX1_lettersOnce 48 = .ok (.iconst 0, 1) := by decide +kernel
theorem dX1_lettersOnce_49 : decode cX1_lettersOnce 49 = .ok (.ireturn, 1) := by decide +kernel
theorem dX1_lettersOnce_50 : decode cX1_lettersOnce 50 = .ok (.iload_n 3, 1) := by decide +kernel
theorem dX1_lettersOnce_51 : decode cX1_lettersOnce 51 = .ok (.iconst 1, 1) := by decide +kernel
theorem dX1_lettersOnce_52 : decode cX1_lettersOnce 52 = .ok (.iload 5, 2) := by decide +kernel
theorem dX1_lettersOnce_54 : decode cX1_lettersOnce 54 = .ok (.ishl, 1) := by decide +kernel
theorem dX1_lettersOnce_55 : decode cX1_lettersOnce 55 = .ok (.ior, 1) := by decide +kernel
theorem dX1_lettersOnce_56 : decode cX1_lettersOnce 56 = .ok (.istore_n 3, 1) := by decide +kernel
theorem dX1_lettersOnce_57 : decode cX1_lettersOnce 57 = .ok (.iinc 4 1, 3) := by decide +kernel
theorem dX1_lettersOnce_60 : decode cX1_lettersOnce 60 = .ok (.goto (-52), 3) := by decide +kernel
theorem dX1_lettersOnce_63 : decode cX1_lettersOnce 63 = .ok (.iload_n 3, 1) := by decide +kernel
theorem dX1_lettersOnce_64 : decode cX1_lettersOnce 64 = .ok (.ireturn, 1) := by decide +kernel
theorem dX1_noteUse_0 : decode cX1_noteUse 0 = .ok (.aload_n 0, 1) := by decide +kernel
theorem dX1_noteUse_1 : decode cX1_noteUse 1 = .ok (.getfield 22, 3) := by decide +kernel
theorem dX1_noteUse_4 : decode cX1_noteUse 4 = .ok (.iload_n 1, 1) := by decide +kernel
theorem dX1_noteUse_5 : decode cX1_noteUse 5 = .ok (.iaload, 1) := by decide +kernel
theorem dX1_noteUse_6 : decode cX1_noteUse 6 = .ok (.iconst (-1), 1) := by decide +kernel
theorem dX1_noteUse_7 : decode cX1_noteUse 7 = .ok (.if_icmp .ne 13, 3) := by decide +kernel
theorem dX1_noteUse_10 : decode cX1_noteUse 10 = .ok (.aload_n 0, 1) := by decide +kernel
theorem dX1_noteUse_11 : decode cX1_noteUse 11 = .ok (.getfield 22, 3) := by decide +kernel
theorem dX1_noteUse_14 : decode cX1_noteUse 14 = .ok (.iload_n 1, 1) := by decide +kernel
theorem dX1_noteUse_15 : decode cX1_noteUse 15 = .ok (.aload_n 0, 1) := by decide +kernel
theorem dX1_noteUse_16 : decode cX1_noteUse 16 = .ok (.getfield 72, 3) := by decide +kernel
theorem dX1_noteUse_19 : decode cX1_noteUse 19 = .ok (.iastore, 1) := by decide +kernel
theorem dX1_noteUse_20 : decode cX1_noteUse 20 = .ok (.return_, 1) := by decide +kernel
theorem dX1_readPortions_0 : decode cX1_readPortions 0 = .ok (.iconst 0, 1) := by decide +kernel
theorem dX1_readPortions_1 : decode cX1_readPortions 1 = .ok (.istore 4, 2) := by decide +kernel
theorem dX1_readPortions_3 : decode cX1_readPortions 3 = .ok (.iload 4, 2) := by decide +kernel
theorem dX1_readPortions_5 : decode cX1_readPortions 5 = .ok (.bipush 6, 2) := by decide +kernel
theorem dX1_readPortions_7 : decode cX1_readPortions 7 = .ok (.if_icmp .gt 160, 3) := by decide +kernel
theorem dX1_readPortions_10 : decode cX1_readPortions 10 = .ok (.aload_n 0, 1) := by decide +kernel
theorem dX1_readPortions_11 : decode cX1_readPortions 11 = .ok (.invokevirtual 29, 3) := by decide +kernel
theorem dX1_readPortions_14 : decode cX1_readPortions 14 = .ok (.ifCond .ne 5, 3) := by decide +kernel
theorem dX1_readPortions_17 : decode cX1_readPortions 17 = .ok (.iconst 0, 1) := by decide +kernel
theorem dX1_readPortions_18 : decode cX1_readPortions 18 = .ok (.ireturn, 1) := by decide +kernel
theorem dX1_readPortions_19 : decode cX1_readPortions 19 = .ok (.aload_n 0, 1) := by decide +kernel
theorem dX1_readPortions_20 : decode cX1_readPortions 20 = .ok (.getfield 33, 3) := by decide +kernel
theorem dX1_readPortions_23 : decode cX1_readPortions 23 = .ok (.iconst 1, 1) := by decide +kernel
theorem dX1_readPortions_24 : decode cX1_readPortions 24 = .ok (.if_icmp .ne 34, 3) := by decide +kernel
theorem dX1_readPortions_27 : decode cX1_readPortions 27 = .ok (.aload_n 0, 1) := by decide +kernel
theorem dX1_readPortions_28 : decode cX1_readPortions 28 = .ok (.ldc 172, 2) := by decide +kernel
theorem dX1_readPortions_30 : decode cX1_readPortions 30 = .ok (.invokevirtual 99, 3) := by decide +kernel
theorem dX1_readPortions_33 : decode cX1_readPortions 33 = .ok (.ifCond .ne 25, 3) := by decide +kernel
theorem dX1_readPortions_36 : decode cX1_readPortions 36 = .ok (.aload_n 0, 1) := by decide +kernel
theorem dX1_readPortions_37 : decode cX1_readPortions 37 = .ok (.ldc 177, 2) := by decide +kernel
theorem dX1_readPortions_39 : decode cX1_readPortions 39 = .ok (.invokevirtual 99, 3) := by decide +kernel
theorem dX1_readPortions_42 : decode cX1_readPortions 42 = .ok (.ifCond .ne 16, 3) := by decide +kernel
theorem dX1_readPortions_45 : decode cX1_readPortions 45 = .ok (.iload_n 3, 1) := by decide +kernel
theorem dX1_readPortions_46 : decode cX1_readPortions 46 = .ok (.ifCond .eq 14, 3) := by decide +kernel
theorem dX1_readPortions_49 : decode cX1_readPortions 49 = .ok (.aload_n 0, 1) := by decide +kernel
theorem dX1_readPortions_50 : decode cX1_readPortions 50 = .ok (.ldc 168, 2) := by decide +kernel
theorem dX1_readPortions_52 : decode cX1_readPortions 52 = .ok (.invokevirtual 99, 3) := by decide +kernel
theorem dX1_readPortions_55 : decode cX1_readPortions 55 = .ok (.ifCond .eq 5, 3) := by decide +kernel
theorem dX1_readPortions_58 : decode cX1_readPortions 58 = .ok (.iconst 1, 1) := by decide +kernel
theorem dX1_readPortions_59 : decode cX1_readPortions 59 = .ok (.ireturn, 1) := by decide +kernel
theorem dX1_readPortions_60 : decode cX1_readPortions 60 = .ok (.aload_n 0, 1) := by decide +kernel
theorem dX1_readPortions_61 : decode cX1_readPortions 61 = .ok (.getfield 9, 3) := by decide +kernel
theorem dX1_readPortions_64 : decode cX1_readPortions 64 = .ok (.aload_n 0, 1) := by decide +kernel
theorem dX1_readPortions_65 : decode cX1_readPortions 65 = .ok (.getfield 72, 3) := by decide +kernel
theorem dX1_readPortions_68 : decode cX1_readPortions 68 = .ok (.baload, 1) := by decide +kernel
theorem dX1_readPortions_69 : decode cX1_readPortions 69 = .ok (.bipush 97, 2) := by decide +kernel
theorem dX1_readPortions_71 : decode cX1_readPortions 71 = .ok (.isub, 1) := by decide +kernel
theorem dX1_readPortions_72 : decode cX1_readPortions 72 = .ok (.istore 5, 2) := by decide +kernel
theorem dX1_readPortions_74 : decode cX1_readPortions 74 = .ok (.aload_n 0, 1) := by decide +kernel
theorem dX1_readPortions_75 : decode cX1_readPortions 75 = .ok (.getfield 46, 3) := by decide +kernel
theorem dX1_readPortions_78 : decode cX1_readPortions 78 = .ok (.aload_n 0, 1) := by decide +kernel
theorem dX1_readPortions_79 : decode cX1_readPortions 79 = .ok (.getfield 72, 3) := by decide +kernel
theorem dX1_readPortions_82 : decode cX1_readPortions 82 = .ok (.isub, 1) := by decide +kernel
theorem dX1_readPortions_83 : decode cX1_readPortions 83 = .ok (.iconst 1, 1) := by decide +kernel
theorem dX1_readPortions_84 : decode cX1_readPortions 84 = .ok (.if_icmp .ne 15, 3) := by decide +kernel
theorem dX1_readPortions_87 : decode cX1_readPortions 87 = .ok (.iload 5, 2) := by decide +kernel
theorem dX1_readPortions_89 : decode cX1_readPortions 89 = .ok (.ifCond .lt 10, 3) := by decide +kernel
theorem dX1_readPortions_92 : decode cX1_readPortions 92 = .ok (.iload 5, 2) := by decide +kernel
theorem dX1_readPortions_94 : decode cX1_readPortions 94 = .ok (.bipush 6, 2) := by decide +kernel
theorem dX1_readPortions_96 : decode cX1_readPortions 96 = .ok (.if_icmp .lt 13, 3) := by decide +kernel
theorem dX1_readPortions_99 : decode cX1_readPortions 99 = .ok (.aload_n 0, 1) := by decide +kernel
theorem dX1_readPortions_100 : decode cX1_readPortions 100 = .ok (.iconst 3, 1) := by decide +kernel
theorem dX1_readPortions_101 : decode cX1_readPortions 101 = .ok (.aload_n 0, 1) := by decide +kernel
theorem dX1_readPortions_102 : decode cX1_readPortions 102 = .ok (.getfield 72, 3) := by decide +kernel
theorem dX1_readPortions_105 : decode cX1_readPortions 105 = .ok (.invokevirtual 65, 3) := by decide +kernel
theorem dX1_readPortions_108 : decode cX1_readPortions 108 = .ok (.ireturn, 1) := by decide +kernel
theorem dX1_readPortions_109 : decode cX1_readPortions 109 = .ok (.aload_n 1, 1) := by decide +kernel
theorem dX1_readPortions_110 : decode cX1_readPortions 110 = .ok (.iload_n 2, 1) := by decide +kernel
theorem dX1_readPortions_111 : decode cX1_readPortions 111 = .ok (.bipush 6, 2) := by decide +kernel
theorem dX1_readPortions_113 : decode cX1_readPortions 113 = .ok (.imul, 1) := by decide +kernel
theorem dX1_readPortions_114 : decode cX1_readPortions 114 = .ok (.iload 5, 2) := by decide +kernel
theorem dX1_readPortions_116 : decode cX1_readPortions 116 = .ok (.iadd, 1) := by decide +kernel
theorem dX1_readPortions_117 : decode cX1_readPortions 117 = .ok (.iaload, 1) := by decide +kernel
theorem dX1_readPortions_118 : decode cX1_readPortions 118 = .ok (.ifCond .eq 13, 3) := by decide +kernel
theorem dX1_readPortions_121 : decode cX1_readPortions 121 = .ok (.aload_n 0, 1) := by decide +kernel
theorem dX1_readPortions_122 : decode cX1_readPortions 122 = .ok (.iconst 4, 1) := by decide +kernel
theorem dX1_readPortions_123 : decode cX1_readPortions 123 = .ok (.aload_n 0, 1) := by decide +kernel
theorem dX1_readPortions_124 : decode cX1_readPortions 124 = .ok (.getfield 72, 3) := by decide +kernel
theorem dX1_readPortions_127 : decode cX1_readPortions 127 = .ok (.invokevirtual 65, 3) := by decide +kernel
theorem dX1_readPortions_130 : decode cX1_readPortions 130 = .ok (.ireturn, 1) := by decide +kernel
theorem dX1_readPortions_131 : decode cX1_readPortions 131 = .ok (.aload_n 0, 1) := by decide +kernel
theorem dX1_readPortions_132 : decode cX1_readPortions 132 = .ok (.iload 5, 2) := by decide +kernel
theorem dX1_readPortions_134 : decode cX1_readPortions 134 = .ok (.invokevirtual 198, 3) := by decide +kernel
theorem dX1_readPortions_137 : decode cX1_readPortions 137 = .ok (.aload_n 0, 1) := by decide +kernel
theorem dX1_readPortions_138 : decode cX1_readPortions 138 = .ok (.iconst 1, 1) := by decide +kernel
theorem dX1_readPortions_139 : decode cX1_readPortions 139 = .ok (.iconst 3, 1) := by decide +kernel
theorem dX1_readPortions_140 : decode cX1_readPortions 140 = .ok (.invokevirtual 137, 3) := by decide +kernel
theorem dX1_readPortions_143 : decode cX1_readPortions 143 = .ok (.ifCond .ne 5, 3) := by decide +kernel
theorem dX1_readPortions_146 : decode cX1_readPortions 146 = .ok (.iconst 0, 1) := by decide +kernel
theorem dX1_readPortions_147 : decode cX1_readPortions 147 = .ok (.ireturn, 1) := by decide +kernel
theorem dX1_readPortions_148 : decode cX1_readPortions 148 = .ok (.aload_n 1, 1) := by decide +kernel
theorem dX1_readPortions_149 : decode cX1_readPortions 149 = .ok (.iload_n 2, 1) := by decide +kernel
theorem dX1_readPortions_150 : decode cX1_readPortions 150 = .ok (.bipush 6, 2) := by decide +kernel
theorem dX1_readPortions_152 : decode cX1_readPortions 152 = .ok (.imul, 1) := by decide +kernel
theorem dX1_readPortions_153 : decode cX1_readPortions 153 = .ok (.iload 5, 2) := by decide +kernel
theorem dX1_readPortions_155 : decode cX1_readPortions 155 = .ok (.iadd, 1) := by decide +kernel
theorem dX1_readPortions_156 : decode cX1_readPortions 156 = .ok (.aload_n 0, 1) := by decide +kernel
theorem dX1_readPortions_157 : decode cX1_readPortions 157 = .ok (.getfield 75, 3) := by decide +kernel
theorem dX1_readPortions_160 : decode cX1_readPortions 160 = .ok (.iastore, 1) := by decide +kernel
theorem dX1_readPortions_161 : decode cX1_readPortions 161 = .ok (.iinc 4 1, 3) := by decide +kernel
theorem dX1_readPortions_164 : decode cX1_readPortions 164 = .ok (.goto (-161), 3) := by decide +kernel
theorem dX1_readPortions_167 : decode cX1_readPortions 167 = .ok (.iconst 0, 1) := by decide +kernel
theorem dX1_readPortions_168 : decode cX1_readPortions 168 = .ok (.ireturn, 1) := by decide +kernel
theorem dX1_readLike_0 : decode cX1_readLike 0 = .ok (.aload_n 0, 1) := by decide +kernel
theorem dX1_readLike_1 : decode cX1_readLike 1 = .ok (.iconst 0, 1) := by decide +kernel
theorem dX1_readLike_2 : decode cX1_readLike 2 = .ok (.bipush 9, 2) := by decide +kernel
theorem dX1_readLike_4 : decode cX1_readLike 4 = .ok (.invokevirtual 137, 3) := by decide +kernel
theorem dX1_readLike_7 : decode cX1_readLike 7 = .ok (.ifCond .ne 5, 3) := by decide +kernel
theorem dX1_readLike_10 : decode cX1_readLike 10 = .ok (.iconst 0, 1) := by decide +kernel
theorem dX1_readLike_11 : decode cX1_readLike 11 = .ok (.ireturn, 1) := by decide +kernel
theorem dX1_readLike_12 : decode cX1_readLike 12 = .ok (.aload_n 0, 1) := by decide +kernel
theorem dX1_readLike_13 : decode cX1_readLike 13 = .ok (.getfield 18, 3) := by decide +kernel
theorem dX1_readLike_16 : decode cX1_readLike 16 = .ok (.getfield 202, 3) := by decide +kernel
theorem dX1_readLike_19 : decode cX1_readLike 19 = .ok (.iload_n 1, 1) := by decide +kernel
theorem dX1_readLike_20 : decode cX1_readLike 20 = .ok (.aload_n 0, 1) := by decide +kernel
theorem dX1_readLike_21 : decode cX1_readLike 21 = .ok (.getfield 75, 3) := by decide +kernel
theorem dX1_readLike_24 : decode cX1_readLike 24 = .ok (.iastore, 1) := by decide +kernel
theorem dX1_readLike_25 : decode cX1_readLike 25 = .ok (.aload_n 0, 1) := by decide +kernel
theorem dX1_readLike_26 : decode cX1_readLike 26 = .ok (.invokevirtual 29, 3) := by decide +kernel
theorem dX1_readLike_29 : decode cX1_readLike 29 = .ok (.ireturn, 1) := by decide +kernel
theorem dX1_readWont_0 : decode cX1_readWont 0 = .ok (.aload_n 0, 1) := by decide +kernel
theorem dX1_readWont_1 : decode cX1_readWont 1 = .ok (.invokevirtual 185, 3) := by decide +kernel
theorem dX1_readWont_4 : decode cX1_readWont 4 = .ok (.ifCond .ne 5, 3) := by decide +kernel
theorem dX1_readWont_7 : decode cX1_readWont 7 = .ok (.iconst 0, 1) := by decide +kernel
theorem dX1_readWont_8 : decode cX1_readWont 8 = .ok (.ireturn, 1) := by decide +kernel
theorem dX1_readWont_9 : decode cX1_readWont 9 = .ok (.aload_n 0, 1) := by decide +kernel
theorem dX1_readWont_10 : decode cX1_readWont 10 = .ok (.getfield 18, 3) := by decide +kernel
theorem dX1_readWont_13 : decode cX1_readWont 13 = .ok (.getfield 205, 3) := by decide +kernel
theorem dX1_readWont_16 : decode cX1_readWont 16 = .ok (.iload_n 1, 1) := by decide +kernel
theorem dX1_readWont_17 : decode cX1_readWont 17 = .ok (.aload_n 0, 1) := by decide +kernel
theorem dX1_readWont_18 : decode cX1_readWont 18 = .ok (.bipush 112, 2) := by decide +kernel
theorem dX1_readWont_20 : decode cX1_readWont 20 = .ok (.iconst 4, 1) := by decide +kernel
theorem dX1_readWont_21 : decode cX1_readWont 21 = .ok (.invokevirtual 191, 3) := by decide +kernel
theorem dX1_readWont_24 : decode cX1_readWont 24 = .ok (.iastore, 1) := by decide +kernel
theorem dX1_readWont_25 : decode cX1_readWont 25 = .ok (.aload_n 0, 1) := by decide +kernel
theorem dX1_readWont_26 : decode cX1_readWont 26 = .ok (.getfield 18, 3) := by decide +kernel
theorem dX1_readWont_29 : decode cX1_readWont 29 = .ok (.getfield 205, 3) := by decide +kernel
theorem dX1_readWont_32 : decode cX1_readWont 32 = .ok (.iload_n 1, 1) := by decide +kernel
theorem dX1_readWont_33 : decode cX1_readWont 33 = .ok (.iaload, 1) := by decide +kernel
theorem dX1_readWont_34 : decode cX1_readWont 34 = .ok (.ifCond .ne 13, 3) := by decide +kernel
theorem dX1_readWont_37 : decode cX1_readWont 37 = .ok (.aload_n 0, 1) := by decide +kernel
theorem dX1_readWont_38 : decode cX1_readWont 38 = .ok (.iconst 3, 1) := by decide +kernel
theorem dX1_readWont_39 : decode cX1_readWont 39 = .ok (.aload_n 0, 1) := by decide +kernel
theorem dX1_readWont_40 : decode cX1_readWont 40 = .ok (.getfield 72, 3) := by decide +kernel
theorem dX1_readWont_43 : decode cX1_readWont 43 = .ok (.invokevirtual 65, 3) := by decide +kernel
theorem dX1_readWont_46 : decode cX1_readWont 46 = .ok (.ireturn, 1) := by decide +kernel
theorem dX1_readWont_47 : decode cX1_readWont 47 = .ok (.aload_n 0, 1) := by decide +kernel
theorem dX1_readWont_48 : decode cX1_readWont 48 = .ok (.invokevirtual 29, 3) := by decide +kernel
theorem dX1_readWont_51 : decode cX1_readWont 51 = .ok (.ireturn, 1) := by decide +kernel
theorem dX1_readAgain_0 : decode cX1_readAgain 0 = .ok (.aload_n 0, 1) := by decide +kernel
theorem dX1_readAgain_1 : decode cX1_readAgain 1 = .ok (.getfield 49, 3) := by decide +kernel
theorem dX1_readAgain_4 : decode cX1_readAgain 4 = .ok (.ifCond .eq 13, 3) := by decide +kernel
theorem dX1_readAgain_7 : decode cX1_readAgain 7 = .ok (.aload_n 0, 1) := by decide +kernel
theorem dX1_readAgain_8 : decode cX1_readAgain 8 = .ok (.iconst 4, 1) := by decide +kernel
theorem dX1_readAgain_9 : decode cX1_readAgain 9 = .ok (.aload_n 0, 1) := by decide +kernel
theorem dX1_readAgain_10 : decode cX1_readAgain 10 = .ok (.getfield 72, 3) := by decide +kernel
theorem dX1_readAgain_13 : decode cX1_readAgain 13 = .ok (.invokevirtual 65, 3) := by decide +kernel
theorem dX1_readAgain_16 : decode cX1_readAgain 16 = .ok (.ireturn, 1) := by decide +kernel
theorem dX1_readAgain_17 : decode cX1_readAgain 17 = .ok (.aload_n 0, 1) := by decide +kernel
theorem dX1_readAgain_18 : decode cX1_readAgain 18 = .ok (.iconst 1, 1) := by decide +kernel
theorem dX1_readAgain_19 : decode cX1_readAgain 19 = .ok (.putfield 49, 3) := by decide +kernel
theorem dX1_readAgain_22 : decode cX1_readAgain 22 = .ok (.aload_n 0, 1) := by decide +kernel
theorem dX1_readAgain_23 : decode cX1_readAgain 23 = .ok (.iconst 0, 1) := by decide +kernel
theorem dX1_readAgain_24 : decode cX1_readAgain 24 = .ok (.bipush 7, 2) := by decide +kernel
theorem dX1_readAgain_26 : decode cX1_readAgain 26 = .ok (.invokevirtual 137, 3) := by decide +kernel
theorem dX1_readAgain_29 : decode cX1_readAgain 29 = .ok (.ifCond .ne 5, 3) := by decide +kernel
theorem dX1_readAgain_32 : decode cX1_readAgain 32 = .ok (.iconst 0, 1) := by decide +kernel
theorem dX1_readAgain_33 : decode cX1_readAgain 33 = .ok (.ireturn, 1) := by decide +kernel
theorem dX1_readAgain_34 : decode cX1_readAgain 34 = .ok (.aload_n 0, 1) := by decide +kernel
theorem dX1_readAgain_35 : decode cX1_readAgain 35 = .ok (.getfield 18, 3) := by decide +kernel
theorem dX1_readAgain_38 : decode cX1_readAgain 38 = .ok (.aload_n 0, 1) := by decide +kernel
theorem dX1_readAgain_39 : decode cX1_readAgain 39 = .ok (.getfield 75, 3) := by decide +kernel
theorem dX1_readAgain_42 : decode cX1_readAgain 42 = .ok (.putfield 207, 3) := by decide +kernel
theorem dX1_readAgain_45 : decode cX1_readAgain 45 = .ok (.aload_n 0, 1) := by decide +kernel
theorem dX1_readAgain_46 : decode cX1_readAgain 46 = .ok (.invokevirtual 149, 3) := by decide +kernel
theorem dX1_readAgain_49 : decode cX1_readAgain 49 = .ok (.ireturn, 1) := by decide +kernel
theorem dX1_readShop_0 : decode cX1_readShop 0 = .ok (.aload_n 0, 1) := by decide +kernel
theorem dX1_readShop_1 : decode cX1_readShop 1 = .ok (.getfield 53, 3) := by decide +kernel
theorem dX1_readShop_4 : decode cX1_readShop 4 = .ok (.ifCond .eq 13, 3) := by decide +kernel
theorem dX1_readShop_7 : decode cX1_readShop 7 = .ok (.aload_n 0, 1) := by decide +kernel
theorem dX1_readShop_8 : decode cX1_readShop 8 = .ok (.iconst 4, 1) := by decide +kernel
theorem dX1_readShop_9 : decode cX1_readShop 9 = .ok (.aload_n 0, 1) := by decide +kernel
theorem dX1_readShop_10 : decode cX1_readShop 10 = .ok (.getfield 72, 3) := by decide +kernel
theorem dX1_readShop_13 : decode cX1_readShop 13 = .ok (.invokevirtual 65, 3) := by decide +kernel
theorem dX1_readShop_16 : decode cX1_readShop 16 = .ok (.ireturn, 1) := by decide +kernel
theorem dX1_readShop_17 : decode cX1_readShop 17 = .ok (.aload_n 0, 1) := by decide +kernel
theorem dX1_readShop_18 : decode cX1_readShop 18 = .ok (.iconst 1, 1) := by decide +kernel
theorem dX1_readShop_19 : decode cX1_readShop 19 = .ok (.putfield 53, 3) := by decide +kernel
theorem dX1_readShop_22 : decode cX1_readShop 22 = .ok (.aload_n 0, 1) := by decide +kernel
theorem dX1_readShop_23 : decode cX1_readShop 23 = .ok (.getfield 18, 3) := by decide +kernel
theorem dX1_readShop_26 : decode cX1_readShop 26 = .ok (.iconst 0, 1) := by decide +kernel
theorem dX1_readShop_27 : decode cX1_readShop 27 = .ok (.putfield 210, 3) := by decide +kernel
theorem dX1_readShop_30 : decode cX1_readShop 30 = .ok (.iconst 0, 1) := by decide +kernel
theorem dX1_readShop_31 : decode cX1_readShop 31 = .ok (.istore_n 1, 1) := by decide +kernel
theorem dX1_readShop_32 : decode cX1_readShop 32 = .ok (.iconst 0, 1) := by decide +kernel
theorem dX1_readShop_33 : decode cX1_readShop 33 = .ok (.istore_n 2, 1) := by decide +kernel
theorem dX1_readShop_34 : decode cX1_readShop 34 = .ok (.iload_n 2, 1) := by decide +kernel
theorem dX1_readShop_35 : decode cX1_readShop 35 = .ok (.bipush 7, 2) := by decide +kernel
theorem dX1_readShop_37 : decode cX1_readShop 37 = .ok (.if_icmp .gt 83, 3) := by decide +kernel
theorem dX1_readShop_40 : decode cX1_readShop 40 = .ok (.aload_n 0, 1) := by decide +kernel
theorem dX1_readShop_41 : decode cX1_readShop 41 = .ok (.invokevirtual 29, 3) := by decide +kernel
theorem dX1_readShop_44 : decode cX1_readShop 44 = .ok (.ifCond .ne 5, 3) := by decide +kernel
theorem dX1_readShop_47 : decode cX1_readShop 47 = .ok (.iconst 0, 1) := by decide +kernel
theorem dX1_readShop_48 : decode cX1_readShop 48 = .ok (.ireturn, 1) := by decide +kernel
theorem dX1_readShop_49 : decode cX1_readShop 49 = .ok (.aload_n 0, 1) := by decide +kernel
theorem dX1_readShop_50 : decode cX1_readShop 50 = .ok (.getfield 33, 3) := by decide +kernel
theorem dX1_readShop_53 : decode cX1_readShop 53 = .ok (.iconst 2, 1) := by decide +kernel
theorem dX1_readShop_54 : decode cX1_readShop 54 = .ok (.if_icmp .eq 8, 3) := by decide +kernel
theorem dX1_readShop_57 : decode cX1_readShop 57 = .ok (.aload_n 0, 1) := by decide +kernel
theorem dX1_readShop_58 : decode cX1_readShop 58 = .ok (.invokevirtual 94, 3) := by decide +kernel
theorem dX1_readShop_61 : decode cX1_readShop 61 = .ok (.ireturn, 1) := by decide +kernel
theorem dX1_readShop_62 : decode cX1_readShop 62 = .ok (.aload_n 0, 1) := by decide +kernel
theorem dX1_readShop_63 : decode cX1_readShop 63 = .ok (.getfield 75, 3) := by decide +kernel
theorem dX1_readShop_66 : decode cX1_readShop 66 = .ok (.iload_n 1, 1) := by decide +kernel
theorem dX1_readShop_67 : decode cX1_readShop 67 = .ok (.if_icmp .lt 12, 3) := by decide +kernel
theorem dX1_readShop_70 : decode cX1_readShop 70 = .ok (.aload_n 0, 1) := by decide +kernel
theorem dX1_readShop_71 : decode cX1_readShop 71 = .ok (.getfield 75, 3) := by decide +kernel
theorem dX1_readShop_74 : decode cX1_readShop 74 = .ok (.bipush 7, 2) := by decide +kernel
theorem dX1_readShop_76 : decode cX1_readShop 76 = .ok (.if_icmp .lt 13, 3) := by decide +kernel
theorem dX1_readShop_79 : decode cX1_readShop 79 = .ok (.aload_n 0, 1) := by decide +kernel
theorem dX1_readShop_80 : decode cX1_readShop 80 = .ok (.iconst 3, 1) := by decide +kernel
theorem dX1_readShop_81 : decode cX1_readShop 81 = .ok (.aload_n 0, 1) := by decide +kernel
theorem dX1_readShop_82 : decode cX1_readShop 82 = .ok (.getfield 72, 3) := by decide +kernel
theorem dX1_readShop_85 : decode cX1_readShop 85 = .ok (.invokevirtual 65, 3) := by decide +kernel
theorem dX1_readShop_88 : decode cX1_readShop 88 = .ok (.ireturn, 1) := by decide +kernel
theorem dX1_readShop_89 : decode cX1_readShop 89 = .ok (.aload_n 0, 1) := by decide +kernel
theorem dX1_readShop_90 : decode cX1_readShop 90 = .ok (.getfield 18, 3) := by decide +kernel
theorem dX1_readShop_93 : decode cX1_readShop 93 = .ok (.dup, 1) := by decide +kernel
theorem dX1_readShop_94 : decode cX1_readShop 94 = .ok (.getfield 210, 3) := by decide +kernel
theorem dX1_readShop_97 : decode cX1_readShop 97 = .ok (.iconst 1, 1) := by decide +kernel
theorem dX1_readShop_98 : decode cX1_readShop 98 = .ok (.aload_n 0, 1) := by decide +kernel
theorem dX1_readShop_99 : decode cX1_readShop 99 = .ok (.getfield 75, 3) := by decide +kernel
theorem dX1_readShop_102 : decode cX1_readShop 102 = .ok (.ishl, 1) := by decide +kernel
theorem dX1_readShop_103 : decode cX1_readShop 103 = .ok (.ior, 1) := by decide +kernel
theorem dX1_readShop_104 : decode cX1_readShop 104 = .ok (.putfield 210, 3) := by decide +kernel
theorem dX1_readShop_107 : decode cX1_readShop 107 = .ok (.aload_n 0, 1) := by decide +kernel
theorem dX1_readShop_108 : decode cX1_readShop 108 = .ok (.getfield 75, 3) := by decide +kernel
theorem dX1_readShop_111 : decode cX1_readShop 111 = .ok (.iconst 1, 1) := by decide +kernel
theorem dX1_readShop_112 : decode cX1_readShop 112 = .ok (.iadd, 1) := by decide +kernel
theorem dX1_readShop_113 : decode cX1_readShop 113 = .ok (.istore_n 1, 1) := by decide +kernel
theorem dX1_readShop_114 : decode cX1_readShop 114 = .ok (.iinc 2 1, 3) := by decide +kernel
theorem dX1_readShop_117 : decode cX1_readShop 117 = .ok (.goto (-83), 3) := by decide +kernel
theorem dX1_readShop_120 : decode cX1_readShop 120 = .ok (.iconst 0, 1) := by decide +kernel
theorem dX1_readShop_121 : decode cX1_readShop 121 = .ok (.ireturn, 1) := by decide +kernel
theorem dX1_readOut_0 : decode cX1_readOut 0 = .ok (.aload_n 0, 1) := by decide +kernel
theorem dX1_readOut_1 : decode cX1_readOut 1 = .ok (.iconst 0, 1) := by decide +kernel
theorem dX1_readOut_2 : decode cX1_readOut 2 = .ok (.bipush 6, 2) := by decide +kernel
theorem dX1_readOut_4 : decode cX1_readOut 4 = .ok (.invokevirtual 137, 3) := by decide +kernel
theorem dX1_readOut_7 : decode cX1_readOut 7 = .ok (.ifCond .ne 5, 3) := by decide +kernel
theorem dX1_readOut_10 : decode cX1_readOut 10 = .ok (.iconst 0, 1) := by decide +kernel
theorem dX1_readOut_11 : decode cX1_readOut 11 = .ok (.ireturn, 1) := by decide +kernel
theorem dX1_readOut_12 : decode cX1_readOut 12 = .ok (.aload_n 0, 1) := by decide +kernel
theorem dX1_readOut_13 : decode cX1_readOut 13 = .ok (.getfield 18, 3) := by decide +kernel
theorem dX1_readOut_16 : decode cX1_readOut 16 = .ok (.aload_n 0, 1) := by decide +kernel
theorem dX1_readOut_17 : decode cX1_readOut 17 = .ok (.getfield 75, 3) := by decide +kernel
theorem dX1_readOut_20 : decode cX1_readOut 20 = .ok (.invokevirtual 213, 3) := by decide +kernel
theorem dX1_readOut_23 : decode cX1_readOut 23 = .ok (.ifCond .eq 13, 3) := by decide +kernel
theorem dX1_readOut_26 : decode cX1_readOut 26 = .ok (.aload_n 0, 1) := by decide +kernel
theorem dX1_readOut_27 : decode cX1_readOut 27 = .ok (.iconst 4, 1) := by decide +kernel
theorem dX1_readOut_28 : decode cX1_readOut 28 = .ok (.aload_n 0, 1) := by decide +kernel
theorem dX1_readOut_29 : decode cX1_readOut 29 = .ok (.getfield 72, 3) := by decide +kernel
theorem dX1_readOut_32 : decode cX1_readOut 32 = .ok (.invokevirtual 65, 3) := by decide +kernel
theorem dX1_readOut_35 : decode cX1_readOut 35 = .ok (.ireturn, 1) := by decide +kernel
theorem dX1_readOut_36 : decode cX1_readOut 36 = .ok (.aload_n 0, 1) := by decide +kernel
theorem dX1_readOut_37 : decode cX1_readOut 37 = .ok (.getfield 18, 3) := by decide +kernel
theorem dX1_readOut_40 : decode cX1_readOut 40 = .ok (.dup, 1) := by decide +kernel
theorem dX1_readOut_41 : decode cX1_readOut 41 = .ok (.getfield 216, 3) := by decide +kernel
theorem dX1_readOut_44 : decode cX1_readOut 44 = .ok (.iconst 1, 1) := by decide +kernel
theorem dX1_readOut_45 : decode cX1_readOut 45 = .ok (.aload_n 0, 1) := by decide +kernel
theorem dX1_readOut_46 : decode cX1_readOut 46 = .ok (.getfield 75, 3) := by decide +kernel
theorem dX1_readOut_49 : decode cX1_readOut 49 = .ok (.ishl, 1) := by decide +kernel
theorem dX1_readOut_50 : decode cX1_readOut 50 = .ok (.ior, 1) := by decide +kernel
theorem dX1_readOut_51 : decode cX1_readOut 51 = .ok (.putfield 216, 3) := by decide +kernel
theorem dX1_readOut_54 : decode cX1_readOut 54 = .ok (.aload_n 0, 1) := by decide +kernel
theorem dX1_readOut_55 : decode cX1_readOut 55 = .ok (.invokevirtual 149, 3) := by decide +kernel
theorem dX1_readOut_58 : decode cX1_readOut 58 = .ok (.ireturn, 1) := by decide +kernel
theorem dX1_readGuest_0 : decode cX1_readGuest 0 = .ok (.aload_n 0, 1) := by decide +kernel
theorem dX1_readGuest_1 : decode cX1_readGuest 1 = .ok (.iconst 0, 1) := by decide +kernel
theorem dX1_readGuest_2 : decode cX1_readGuest 2 = .ok (.bipush 6, 2) := by decide +kernel
theorem dX1_readGuest_4 : decode cX1_readGuest 4 = .ok (.invokevirtual 137, 3) := by decide +kernel
theorem dX1_readGuest_7 : decode cX1_readGuest 7 = .ok (.ifCond .ne 5, 3) := by decide +kernel
theorem dX1_readGuest_10 : decode cX1_readGuest 10 = .ok (.iconst 0, 1) := by decide +kernel
theorem dX1_readGuest_11 : decode cX1_readGuest 11 = .ok (.ireturn, 1) := by decide +kernel
theorem dX1_readGuest_12 : decode cX1_readGuest 12 = .ok (.aload_n 0, 1) := by decide +kernel
theorem dX1_readGuest_13 : decode cX1_readGuest 13 = .ok (.getfield 75, 3) := by decide +kernel
theorem dX1_readGuest_16 : decode cX1_readGuest 16 = .ok (.istore_n 1, 1) := by decide +kernel
theorem dX1_readGuest_17 : decode cX1_readGuest 17 = .ok (.aload_n 0, 1) := by decide +kernel
theorem dX1_readGuest_18 : decode cX1_readGuest 18 = .ok (.getfield 18, 3) := by decide +kernel
theorem dX1_readGuest_21 : decode cX1_readGuest 21 = .ok (.getfield 219, 3) := by decide +kernel
theorem dX1_readGuest_24 : decode cX1_readGuest 24 = .ok (.iload_n 1, 1) := by decide +kernel
theorem dX1_readGuest_25 : decode cX1_readGuest 25 = .ok (.iaload, 1) := by decide +kernel
theorem dX1_readGuest_26 : decode cX1_readGuest 26 = .ok (.ifCond .eq 13, 3) := by decide +kernel
theorem dX1_readGuest_29 : decode cX1_readGuest 29 = .ok (.aload_n 0, 1) := by decide +kernel
theorem dX1_readGuest_30 : decode cX1_readGuest 30 = .ok (.iconst 4, 1) := by decide +kernel
theorem dX1_readGuest_31 : decode cX1_readGuest 31 = .ok (.aload_n 0, 1) := by decide +kernel
theorem dX1_readGuest_32 : decode cX1_readGuest 32 = .ok (.getfield 72, 3) := by decide +kernel
theorem dX1_readGuest_35 : decode cX1_readGuest 35 = .ok (.invokevirtual 65, 3) := by decide +kernel
theorem dX1_readGuest_38 : decode cX1_readGuest 38 = .ok (.ireturn, 1) := by decide +kernel
theorem dX1_readGuest_39 : decode cX1_readGuest 39 = .ok (.aload_n 0, 1) := by decide +kernel
theorem dX1_readGuest_40 : decode cX1_readGuest 40 = .ok (.iconst 1, 1) := by decide +kernel
theorem dX1_readGuest_41 : decode cX1_readGuest 41 = .ok (.iconst 4, 1) := by decide +kernel
theorem dX1_readGuest_42 : decode cX1_readGuest 42 = .ok (.invokevirtual 137, 3) := by decide +kernel
theorem dX1_readGuest_45 : decode cX1_readGuest 45 = .ok (.ifCond .ne 5, 3) := by decide +kernel
theorem dX1_readGuest_48 : decode cX1_readGuest 48 = .ok (.iconst 0, 1) := by decide +kernel
theorem dX1_readGuest_49 : decode cX1_readGuest 49 = .ok (.ireturn, 1) := by decide +kernel
theorem dX1_readGuest_50 : decode cX1_readGuest 50 = .ok (.aload_n 0, 1) := by decide +kernel
theorem dX1_readGuest_51 : decode cX1_readGuest 51 = .ok (.getfield 18, 3) := by decide +kernel
theorem dX1_readGuest_54 : decode cX1_readGuest 54 = .ok (.getfield 219, 3) := by decide +kernel
theorem dX1_readGuest_57 : decode cX1_readGuest 57 = .ok (.iload_n 1, 1) := by decide +kernel
theorem dX1_readGuest_58 : decode cX1_readGuest 58 = .ok (.aload_n 0, 1) := by decide +kernel
theorem dX1_readGuest_59 : decode cX1_readGuest 59 = .ok (.getfield 75, 3) := by decide +kernel
theorem dX1_readGuest_62 : decode cX1_readGuest 62 = .ok (.iastore, 1) := by decide +kernel
theorem dX1_readGuest_63 : decode cX1_readGuest 63 = .ok (.aload_n 0, 1) := by decide +kernel
theorem dX1_readGuest_64 : decode cX1_readGuest 64 = .ok (.invokevirtual 149, 3) := by decide +kernel
theorem dX1_readGuest_67 : decode cX1_readGuest 67 = .ok (.ireturn, 1) := by decide +kernel
theorem dX2_init_0 : decode cX2_init 0 = .ok (.aload_n 0, 1) := by decide +kernel
theorem dX2_init_1 : decode cX2_init 1 = .ok (.invokespecial 3, 3) := by decide +kernel
theorem dX2_init_4 : decode cX2_init 4 = .ok (.aload_n 0, 1) := by decide +kernel
theorem dX2_init_5 : decode cX2_init 5 = .ok (.bipush 6, 2) := by decide +kernel
theorem dX2_init_7 : decode cX2_init 7 = .ok (.newarray .int, 2) := by decide +kernel
theorem dX2_init_9 : decode cX2_init 9 = .ok (.putfield 9, 3) := by decide +kernel
theorem dX2_init_12 : decode cX2_init 12 = .ok (.aload_n 0, 1) := by decide +kernel
theorem dX2_init_13 : decode cX2_init 13 = .ok (.bipush 6, 2) := by decide +kernel
theorem dX2_init_15 : decode cX2_init 15 = .ok (.newarray .int, 2) := by decide +kernel
theorem dX2_init_17 : decode cX2_init 17 = .ok (.putfield 15, 3) := by decide +kernel
theorem dX2_init_20 : decode cX2_init 20 = .ok (.aload_n 0, 1) := by decide +kernel
theorem dX2_init_21 : decode cX2_init 21 = .ok (.bipush 6, 2) := by decide +kernel
theorem dX2_init_23 : decode cX2_init 23 = .ok (.newarray .int, 2) := by decide +kernel
theorem dX2_init_25 : decode cX2_init 25 = .ok (.putfield 18, 3) := by decide +kernel
theorem dX2_init_28 : decode cX2_init 28 = .ok (.aload_n 0, 1) := by decide +kernel
theorem dX2_init_29 : decode cX2_init 29 = .ok (.bipush 9, 2) := by decide +kernel
theorem dX2_init_31 : decode cX2_init 31 = .ok (.newarray .int, 2) := by decide +kernel
theorem dX2_init_33 : decode cX2_init 33 = .ok (.putfield 21, 3) := by decide +kernel
theorem dX2_init_36 : decode cX2_init 36 = .ok (.aload_n 0, 1) := by decide +kernel
theorem dX2_init_37 : decode cX2_init 37 = .ok (.bipush 9, 2) := by decide +kernel
theorem dX2_init_39 : decode cX2_init 39 = .ok (.newarray .int, 2) := by decide +kernel
theorem dX2_init_41 : decode cX2_init 41 = .ok (.putfield 24, 3) := by decide +kernel
theorem dX2_init_44 : decode cX2_init 44 = .ok (.aload_n 0, 1) := by decide +kernel
theorem dX2_init_45 : decode cX2_init 45 = .ok (.bipush 9, 2) := by decide +kernel
theorem dX2_init_47 : decode cX2_init 47 = .ok (.newarray .int, 2) := by decide +kernel
theorem dX2_init_49 : decode cX2_init 49 = .ok (.putfield 27, 3) := by decide +kernel
theorem dX2_init_52 : decode cX2_init 52 = .ok (.aload_n 0, 1) := by decide +kernel
theorem dX2_init_53 : decode cX2_init 53 = .ok (.bipush 9, 2) := by decide +kernel
theorem dX2_init_55 : decode cX2_init 55 = .ok (.newarray .int, 2) := by decide +kernel
theorem dX2_init_57 : decode cX2_init 57 = .ok (.putfield 30, 3) := by decide +kernel
theorem dX2_init_60 : decode cX2_init 60 = .ok (.aload_n 0, 1) := by decide +kernel
theorem dX2_init_61 : decode cX2_init 61 = .ok (.bipush 9, 2) := by decide +kernel
theorem dX2_init_63 : decode cX2_init 63 = .ok (.newarray .int, 2) := by decide +kernel
theorem dX2_init_65 : decode cX2_init 65 = .ok (.putfield 33, 3) := by decide +kernel
theorem dX2_init_68 : decode cX2_init 68 = .ok (.aload_n 0, 1) := by decide +kernel
theorem dX2_init_69 : decode cX2_init 69 = .ok (.bipush 54, 2) := by decide +kernel
theorem dX2_init_71 : decode cX2_init 71 = .ok (.newarray .int, 2) := by decide +kernel
theorem dX2_init_73 : decode cX2_init 73 = .ok (.putfield 36, 3) := by decide +kernel
theorem dX2_init_76 : decode cX2_init 76 = .ok (.aload_n 0, 1) := by decide +kernel
theorem dX2_init_77 : decode cX2_init 77 = .ok (.bipush 54, 2) := by decide +kernel
theorem dX2_init_79 : decode cX2_init 79 = .ok (.newarray .int, 2) := by decide +kernel
theorem dX2_init_81 : decode cX2_init 81 = .ok (.putfield 39, 3) := by decide +kernel
theorem dX2_init_84 : decode cX2_init 84 = .ok (.aload_n 0, 1) := by decide +kernel
theorem dX2_init_85 : decode cX2_init 85 = .ok (.bipush 7, 2) := by decide +kernel
theorem dX2_init_87 : decode cX2_init 87 = .ok (.newarray .int, 2) := by decide +kernel
theorem dX2_init_89 : decode cX2_init 89 = .ok (.putfield 42, 3) := by decide +kernel
theorem dX2_init_92 : decode cX2_init 92 = .ok (.aload_n 0, 1) := by decide +kernel
theorem dX2_init_93 : decode cX2_init 93 = .ok (.invokevirtual 45, 3) := by decide +kernel
theorem dX2_init_96 : decode cX2_init 96 = .ok (.return_, 1) := by decide +kernel
theorem dX2_reset_0 : decode cX2_reset 0 = .ok (.aload_n 0, 1) := by decide +kernel
theorem dX2_reset_1 : decode cX2_reset 1 = .ok (.iconst 0, 1) := by decide +kernel
theorem dX2_reset_2 : decode cX2_reset 2 = .ok (.putfield 48, 3) := by decide +kernel
theorem dX2_reset_5 : decode cX2_reset 5 = .ok (.aload_n 0, 1) := by decide +kernel
theorem dX2_reset_6 : decode cX2_reset 6 = .ok (.iconst 0, 1) := by decide +kernel
theorem dX2_reset_7 : decode cX2_reset 7 = .ok (.putfield 52, 3) := by decide +kernel
theorem dX2_reset_10 : decode cX2_reset 10 = .ok (.iconst 0, 1) := by decide +kernel
theorem dX2_reset_11 : decode cX2_reset 11 = .ok (.istore_n 1, 1) := by decide +kernel
theorem dX2_reset_12 : decode cX2_reset 12 = .ok (.iload_n 1, 1) := by decide +kernel
theorem dX2_reset_13 : decode cX2_reset 13 = .ok (.bipush 8, 2) := by decide +kernel
theorem dX2_reset_15 : decode cX2_reset 15 = .ok (.if_icmp .gt 14, 3) := by decide +kernel
theorem dX2_reset_18 : decode cX2_reset 18 = .ok (.aload_n 0, 1) := by decide +kernel
theorem dX2_reset_19 : decode cX2_reset 19 = .ok (.iload_n 1, 1) := by decide +kernel
theorem dX2_reset_20 : decode cX2_reset 20 = .ok (.invokevirtual 55, 3) := by decide +kernel
theorem dX2_reset_23 : decode cX2_reset 23 = .ok (.iinc 1 1, 3) := by decide +kernel
theorem dX2_reset_26 : decode cX2_reset 26 = .ok (.goto (-14), 3) := by decide +kernel
theorem dX2_reset_29 : decode cX2_reset 29 = .ok (.aload_n 0, 1) := by decide +kernel
theorem dX2_reset_30 : decode cX2_reset 30 = .ok (.iconst 0, 1) := by decide +kernel
theorem dX2_reset_31 : decode cX2_reset 31 = .ok (.putfield 59, 3) := by decide +kernel
theorem dX2_reset_34 : decode cX2_reset 34 = .ok (.aload_n 0, 1) := by decide +kernel
theorem dX2_reset_35 : decode cX2_reset 35 = .ok (.bipush 127, 2) := by decide +kernel
theorem dX2_reset_37 : decode cX2_reset 37 = .ok (.putfield 62, 3) := by decide +kernel
theorem dX2_reset_40 : decode cX2_reset 40 = .ok (.aload_n 0, 1) := by decide +kernel
theorem dX2_reset_41 : decode cX2_reset 41 = .ok (.iconst 0, 1) := by decide +kernel
theorem dX2_reset_42 : decode cX2_reset 42 = .ok (.putfield 65, 3) := by decide +kernel
theorem dX2_reset_45 : decode cX2_reset 45 = .ok (.iconst 0, 1) := by decide +kernel
theorem dX2_reset_46 : decode cX2_reset 46 = .ok (.istore_n 1, 1) := by decide +kernel
theorem dX2_reset_47 : decode cX2_reset 47 = .ok (.iload_n 1, 1) := by decide +kernel
theorem dX2_reset_48 : decode cX2_reset 48 = .ok (.bipush 7, 2) := by decide +kernel
theorem dX2_reset_50 : decode cX2_reset 50 = .ok (.if_icmp .ge 16, 3) := by decide +kernel
theorem dX2_reset_53 : decode cX2_reset 53 = .ok (.aload_n 0, 1) := by decide +kernel
theorem dX2_reset_54 : decode cX2_reset 54 = .ok (.getfield 42, 3) := by decide +kernel
theorem dX2_reset_57 : decode cX2_reset 57 = .ok (.iload_n 1, 1) := by decide +kernel
theorem dX2_reset_58 : decode cX2_reset 58 = .ok (.iconst 0, 1) := by decide +kernel
theorem dX2_reset_59 : decode cX2_reset 59 = .ok (.iastore, 1) := by decide +kernel
theorem dX2_reset_60 : decode cX2_reset 60 = .ok (.iinc 1 1, 3) := by decide +kernel
theorem dX2_reset_63 : decode cX2_reset 63 = .ok (.goto (-16), 3) := by decide +kernel
theorem dX2_reset_66 : decode cX2_reset 66 = .ok (.return_, 1) := by decide +kernel
theorem dX2_resetSupper_0 : decode cX2_resetSupper 0 = .ok (.aload_n 0, 1) := by decide +kernel
theorem dX2_resetSupper_1 : decode cX2_resetSupper 1 = .ok (.getfield 21, 3) := by decide +kernel
theorem dX2_resetSupper_4 : decode cX2_resetSupper 4 = .ok (.iload_n 1, 1) := by decide +kernel
theorem dX2_resetSupper_5 : decode cX2_resetSupper 5 = .ok (.iconst 0, 1) := by decide +kernel
theorem dX2_resetSupper_6 : decode cX2_resetSupper 6 = .ok (.iastore, 1) := by decide +kernel
theorem dX2_resetSupper_7 : decode cX2_resetSupper 7 = .ok (.aload_n 0, 1) := by decide +kernel
theorem dX2_resetSupper_8 : decode cX2_resetSupper 8 = .ok (.getfield 24, 3) := by decide +kernel
theorem dX2_resetSupper_11 : decode cX2_resetSupper 11 = .ok (.iload_n 1, 1) := by decide +kernel
theorem dX2_resetSupper_12 : decode cX2_resetSupper 12 = .ok (.iconst 0, 1) := by decide +kernel
theorem dX2_resetSupper_13 : decode cX2_resetSupper 13 = .ok (.iastore, 1) := by decide +kernel
theorem dX2_resetSupper_14 : decode cX2_resetSupper 14 = .ok (.aload_n 0, 1) := by decide +kernel
theorem dX2_resetSupper_15 : decode cX2_resetSupper 15 = .ok (.getfield 27, 3) := by decide +kernel
theorem dX2_resetSupper_18 : decode cX2_resetSupper 18 = .ok (.iload_n 1, 1) := by decide +kernel
theorem dX2_resetSupper_19 : decode cX2_resetSupper 19 = .ok (.iconst 0, 1) := by decide +kernel
theorem dX2_resetSupper_20 : decode cX2_resetSupper 20 = .ok (.iastore, 1) := by decide +kernel
theorem dX2_resetSupper_21 : decode cX2_resetSupper 21 = .ok (.aload_n 0, 1) := by decide +kernel
theorem dX2_resetSupper_22 : decode cX2_resetSupper 22 = .ok (.getfield 30, 3) := by decide +kernel
theorem dX2_resetSupper_25 : decode cX2_resetSupper 25 = .ok (.iload_n 1, 1) := by decide +kernel
theorem dX2_resetSupper_26 : decode cX2_resetSupper 26 = .ok (.iconst 0, 1) := by decide +kernel
theorem dX2_resetSupper_27 : decode cX2_resetSupper 27 = .ok (.iastore, 1) := by decide +kernel
theorem dX2_resetSupper_28 : decode cX2_resetSupper 28 = .ok (.aload_n 0, 1) := by decide +kernel
theorem dX2_resetSupper_29 : decode cX2_resetSupper 29 = .ok (.getfield 33, 3) := by decide +kernel
theorem dX2_resetSupper_32 : decode cX2_resetSupper 32 = .ok (.iload_n 1, 1) := by decide +kernel
theorem dX2_resetSupper_33 : decode cX2_resetSupper 33 = .ok (.iconst 0, 1) := by decide +kernel
theorem dX2_resetSupper_34 : decode cX2_resetSupper 34 = .ok (.iastore, 1) := by decide +kernel
theorem dX2_resetSupper_35 : decode cX2_resetSupper 35 = .ok (.iconst 0, 1) := by decide +kernel
theorem dX2_resetSupper_36 : decode cX2_resetSupper 36 = .ok (.istore_n 2, 1) := by decide +kernel
theorem dX2_resetSupper_37 : decode cX2_resetSupper 37 = .ok (.iload_n 2, 1) := by decide +kernel
theorem dX2_resetSupper_38 : decode cX2_resetSupper 38 = .ok (.bipush 6, 2) := by decide +kernel
theorem dX2_resetSupper_40 : decode cX2_resetSupper 40 = .ok (.if_icmp .ge 33, 3) := by decide +kernel
theorem dX2_resetSupper_43 : decode cX2_resetSupper 43 = .ok (.aload_n 0, 1) := by decide +kernel
theorem dX2_resetSupper_44 : decode cX2_resetSupper 44 = .ok (.getfield 36, 3) := by decide +kernel
theorem dX2_resetSupper_47 : decode cX2_resetSupper 47 = .ok (.iload_n 1, 1) := by decide +kernel
theorem dX2_resetSupper_48 : decode cX2_resetSupper 48 = .ok (.bipush 6, 2) := by decide +kernel
theorem dX2_resetSupper_50 : decode cX2_resetSupper 50 = .ok (.imul, 1) := by decide +kernel
theorem dX2_resetSupper_51 : decode cX2_resetSupper 51 = .ok (.iload_n 2, 1) := by decide +kernel
theorem dX2_resetSupper_52 : decode cX2_resetSupper 52 = .ok (.iadd, 1) := by decide +kernel
theorem dX2_resetSupper_53 : decode cX2_resetSupper 53 = .ok (.iconst 0, 1) := by decide +kernel
theorem dX2_resetSupper_54 : decode cX2_resetSupper 54 = .ok (.iastore, 1) := by decide +kernel
theorem dX2_resetSupper_55 : decode cX2_resetSupper 55 = .ok (.aload_n 0, 1) := by decide +kernel
theorem dX2_resetSupper_56 : decode cX2_resetSupper 56 = .ok (.getfield 39, 3) := by decide +kernel
theorem dX2_resetSupper_59 : decode cX2_resetSupper 59 = .ok (.iload_n 1, 1) := by decide +kernel
theorem dX2_resetSupper_60 : decode cX2_resetSupper 60 = .ok (.bipush 6, 2) := by decide +kernel
theorem dX2_resetSupper_62 : decode cX2_resetSupper 62 = .ok (.imul, 1) := by decide +kernel
theorem dX2_resetSupper_63 : decode cX2_resetSupper 63 = .ok (.iload_n 2, 1) := by decide +kernel
theorem dX2_resetSupper_64 : decode cX2_resetSupper 64 = .ok (.iadd, 1) := by decide +kernel
theorem dX2_resetSupper_65 : decode cX2_resetSupper 65 = .ok (.iconst 0, 1) := by decide +kernel
theorem dX2_resetSupper_66 : decode cX2_resetSupper 66 = .ok (.iastore, 1) := by decide +kernel
theorem dX2_resetSupper_67 : decode cX2_resetSupper 67 = .ok (.iinc 2 1, 3) := by decide +kernel
theorem dX2_resetSupper_70 : decode cX2_resetSupper 70 = .ok (.goto (-33), 3) := by decide +kernel
theorem dX2_resetSupper_73 : decode cX2_resetSupper 73 = .ok (.return_, 1) := by decide +kernel
theorem dX2_copyFrom_0 : decode cX2_copyFrom 0 = .ok (.aload_n 0, 1) := by decide +kernel
theorem dX2_copyFrom_1 : decode cX2_copyFrom 1 = .ok (.aload_n 1, 1) := by decide +kernel
theorem dX2_copyFrom_2 : decode cX2_copyFrom 2 = .ok (.getfield 48, 3) := by decide +kernel
theorem dX2_copyFrom_5 : decode cX2_copyFrom 5 = .ok (.putfield 48, 3) := by decide +kernel
theorem dX2_copyFrom_8 : decode cX2_copyFrom 8 = .ok (.aload_n 1, 1) := by decide +kernel
theorem dX2_copyFrom_9 : decode cX2_copyFrom 9 = .ok (.getfield 9, 3) := by decide +kernel
theorem dX2_copyFrom_12 : decode cX2_copyFrom 12 = .ok (.iconst 0, 1) := by decide +kernel
theorem dX2_copyFrom_13 : decode cX2_copyFrom 13 = .ok (.aload_n 0, 1) := by decide +kernel
theorem dX2_copyFrom_14 : decode cX2_copyFrom 14 = .ok (.getfield 9, 3) := by decide +kernel
theorem dX2_copyFrom_17 : decode cX2_copyFrom 17 = .ok (.iconst 0, 1) := by decide +kernel
theorem dX2_copyFrom_18 : decode cX2_copyFrom 18 = .ok (.bipush 6, 2) := by decide +kernel
theorem dX2_copyFrom_20 : decode cX2_copyFrom 20 = .ok (.invokestatic 68, 3) := by decide +kernel
theorem dX2_copyFrom_23 : decode cX2_copyFrom 23 = .ok (.aload_n 1, 1) := by decide +kernel
theorem dX2_copyFrom_24 : decode cX2_copyFrom 24 = .ok (.getfield 15, 3) := by decide +kernel
theorem dX2_copyFrom_27 : decode cX2_copyFrom 27 = .ok (.iconst 0, 1) := by decide +kernel
theorem dX2_copyFrom_28 : decode cX2_copyFrom 28 = .ok (.aload_n 0, 1) := by decide +kernel
theorem dX2_copyFrom_29 : decode cX2_copyFrom 29 = .ok (.getfield 15, 3) := by decide +kernel
theorem dX2_copyFrom_32 : decode cX2_copyFrom 32 = .ok (.iconst 0, 1) := by decide +kernel
theorem dX2_copyFrom_33 : decode cX2_copyFrom 33 = .ok (.bipush 6, 2) := by decide +kernel
theorem dX2_copyFrom_35 : decode cX2_copyFrom 35 = .ok (.invokestatic 68, 3) := by decide +kernel
theorem dX2_copyFrom_38 : decode cX2_copyFrom 38 = .ok (.aload_n 1, 1) := by decide +kernel
theorem dX2_copyFrom_39 : decode cX2_copyFrom 39 = .ok (.getfield 18, 3) := by decide +kernel
theorem dX2_copyFrom_42 : decode cX2_copyFrom 42 = .ok (.iconst 0, 1) := by decide +kernel
theorem dX2_copyFrom_43 : decode cX2_copyFrom 43 = .ok (.aload_n 0, 1) := by decide +kernel
theorem dX2_copyFrom_44 : decode cX2_copyFrom 44 = .ok (.getfield 18, 3) := by decide +kernel
theorem dX2_copyFrom_47 : decode cX2_copyFrom 47 = .ok (.iconst 0, 1) := by decide +kernel
theorem dX2_copyFrom_48 : decode cX2_copyFrom 48 = .ok (.bipush 6, 2) := by decide +kernel
theorem dX2_copyFrom_50 : decode cX2_copyFrom 50 = .ok (.invokestatic 68, 3) := by decide +kernel
theorem dX2_copyFrom_53 : decode cX2_copyFrom 53 = .ok (.aload_n 0, 1) := by decide +kernel
theorem dX2_copyFrom_54 : decode cX2_copyFrom 54 = .ok (.aload_n 1, 1) := by decide +kernel
theorem dX2_copyFrom_55 : decode cX2_copyFrom 55 = .ok (.getfield 52, 3) := by decide +kernel
theorem dX2_copyFrom_58 : decode cX2_copyFrom 58 = .ok (.putfield 52, 3) := by decide +kernel
theorem dX2_copyFrom_61 : decode cX2_copyFrom 61 = .ok (.aload_n 1, 1) := by decide +kernel
theorem dX2_copyFrom_62 : decode cX2_copyFrom 62 = .ok (.getfield 21, 3) := by decide +kernel
theorem dX2_copyFrom_65 : decode cX2_copyFrom 65 = .ok (.iconst 0, 1) := by decide +kernel
theorem dX2_copyFrom_66 : decode cX2_copyFrom 66 = .ok (.aload_n 0, 1) := by decide +kernel
theorem dX2_copyFrom_67 : decode cX2_copyFrom 67 = .ok (.getfield 21, 3) := by decide +kernel
theorem dX2_copyFrom_70 : decode cX2_copyFrom 70 = .ok (.iconst 0, 1) := by decide +kernel
theorem dX2_copyFrom_71 : decode cX2_copyFrom 71 = .ok (.bipush 9, 2) := by decide +kernel
theorem dX2_copyFrom_73 : decode cX2_copyFrom 73 = .ok (.invokestatic 68, 3) := by decide +kernel
theorem dX2_copyFrom_76 : decode cX2_copyFrom 76 = .ok (.aload_n 1, 1) := by decide +kernel
theorem dX2_copyFrom_77 : decode cX2_copyFrom 77 = .ok (.getfield 24, 3) := by decide +kernel
theorem dX2_copyFrom_80 : decode cX2_copyFrom 80 = .ok (.iconst 0, 1) := by decide +kernel
theorem dX2_copyFrom_81 : decode cX2_copyFrom 81 = .ok (.aload_n 0, 1) := by decide +kernel
theorem dX2_copyFrom_82 : decode cX2_copyFrom 82 = .ok (.getfield 24, 3) := by decide +kernel
theorem dX2_copyFrom_85 : decode cX2_copyFrom 85 = .ok (.iconst 0, 1) := by decide +kernel
theorem dX2_copyFrom_86 : decode cX2_copyFrom 86 = .ok (.bipush 9, 2) := by decide +kernel
theorem dX2_copyFrom_88 : decode cX2_copyFrom 88 = .ok (.invokestatic 68, 3) := by decide +kernel
theorem dX2_copyFrom_91 : decode cX2_copyFrom 91 = .ok (.aload_n 1, 1) := by decide +kernel
theorem dX2_copyFrom_92 : decode cX2_copyFrom 92 = .ok (.getfield 27, 3) := by decide +kernel
theorem dX2_copyFrom_95 : decode cX2_copyFrom 95 = .ok (.iconst 0, 1) := by decide +kernel
theorem dX2_copyFrom_96 : decode cX2_copyFrom 96 = .ok (.aload_n 0, 1) := by decide +kernel
theorem dX2_copyFrom_97 : decode cX2_copyFrom 97 = .ok (.getfield 27, 3) := by decide +kernel
theorem dX2_copyFrom_100 : decode cX2_copyFrom 100 = .ok (.iconst 0, 1) := by decide +kernel
theorem dX2_copyFrom_101 : decode cX2_copyFrom 101 = .ok (.bipush 9, 2) := by decide +kernel
theorem dX2_copyFrom_103 : decode cX2_copyFrom 103 = .ok (.invokestatic 68, 3) := by decide +kernel
theorem dX2_copyFrom_106 : decode cX2_copyFrom 106 = .ok (.aload_n 1, 1) := by decide +kernel
theorem dX2_copyFrom_107 : decode cX2_copyFrom 107 = .ok (.getfield 30, 3) := by decide +kernel
theorem dX2_copyFrom_110 : decode cX2_copyFrom 110 = .ok (.iconst 0, 1) := by decide +kernel
theorem dX2_copyFrom_111 : decode cX2_copyFrom 111 = .ok (.aload_n 0, 1) := by decide +kernel
theorem dX2_copyFrom_112 : decode cX2_copyFrom 112 = .ok (.getfield 30, 3) := by decide +kernel
theorem dX2_copyFrom_115 : decode cX2_copyFrom 115 = .ok (.iconst 0, 1) := by decide +kernel
theorem dX2_copyFrom_116 : decode cX2_copyFrom 116 = .ok (.bipush 9, 2) := by decide +kernel
theorem dX2_copyFrom_118 : decode cX2_copyFrom 118 = .ok (.invokestatic 68, 3) := by decide +kernel
theorem dX2_copyFrom_121 : decode cX2_copyFrom 121 = .ok (.aload_n 1, 1) := by decide +kernel
theorem dX2_copyFrom_122 : decode cX2_copyFrom 122 = .ok (.getfield 33, 3) := by decide +kernel
theorem dX2_copyFrom_125 : decode cX2_copyFrom 125 = .ok (.iconst 0, 1) := by decide +kernel
theorem dX2_copyFrom_126 : decode cX2_copyFrom 126 = .ok (.aload_n 0, 1) := by decide +kernel
theorem dX2_copyFrom_127 : decode cX2_copyFrom 127 = .ok (.getfield 33, 3) := by decide +kernel
theorem dX2_copyFrom_130 : decode cX2_copyFrom 130 = .ok (.iconst 0, 1) := by decide +kernel
theorem dX2_copyFrom_131 : decode cX2_copyFrom 131 = .ok (.bipush 9, 2) := by decide +kernel
theorem dX2_copyFrom_133 : decode cX2_copyFrom 133 = .ok (.invokestatic 68, 3) := by decide +kernel
theorem dX2_copyFrom_136 : decode cX2_copyFrom 136 = .ok (.aload_n 1, 1) := by decide +kernel
theorem dX2_copyFrom_137 : decode cX2_copyFrom 137 = .ok (.getfield 36, 3) := by decide +kernel
theorem dX2_copyFrom_140 : decode cX2_copyFrom 140 = .ok (.iconst 0, 1) := by decide +kernel
theorem dX2_copyFrom_141 : decode cX2_copyFrom 141 = .ok (.aload_n 0, 1) := by decide +kernel
theorem dX2_copyFrom_142 : decode cX2_copyFrom 142 = .ok (.getfield 36, 3) := by decide +kernel
theorem dX2_copyFrom_145 : decode cX2_copyFrom 145 = .ok (.iconst 0, 1) := by decide +kernel
theorem dX2_copyFrom_146 : decode cX2_copyFrom 146 = .ok (.bipush 54, 2) := by decide +kernel
theorem dX2_copyFrom_148 : decode cX2_copyFrom 148 = .ok (.invokestatic 68, 3) := by decide +kernel
theorem dX2_copyFrom_151 : decode cX2_copyFrom 151 = .ok (.aload_n 1, 1) := by decide +kernel
theorem dX2_copyFrom_152 : decode cX2_copyFrom 152 = .ok (.getfield 39, 3) := by decide +kernel
theorem dX2_copyFrom_155 : decode cX2_copyFrom 155 = .ok (.iconst 0, 1) := by decide +kernel
theorem dX2_copyFrom_156 : decode cX2_copyFrom 156 = .ok (.aload_n 0, 1) := by decide +kernel
theorem dX2_copyFrom_157 : decode cX2_copyFrom 157 = .ok (.getfield 39, 3) := by decide +kernel
theorem dX2_copyFrom_160 : decode cX2_copyFrom 160 = .ok (.iconst 0, 1) := by decide +kernel
theorem dX2_copyFrom_161 : decode cX2_copyFrom 161 = .ok (.bipush 54, 2) := by decide +kernel
theorem dX2_copyFrom_163 : decode cX2_copyFrom 163 = .ok (.invokestatic 68, 3) := by decide +kernel
theorem dX2_copyFrom_166 : decode cX2_copyFrom 166 = .ok (.aload_n 0, 1) := by decide +kernel
theorem dX2_copyFrom_167 : decode cX2_copyFrom 167 = .ok (.aload_n 1, 1) := by decide +kernel
theorem dX2_copyFrom_168 : decode cX2_copyFrom 168 = .ok (.getfield 59, 3) := by decide +kernel
theorem dX2_copyFrom_171 : decode cX2_copyFrom 171 = .ok (.putfield 59, 3) := by decide +kernel
theorem dX2_copyFrom_174 : decode cX2_copyFrom 174 = .ok (.aload_n 0, 1) := by decide +kernel
theorem dX2_copyFrom_175 : decode cX2_copyFrom 175 = .ok (.aload_n 1, 1) := by decide +kernel
theorem dX2_copyFrom_176 : decode cX2_copyFrom 176 = .ok (.getfield 62, 3) := by decide +kernel
theorem dX2_copyFrom_179 : decode cX2_copyFrom 179 = .ok (.putfield 62, 3) := by decide +kernel
theorem dX2_copyFrom_182 : decode cX2_copyFrom 182 = .ok (.aload_n 0, 1) := by decide +kernel
theorem dX2_copyFrom_183 : decode cX2_copyFrom 183 = .ok (.aload_n 1, 1) := by decide +kernel
theorem dX2_copyFrom_184 : decode cX2_copyFrom 184 = .ok (.getfield 65, 3) := by decide +kernel
theorem dX2_copyFrom_187 : decode cX2_copyFrom 187 = .ok (.putfield 65, 3) := by decide +kernel
theorem dX2_copyFrom_190 : decode cX2_copyFrom 190 = .ok (.aload_n 1, 1) := by decide +kernel
theorem dX2_copyFrom_191 : decode cX2_copyFrom 191 = .ok (.getfield 42, 3) := by decide +kernel
theorem dX2_copyFrom_194 : decode cX2_copyFrom 194 = .ok (.iconst 0, 1) := by decide +kernel
theorem dX2_copyFrom_195 : decode cX2_copyFrom 195 = .ok (.aload_n 0, 1) := by decide +kernel
theorem dX2_copyFrom_196 : decode cX2_copyFrom 196 = .ok (.getfield 42, 3) := by decide +kernel
theorem dX2_copyFrom_199 : decode cX2_copyFrom 199 = .ok (.iconst 0, 1) := by decide +kernel
theorem dX2_copyFrom_200 : decode cX2_copyFrom 200 = .ok (.bipush 7, 2) := by decide +kernel
theorem dX2_copyFrom_202 : decode cX2_copyFrom 202 = .ok (.invokestatic 68, 3) := by decide +kernel
theorem dX2_copyFrom_205 : decode cX2_copyFrom 205 = .ok (.return_, 1) := by decide +kernel
theorem dX2_copyWithSmallDish_0 : decode cX2_copyWithSmallDish 0 = .ok (.aload_n 0, 1) := by decide +kernel
theorem dX2_copyWithSmallDish_1 : decode cX2_copyWithSmallDish 1 = .ok (.aload_n 1, 1) := by decide +kernel
theorem dX2_copyWithSmallDish_2 : decode cX2_copyWithSmallDish 2 = .ok (.invokevirtual 74, 3) := by decide +kernel
theorem dX2_copyWithSmallDish_5 : decode cX2_copyWithSmallDish 5 = .ok (.aload_n 0, 1) := by decide +kernel
theorem dX2_copyWithSmallDish_6 : decode cX2_copyWithSmallDish 6 = .ok (.getfield 52, 3) := by decide +kernel
theorem dX2_copyWithSmallDish_9 : decode cX2_copyWithSmallDish 9 = .ok (.bipush 8, 2) := by decide +kernel
theorem dX2_copyWithSmallDish_11 : decode cX2_copyWithSmallDish 11 = .ok (.if_icmp .le 4, 3) := by decide +kernel
theorem dX2_copyWithSmallDish_14 : decode cX2_copyWithSmallDish 14 = .ok (.return_, 1) := by decide +kernel
theorem dX2_copyWithSmallDish_15 : decode cX2_copyWithSmallDish 15 = .ok (.aload_n 0, 1) := by decide +kernel
theorem dX2_copyWithSmallDish_16 : decode cX2_copyWithSmallDish 16 = .ok (.getfield 21, 3) := by decide +kernel
theorem dX2_copyWithSmallDish_19 : decode cX2_copyWithSmallDish 19 = .ok (.aload_n 0, 1) := by decide +kernel
theorem dX2_copyWithSmallDish_20 : decode cX2_copyWithSmallDish 20 = .ok (.getfield 52, 3) := by decide +kernel
theorem dX2_copyWithSmallDish_23 : decode cX2_copyWithSmallDish 23 = .ok (.iconst 1, 1) := by decide +kernel
theorem dX2_copyWithSmallDish_24 : decode cX2_copyWithSmallDish 24 = .ok (.iastore, 1) := by decide +kernel
theorem dX2_copyWithSmallDish_25 : decode cX2_copyWithSmallDish 25 = .ok (.aload_n 0, 1) := by decide +kernel
theorem dX2_copyWithSmallDish_26 : decode cX2_copyWithSmallDish 26 = .ok (.getfield 36, 3) := by decide +kernel
theorem dX2_copyWithSmallDish_29 : decode cX2_copyWithSmallDish 29 = .ok (.aload_n 0, 1) := by decide +kernel
theorem dX2_copyWithSmallDish_30 : decode cX2_copyWithSmallDish 30 = .ok (.getfield 52, 3) := by decide +kernel
theorem dX2_copyWithSmallDish_33 : decode cX2_copyWithSmallDish 33 = .ok (.bipush 6, 2) := by decide +kernel
theorem dX2_copyWithSmallDish_35 : decode cX2_copyWithSmallDish 35 = .ok (.imul, 1) := by decide +kernel
theorem dX2_copyWithSmallDish_36 : decode cX2_copyWithSmallDish 36 = .ok (.iload_n 2, 1) := by decide +kernel
theorem dX2_copyWithSmallDish_37 : decode cX2_copyWithSmallDish 37 = .ok (.iadd, 1) := by decide +kernel
theorem dX2_copyWithSmallDish_38 : decode cX2_copyWithSmallDish 38 = .ok (.iconst 1, 1) := by decide +kernel
theorem dX2_copyWithSmallDish_39 : decode cX2_copyWithSmallDish 39 = .ok (.iastore, 1) := by decide +kernel
theorem dX2_copyWithSmallDish_40 : decode cX2_copyWithSmallDish 40 = .ok (.aload_n 0, 1) := by decide +kernel
theorem dX2_copyWithSmallDish_41 : decode cX2_copyWithSmallDish 41 = .ok (.dup, 1) := by decide +kernel
theorem dX2_copyWithSmallDish_42 : decode cX2_copyWithSmallDish 42 = .ok (.getfield 52, 3) := by decide +kernel
theorem dX2_copyWithSmallDish_45 : decode cX2_copyWithSmallDish 45 = .ok (.iconst 1, 1) := by decide +kernel
theorem dX2_copyWithSmallDish_46 : decode cX2_copyWithSmallDish 46 = .ok (.iadd, 1) := by decide +kernel
theorem dX2_copyWithSmallDish_47 : decode cX2_copyWithSmallDish 47 = .ok (.putfield 52, 3) := by decide +kernel
theorem dX2_copyWithSmallDish_50 : decode cX2_copyWithSmallDish 50 = .ok (.return_, 1) := by decide +kernel
theorem dX2_hasThing_0 : decode cX2_hasThing 0 = .ok (.iload_n 1, 1) := by decide +kernel
theorem dX2_hasThing_1 : decode cX2_hasThing 1 = .ok (.ifCond .lt 15, 3) := by decide +kernel
theorem dX2_hasThing_4 : decode cX2_hasThing 4 = .ok (.iload_n 1, 1) := by decide +kernel
theorem dX2_hasThing_5 : decode cX2_hasThing 5 = .ok (.aload_n 0, 1) := by decide +kernel
theorem dX2_hasThing_6 : decode cX2_hasThing 6 = .ok (.getfield 48, 3) := by decide +kernel
theorem dX2_hasThing_9 : decode cX2_hasThing 9 = .ok (.if_icmp .ge 7, 3) := by decide +kernel
theorem dX2_hasThing_12 : decode cX2_hasThing 12 = .ok (.iconst 1, 1) := by decide +kernel
theorem dX2_hasThing_13 : decode cX2_hasThing 13 = .ok (.goto 4, 3) := by decide +kernel
theorem dX2_hasThing_16 : decode cX2_hasThing 16 = .ok (.iconst 0, 1) := by decide +kernel
theorem dX2_hasThing_17 : decode cX2_hasThing 17 = .ok (.ireturn, 1) := by decide +kernel
theorem dX2_hasSupper_0 : decode cX2_hasSupper 0 = .ok (.iload_n 1, 1) := by decide +kernel
theorem dX2_hasSupper_1 : decode cX2_hasSupper 1 = .ok (.ifCond .lt 15, 3) := by decide +kernel
theorem dX2_hasSupper_4 : decode cX2_hasSupper 4 = .ok (.iload_n 1, 1) := by decide +kernel
theorem dX2_hasSupper_5 : decode cX2_hasSupper 5 = .ok (.aload_n 0, 1) := by decide +kernel
theorem dX2_hasSupper_6 : decode cX2_hasSupper 6 = .ok (.getfield 52, 3) := by decide +kernel
theorem dX2_hasSupper_9 : decode cX2_hasSupper 9 = .ok (.if_icmp .ge 7, 3) := by decide +kernel
theorem dX2_hasSupper_12 : decode cX2_hasSupper 12 = .ok (.iconst 1, 1) := by decide +kernel
theorem dX2_hasSupper_13 : decode cX2_hasSupper 13 = .ok (.goto 4, 3) := by decide +kernel
theorem dX2_hasSupper_16 : decode cX2_hasSupper 16 = .ok (.iconst 0, 1) := by decide +kernel
theorem dX2_hasSupper_17 : decode cX2_hasSupper 17 = .ok (.ireturn, 1) := by decide +kernel
theorem dX2_isOut_0 : decode cX2_isOut 0 = .ok (.aload_n 0, 1) := by decide +kernel
theorem dX2_isOut_1 : decode cX2_isOut 1 = .ok (.getfield 65, 3) := by decide +kernel
theorem dX2_isOut_4 : decode cX2_isOut 4 = .ok (.iload_n 1, 1) := by decide +kernel
theorem dX2_isOut_5 : decode cX2_isOut 5 = .ok (.bipush 7, 2) := by decide +kernel
theorem dX2_isOut_7 : decode cX2_isOut 7 = .ok (.invokestatic 78, 3) := by decide +kernel
theorem dX2_isOut_10 : decode cX2_isOut 10 = .ok (.ishr, 1) := by decide +kernel
theorem dX2_isOut_11 : decode cX2_isOut 11 = .ok (.iconst 1, 1) := by decide +kernel
theorem dX2_isOut_12 : decode cX2_isOut 12 = .ok (.iand, 1) := by decide +kernel
theorem dX2_isOut_13 : decode cX2_isOut 13 = .ok (.ifCond .eq 7, 3) := by decide +kernel
theorem dX2_isOut_16 : decode cX2_isOut 16 = .ok (.iconst 1, 1) := by decide +kernel
theorem dX2_isOut_17 : decode cX2_isOut 17 = .ok (.goto 4, 3) := by decide +kernel
theorem dX2_isOut_20 : decode cX2_isOut 20 = .ok (.iconst 0, 1) := by decide +kernel
theorem dX2_isOut_21 : decode cX2_isOut 21 = .ok (.ireturn, 1) := by decide +kernel
theorem dX2_chanceOfGuests_0 : decode cX2_chanceOfGuests 0 = .ok (.aload_n 0, 1) := by decide +kernel
theorem dX2_chanceOfGuests_1 : decode cX2_chanceOfGuests 1 = .ok (.getfield 42, 3) := by decide +kernel
theorem dX2_chanceOfGuests_4 : decode cX2_chanceOfGuests 4 = .ok (.iload_n 1, 1) := by decide +kernel
theorem dX2_chanceOfGuests_5 : decode cX2_chanceOfGuests 5 = .ok (.bipush 7, 2) := by decide +kernel
theorem dX2_chanceOfGuests_7 : decode cX2_chanceOfGuests 7 = .ok (.invokestatic 78, 3) := by decide +kernel
theorem dX2_chanceOfGuests_10 : decode cX2_chanceOfGuests 10 = .ok (.iaload, 1) := by decide +kernel
theorem dX2_chanceOfGuests_11 : decode cX2_chanceOfGuests 11 = .ok (.ireturn, 1) := by decide +kernel
theorem dX2_isBought_0 : decode cX2_isBought 0 = .ok (.aload_n 0, 1) := by decide +kernel
theorem dX2_isBought_1 : decode cX2_isBought 1 = .ok (.getfield 62, 3) := by decide +kernel
theorem dX2_isBought_4 : decode cX2_isBought 4 = .ok (.iload_n 3, 1) := by decide +kernel
theorem dX2_isBought_5 : decode cX2_isBought 5 = .ok (.bipush 7, 2) := by decide +kernel
theorem dX2_isBought_7 : decode cX2_isBought 7 = .ok (.invokestatic 78, 3) := by decide +kernel
theorem dX2_isBought_10 : decode cX2_isBought 10 = .ok (.ishr, 1) := by decide +kernel
theorem dX2_isBought_11 : decode cX2_isBought 11 = .ok (.iconst 1, 1) := by decide +kernel
theorem dX2_isBought_12 : decode cX2_isBought 12 = .ok (.iand, 1) := by decide +kernel
theorem dX2_isBought_13 : decode cX2_isBought 13 = .ok (.ifCond .eq 7, 3) := by decide +kernel
theorem dX2_isBought_16 : decode cX2_isBought 16 = .ok (.iconst 1, 1) := by decide +kernel
theorem dX2_isBought_17 : decode cX2_isBought 17 = .ok (.goto 4, 3) := by decide +kernel
theorem dX2_isBought_20 : decode cX2_isBought 20 = .ok (.iconst 0, 1) := by decide +kernel
theorem dX2_isBought_21 : decode cX2_isBought 21 = .ok (.istore 4, 2) := by decide +kernel
theorem dX2_isBought_23 : decode cX2_isBought 23 = .ok (.iload 4, 2) := by decide +kernel
theorem dX2_isBought_25 : decode cX2_isBought 25 = .ok (.ifCond .eq 35, 3) := by decide +kernel
theorem dX2_isBought_28 : decode cX2_isBought 28 = .ok (.aload_n 0, 1) := by decide +kernel
theorem dX2_isBought_29 : decode cX2_isBought 29 = .ok (.getfield 18, 3) := by decide +kernel
theorem dX2_isBought_32 : decode cX2_isBought 32 = .ok (.iload_n 2, 1) := by decide +kernel
theorem dX2_isBought_33 : decode cX2_isBought 33 = .ok (.iaload, 1) := by decide +kernel
theorem dX2_isBought_34 : decode cX2_isBought 34 = .ok (.ifCond .le 26, 3) := by decide +kernel
theorem dX2_isBought_37 : decode cX2_isBought 37 = .ok (.aload_n 0, 1) := by decide +kernel
theorem dX2_isBought_38 : decode cX2_isBought 38 = .ok (.getfield 21, 3) := by decide +kernel
theorem dX2_isBought_41 : decode cX2_isBought 41 = .ok (.iload_n 1, 1) := by decide +kernel
theorem dX2_isBought_42 : decode cX2_isBought 42 = .ok (.iaload, 1) := by decide +kernel
theorem dX2_isBought_43 : decode cX2_isBought 43 = .ok (.ifCond .eq 13, 3) := by decide +kernel
theorem dX2_isBought_46 : decode cX2_isBought 46 = .ok (.aload_n 0, 1) := by decide +kernel
theorem dX2_isBought_47 : decode cX2_isBought 47 = .ok (.getfield 21, 3) := by decide +kernel
theorem dX2_isBought_50 : decode cX2_isBought 50 = .ok (.iload_n 1, 1) := by decide +kernel
theorem dX2_isBought_51 : decode cX2_isBought 51 = .ok (.iaload, 1) := by decide +kernel
theorem dX2_isBought_52 : decode cX2_isBought 52 = .ok (.iconst 2, 1) := by decide +kernel
theorem dX2_isBought_53 : decode cX2_isBought 53 = .ok (.if_icmp .ne 7, 3) := by decide +kernel
theorem dX2_isBought_56 : decode cX2_isBought 56 = .ok (.iconst 1, 1) := by decide +kernel
theorem dX2_isBought_57 : decode cX2_isBought 57 = .ok (.goto 4, 3) := by decide +kernel
theorem dX2_isBought_60 : decode cX2_isBought 60 = .ok (.iconst 0, 1) := by decide +kernel
theorem dX2_isBought_61 : decode cX2_isBought 61 = .ok (.ireturn, 1) := by decide +kernel
theorem dX2_wanted_0 : decode cX2_wanted 0 = .ok (.aload_n 0, 1) := by decide +kernel
theorem dX2_wanted_1 : decode cX2_wanted 1 = .ok (.getfield 36, 3) := by decide +kernel
theorem dX2_wanted_4 : decode cX2_wanted 4 = .ok (.iload_n 1, 1) := by decide +kernel
theorem dX2_wanted_5 : decode cX2_wanted 5 = .ok (.bipush 6, 2) := by decide +kernel
theorem dX2_wanted_7 : decode cX2_wanted 7 = .ok (.imul, 1) := by decide +kernel
theorem dX2_wanted_8 : decode cX2_wanted 8 = .ok (.iload_n 3, 1) := by decide +kernel
theorem dX2_wanted_9 : decode cX2_wanted 9 = .ok (.iadd, 1) := by decide +kernel
theorem dX2_wanted_10 : decode cX2_wanted 10 = .ok (.iaload, 1) := by decide +kernel
theorem dX2_wanted_11 : decode cX2_wanted 11 = .ok (.istore 4, 2) := by decide +kernel
theorem dX2_wanted_13 : decode cX2_wanted 13 = .ok (.iload_n 2, 1) := by decide +kernel
theorem dX2_wanted_14 : decode cX2_wanted 14 = .ok (.ifCond .eq 25, 3) := by decide +kernel
theorem dX2_wanted_17 : decode cX2_wanted 17 = .ok (.iload 4, 2) := by decide +kernel
theorem dX2_wanted_19 : decode cX2_wanted 19 = .ok (.ifCond .le 20, 3) := by decide +kernel
theorem dX2_wanted_22 : decode cX2_wanted 22 = .ok (.aload_n 0, 1) := by decide +kernel
theorem dX2_wanted_23 : decode cX2_wanted 23 = .ok (.getfield 21, 3) := by decide +kernel
theorem dX2_wanted_26 : decode cX2_wanted 26 = .ok (.iload_n 1, 1) := by decide +kernel
theorem dX2_wanted_27 : decode cX2_wanted 27 = .ok (.iaload, 1) := by decide +kernel
theorem dX2_wanted_28 : decode cX2_wanted 28 = .ok (.iconst 2, 1) := by decide +kernel
theorem dX2_wanted_29 : decode cX2_wanted 29 = .ok (.if_icmp .eq 10, 3) := by decide +kernel
theorem dX2_wanted_32 : decode cX2_wanted 32 = .ok (.iload 4, 2) := by decide +kernel
theorem dX2_wanted_34 : decode cX2_wanted 34 = .ok (.iconst 1, 1) := by decide +kernel
theorem dX2_wanted_35 : decode cX2_wanted 35 = .ok (.iadd, 1) := by decide +kernel
theorem dX2_wanted_36 : decode cX2_wanted 36 = .ok (.goto 5, 3) := by decide +kernel
theorem dX2_wanted_39 : decode cX2_wanted 39 = .ok (.iload 4, 2) := by decide +kernel
theorem dX2_wanted_41 : decode cX2_wanted 41 = .ok (.ireturn, 1) := by decide +kernel
theorem dX2_soupWanted_0 : decode cX2_soupWanted 0 = .ok (.iload_n 2, 1) := by decide +kernel
theorem dX2_soupWanted_1 : decode cX2_soupWanted 1 = .ok (.ifCond .eq 14, 3) := by decide +kernel
theorem dX2_soupWanted_4 : decode cX2_soupWanted 4 = .ok (.aload_n 0, 1) := by decide +kernel
theorem dX2_soupWanted_5 : decode cX2_soupWanted 5 = .ok (.getfield 30, 3) := by decide +kernel
theorem dX2_soupWanted_8 : decode cX2_soupWanted 8 = .ok (.iload_n 1, 1) := by decide +kernel
theorem dX2_soupWanted_9 : decode cX2_soupWanted 9 = .ok (.iaload, 1) := by decide +kernel
theorem dX2_soupWanted_10 : decode cX2_soupWanted 10 = .ok (.iconst 1, 1) := by decide +kernel
theorem dX2_soupWanted_11 : decode cX2_soupWanted 11 = .ok (.iadd, 1) := by decide +kernel
theorem dX2_soupWanted_12 : decode cX2_soupWanted 12 = .ok (.goto 9, 3) := by decide +kernel
theorem dX2_soupWanted_15 : decode cX2_soupWanted 15 = .ok (.aload_n 0, 1) := by decide +kernel
theorem dX2_soupWanted_16 : decode cX2_soupWanted 16 = .ok (.getfield 30, 3) := by decide +kernel
theorem dX2_soupWanted_19 : decode cX2_soupWanted 19 = .ok (.iload_n 1, 1) := by decide +kernel
theorem dX2_soupWanted_20 : decode cX2_soupWanted 20 = .ok (.iaload, 1) := by decide +kernel
theorem dX2_soupWanted_21 : decode cX2_soupWanted 21 = .ok (.ireturn, 1) := by decide +kernel
theorem dX2_isInSoup_0 : decode cX2_isInSoup 0 = .ok (.aload_n 0, 1) := by decide +kernel
theorem dX2_isInSoup_1 : decode cX2_isInSoup 1 = .ok (.getfield 33, 3) := by decide +kernel
theorem dX2_isInSoup_4 : decode cX2_isInSoup 4 = .ok (.iload_n 1, 1) := by decide +kernel
theorem dX2_isInSoup_5 : decode cX2_isInSoup 5 = .ok (.iaload, 1) := by decide +kernel
theorem dX2_isInSoup_6 : decode cX2_isInSoup 6 = .ok (.iload_n 2, 1) := by decide +kernel
theorem dX2_isInSoup_7 : decode cX2_isInSoup 7 = .ok (.ishr, 1) := by decide +kernel
theorem dX2_isInSoup_8 : decode cX2_isInSoup 8 = .ok (.iconst 1, 1) := by decide +kernel
theorem dX2_isInSoup_9 : decode cX2_isInSoup 9 = .ok (.iand, 1) := by decide +kernel
theorem dX2_isInSoup_10 : decode cX2_isInSoup 10 = .ok (.ifCond .eq 7, 3) := by decide +kernel
theorem dX2_isInSoup_13 : decode cX2_isInSoup 13 = .ok (.iconst 1, 1) := by decide +kernel
theorem dX2_isInSoup_14 : decode cX2_isInSoup 14 = .ok (.goto 4, 3) := by decide +kernel
theorem dX2_isInSoup_17 : decode cX2_isInSoup 17 = .ok (.iconst 0, 1) := by decide +kernel
theorem dX2_isInSoup_18 : decode cX2_isInSoup 18 = .ok (.ireturn, 1) := by decide +kernel
theorem dX2_thingsOf_0 : decode cX2_thingsOf 0 = .ok (.aload_n 0, 1) := by decide +kernel
theorem dX2_thingsOf_1 : decode cX2_thingsOf 1 = .ok (.getfield 33, 3) := by decide +kernel
theorem dX2_thingsOf_4 : decode cX2_thingsOf 4 = .ok (.iload_n 1, 1) := by decide +kernel
theorem dX2_thingsOf_5 : decode cX2_thingsOf 5 = .ok (.iaload, 1) := by decide +kernel
theorem dX2_thingsOf_6 : decode cX2_thingsOf 6 = .ok (.istore_n 2, 1) := by decide +kernel
theorem dX2_thingsOf_7 : decode cX2_thingsOf 7 = .ok (.iconst 0, 1) := by decide +kernel
theorem dX2_thingsOf_8 : decode cX2_thingsOf 8 = .ok (.istore_n 3, 1) := by decide +kernel
theorem dX2_thingsOf_9 : decode cX2_thingsOf 9 = .ok (.iload_n 3, 1) := by decide +kernel
theorem dX2_thingsOf_10 : decode cX2_thingsOf 10 = .ok (.aload_n 0, 1) := by decide +kernel
theorem dX2_thingsOf_11 : decode cX2_thingsOf 11 = .ok (.getfield 48, 3) := by decide +kernel
theorem dX2_thingsOf_14 : decode cX2_thingsOf 14 = .ok (.if_icmp .ge 29, 3) := by decide +kernel
theorem dX2_thingsOf_17 : decode cX2_thingsOf 17 = .ok (.aload_n 0, 1) := by decide +kernel
theorem dX2_thingsOf_18 : decode cX2_thingsOf 18 = .ok (.getfield 36, 3) := by decide +kernel
theorem dX2_thingsOf_21 : decode cX2_thingsOf 21 = .ok (.iload_n 1, 1) := by decide +kernel
theorem dX2_thingsOf_22 : decode cX2_thingsOf 22 = .ok (.bipush 6, 2) := by decide +kernel
theorem dX2_thingsOf_24 : decode cX2_thingsOf 24 = .ok (.imul, 1) := by decide +kernel
theorem dX2_thingsOf_25 : decode cX2_thingsOf 25 = .ok (.iload_n 3, 1) := by decide +kernel
theorem dX2_thingsOf_26 : decode cX2_thingsOf 26 = .ok (.iadd, 1) := by decide +kernel
theorem dX2_thingsOf_27 : decode cX2_thingsOf 27 = .ok (.iaload, 1) := by decide +kernel
theorem dX2_thingsOf_28 : decode cX2_thingsOf 28 = .ok (.ifCond .le 9, 3) := by decide +kernel
theorem dX2_thingsOf_31 : decode cX2_thingsOf 31 = .ok (.iload_n 2, 1) := by decide +kernel
theorem dX2_thingsOf_32 : decode cX2_thingsOf 32 = .ok (.iconst 1, 1) := by decide +kernel
theorem dX2_thingsOf_33 : decode cX2_thingsOf 33 = .ok (.iload_n 3, 1) := by decide +kernel
theorem dX2_thingsOf_34 : decode cX2_thingsOf 34 = .ok (.ishl, 1) := by decide +kernel
theorem dX2_thingsOf_35 : decode cX2_thingsOf 35 = .ok (.ior, 1) := by decide +kernel
theorem dX2_thingsOf_36 : decode cX2_thingsOf 36 = .ok (.istore_n 2, 1) := by decide +kernel
theorem dX2_thingsOf_37 : decode cX2_thingsOf 37 = .ok (.iinc 3 1, 3) := by decide +kernel
theorem dX2_thingsOf_40 : decode cX2_thingsOf 40 = .ok (.goto (-31), 3) := by decide +kernel
theorem dX2_thingsOf_43 : decode cX2_thingsOf 43 = .ok (.iload_n 2, 1) := by decide +kernel
theorem dX2_thingsOf_44 : decode cX2_thingsOf 44 = .ok (.ireturn, 1) := by decide +kernel
theorem dX2_timesFed_0 : decode cX2_timesFed 0 = .ok (.iconst 0, 1) := by decide +kernel
theorem dX2_timesFed_1 : decode cX2_timesFed 1 = .ok (.istore 4, 2) := by decide +kernel
theorem dX2_timesFed_3 : decode cX2_timesFed 3 = .ok (.iconst 0, 1) := by decide +kernel
theorem dX2_timesFed_4 : decode cX2_timesFed 4 = .ok (.istore 5, 2) := by decide +kernel
theorem dX2_timesFed_6 : decode cX2_timesFed 6 = .ok (.iload 5, 2) := by decide +kernel
theorem dX2_timesFed_8 : decode cX2_timesFed 8 = .ok (.iload_n 2, 1) := by decide +kernel
theorem dX2_timesFed_9 : decode cX2_timesFed 9 = .ok (.if_icmp .ge 37, 3) := by decide +kernel
theorem dX2_timesFed_12 : decode cX2_timesFed 12 = .ok (.aload_n 1, 1) := by decide +kernel
theorem dX2_timesFed_13 : decode cX2_timesFed 13 = .ok (.iload 5, 2) := by decide +kernel
theorem dX2_timesFed_15 : decode cX2_timesFed 15 = .ok (.iaload, 1) := by decide +kernel
theorem dX2_timesFed_16 : decode cX2_timesFed 16 = .ok (.bipush (-4), 2) := by decide +kernel
theorem dX2_timesFed_18 : decode cX2_timesFed 18 = .ok (.if_icmp .eq 22, 3) := by decide +kernel
theorem dX2_timesFed_21 : decode cX2_timesFed 21 = .ok (.aload_n 0, 1) := by decide +kernel
theorem dX2_timesFed_22 : decode cX2_timesFed 22 = .ok (.getfield 27, 3) := by decide +kernel
theorem dX2_timesFed_25 : decode cX2_timesFed 25 = .ok (.aload_n 1, 1) := by decide +kernel
theorem dX2_timesFed_26 : decode cX2_timesFed 26 = .ok (.iload 5, 2) := by decide +kernel
theorem dX2_timesFed_28 : decode cX2_timesFed 28 = .ok (.iaload, 1) := by decide +kernel
theorem dX2_timesFed_29 : decode cX2_timesFed 29 = .ok (.iaload, 1) := by decide +kernel
theorem dX2_timesFed_30 : decode cX2_timesFed 30 = .ok (.iload_n 3, 1) := by decide +kernel
theorem dX2_timesFed_31 : decode cX2_timesFed 31 = .ok (.ishr, 1) := by decide +kernel
theorem dX2_timesFed_32 : decode cX2_timesFed 32 = .ok (.iconst 1, 1) := by decide +kernel
theorem dX2_timesFed_33 : decode cX2_timesFed 33 = .ok (.iand, 1) := by decide +kernel
theorem dX2_timesFed_34 : decode cX2_timesFed 34 = .ok (.ifCond .ne 6, 3) := by decide +kernel
theorem dX2_timesFed_37 : decode cX2_timesFed 37 = .ok (.iinc 4 1, 3) := by decide +kernel
theorem dX2_timesFed_40 : decode cX2_timesFed 40 = .ok (.iinc 5 1, 3) := by decide +kernel
theorem dX2_timesFed_43 : decode cX2_timesFed 43 = .ok (.goto (-37), 3) := by decide +kernel
theorem dX2_timesFed_46 : decode cX2_timesFed 46 = .ok (.iload 4, 2) := by decide +kernel
theorem dX2_timesFed_48 : decode cX2_timesFed 48 = .ok (.ireturn, 1) := by decide +kernel
theorem dX2_timesFedLeast_0 : decode cX2_timesFedLeast 0 = .ok (.iload_n 2, 1) := by decide +kernel
theorem dX2_timesFedLeast_1 : decode cX2_timesFedLeast 1 = .ok (.istore_n 3, 1) := by decide +kernel
theorem dX2_timesFedLeast_2 : decode cX2_timesFedLeast 2 = .ok (.iconst 0, 1) := by decide +kernel
theorem dX2_timesFedLeast_3 : decode cX2_timesFedLeast 3 = .ok (.istore 4, 2) := by decide +kernel
theorem dX2_timesFedLeast_5 : decode cX2_timesFedLeast 5 = .ok (.iload 4, 2) := by decide +kernel
theorem dX2_timesFedLeast_7 : decode cX2_timesFedLeast 7 = .ok (.iconst 4, 1) := by decide +kernel
theorem dX2_timesFedLeast_8 : decode cX2_timesFedLeast 8 = .ok (.if_icmp .ge 22, 3) := by decide +kernel
theorem dX2_timesFedLeast_11 : decode cX2_timesFedLeast 11 = .ok (.iload_n 3, 1) := by decide +kernel
theorem dX2_timesFedLeast_12 : decode cX2_timesFedLeast 12 = .ok (.aload_n 0, 1) := by decide +kernel
theorem dX2_timesFedLeast_13 : decode cX2_timesFedLeast 13 = .ok (.aload_n 1, 1) := by decide +kernel
theorem dX2_timesFedLeast_14 : decode cX2_timesFedLeast 14 = .ok (.iload_n 2, 1) := by decide +kernel
theorem dX2_timesFedLeast_15 : decode cX2_timesFedLeast 15 = .ok (.iload 4, 2) := by decide +kernel
theorem dX2_timesFedLeast_17 : decode cX2_timesFedLeast 17 = .ok (.invokevirtual 84, 3) := by decide +kernel
theorem dX2_timesFedLeast_20 : decode cX2_timesFedLeast 20 = .ok (.invokestatic 88, 3) := by decide +kernel
theorem dX2_timesFedLeast_23 : decode cX2_timesFedLeast 23 = .ok (.istore_n 3, 1) := by decide +kernel
theorem dX2_timesFedLeast_24 : decode cX2_timesFedLeast 24 = .ok (.iinc 4 1, 3) := by decide +kernel
theorem dX2_timesFedLeast_27 : decode cX2_timesFedLeast 27 = .ok (.goto (-22), 3) := by decide +kernel
theorem dX2_timesFedLeast_30 : decode cX2_timesFedLeast 30 = .ok (.iload_n 3, 1) := by decide +kernel
theorem dX2_timesFedLeast_31 : decode cX2_timesFedLeast 31 = .ok (.ireturn, 1) := by decide +kernel
theorem dX2_isClosed_0 : decode cX2_isClosed 0 = .ok (.aload_n 2, 1) := by decide +kernel
theorem dX2_isClosed_1 : decode cX2_isClosed 1 = .ok (.getfield 91, 3) := by decide +kernel
theorem dX2_isClosed_4 : decode cX2_isClosed 4 = .ok (.ifCond .ne 25, 3) := by decide +kernel
theorem dX2_isClosed_7 : decode cX2_isClosed 7 = .ok (.aload_n 2, 1) := by decide +kernel
theorem dX2_isClosed_8 : decode cX2_isClosed 8 = .ok (.aload_n 1, 1) := by decide +kernel
theorem dX2_isClosed_9 : decode cX2_isClosed 9 = .ok (.invokevirtual 96, 3) := by decide +kernel
theorem dX2_isClosed_12 : decode cX2_isClosed 12 = .ok (.ifCond .eq 17, 3) := by decide +kernel
theorem dX2_isClosed_15 : decode cX2_isClosed 15 = .ok (.aload_n 0, 1) := by decide +kernel
theorem dX2_isClosed_16 : decode cX2_isClosed 16 = .ok (.aload_n 3, 1) := by decide +kernel
theorem dX2_isClosed_17 : decode cX2_isClosed 17 = .ok (.iload 4, 2) := by decide +kernel
theorem dX2_isClosed_19 : decode cX2_isClosed 19 = .ok (.invokevirtual 100, 3) := by decide +kernel
theorem dX2_isClosed_22 : decode cX2_isClosed 22 = .ok (.ifCond .eq 7, 3) := by decide +kernel
theorem dX2_isClosed_25 : decode cX2_isClosed 25 = .ok (.iconst 1, 1) := by decide +kernel
theorem dX2_isClosed_26 : decode cX2_isClosed 26 = .ok (.goto 4, 3) := by decide +kernel
theorem dX2_isClosed_29 : decode cX2_isClosed 29 = .ok (.iconst 0, 1) := by decide +kernel
theorem dX2_isClosed_30 : decode cX2_isClosed 30 = .ok (.ireturn, 1) := by decide +kernel
theorem dX2_mayFollowItself_0 : decode cX2_mayFollowItself 0 = .ok (.iconst 0, 1) := by decide +kernel
theorem dX2_mayFollowItself_1 : decode cX2_mayFollowItself 1 = .ok (.istore_n 3, 1) := by decide +kernel
theorem dX2_mayFollowItself_2 : decode cX2_mayFollowItself 2 = .ok (.iload_n 3, 1) := by decide +kernel
theorem dX2_mayFollowItself_3 : decode cX2_mayFollowItself 3 = .ok (.iload_n 2, 1) := by decide +kernel
theorem dX2_mayFollowItself_4 : decode cX2_mayFollowItself 4 = .ok (.if_icmp .ge 32, 3) := by decide +kernel
theorem dX2_mayFollowItself_7 : decode cX2_mayFollowItself 7 = .ok (.aload_n 1, 1) := by decide +kernel
theorem dX2_mayFollowItself_8 : decode cX2_mayFollowItself 8 = .ok (.iload_n 3, 1) := by decide +kernel
theorem dX2_mayFollowItself_9 : decode cX2_mayFollowItself 9 = .ok (.iaload, 1) := by decide +kernel
theorem dX2_mayFollowItself_10 : decode cX2_mayFollowItself 10 = .ok (.bipush (-4), 2) := by decide +kernel
theorem dX2_mayFollowItself_12 : decode cX2_mayFollowItself 12 = .ok (.if_icmp .eq 18, 3) := by decide +kernel
theorem dX2_mayFollowItself_15 : decode cX2_mayFollowItself 15 = .ok (.aload_n 1, 1) := by decide +kernel
theorem dX2_mayFollowItself_16 : decode cX2_mayFollowItself 16 = .ok (.iload_n 2, 1) := by decide +kernel
theorem dX2_mayFollowItself_17 : decode cX2_mayFollowItself 17 = .ok (.iload_n 3, 1) := by decide +kernel
theorem dX2_mayFollowItself_18 : decode cX2_mayFollowItself 18 = .ok (.invokestatic 104, 3) := by decide +kernel
theorem dX2_mayFollowItself_21 : decode cX2_mayFollowItself 21 = .ok (.aload_n 0, 1) := by decide +kernel
theorem dX2_mayFollowItself_22 : decode cX2_mayFollowItself 22 = .ok (.getfield 59, 3) := by decide +kernel
theorem dX2_mayFollowItself_25 : decode cX2_mayFollowItself 25 = .ok (.if_icmp .ge 5, 3) := by decide +kernel
theorem dX2_mayFollowItself_28 : decode cX2_mayFollowItself 28 = .ok (.iconst 0, 1) := by decide +kernel
theorem dX2_mayFollowItself_29 : decode cX2_mayFollowItself 29 = .ok (.ireturn, 1) := by decide +kernel
theorem dX2_mayFollowItself_30 : decode cX2_mayFollowItself 30 = .ok (.iinc 3 1, 3) := by decide +kernel
theorem dX2_mayFollowItself_33 : decode cX2_mayFollowItself 33 = .ok (.goto (-31), 3) := by decide +kernel
theorem dX2_mayFollowItself_36 : decode cX2_mayFollowItself 36 = .ok (.iconst 1, 1) := by decide +kernel
theorem dX2_mayFollowItself_37 : decode cX2_mayFollowItself 37 = .ok (.ireturn, 1) := by decide +kernel
theorem dX2_daysToNext_0 : decode cX2_daysToNext 0 = .ok (.iconst 1, 1) := by decide +kernel
theorem dX2_daysToNext_1 : decode cX2_daysToNext 1 = .ok (.istore_n 3, 1) := by decide +kernel
theorem dX2_daysToNext_2 : decode cX2_daysToNext 2 = .ok (.iload_n 3, 1) := by decide +kernel
theorem dX2_daysToNext_3 : decode cX2_daysToNext 3 = .ok (.iload_n 1, 1) := by decide +kernel
theorem dX2_daysToNext_4 : decode cX2_daysToNext 4 = .ok (.if_icmp .ge 41, 3) := by decide +kernel
theorem dX2_daysToNext_7 : decode cX2_daysToNext 7 = .ok (.iload_n 2, 1) := by decide +kernel
theorem dX2_daysToNext_8 : decode cX2_daysToNext 8 = .ok (.iload_n 3, 1) := by decide +kernel
theorem dX2_daysToNext_9 : decode cX2_daysToNext 9 = .ok (.iadd, 1) := by decide +kernel
theorem dX2_daysToNext_10 : decode cX2_daysToNext 10 = .ok (.iload_n 1, 1) := by decide +kernel
theorem dX2_daysToNext_11 : decode cX2_daysToNext 11 = .ok (.if_icmp .ge 9, 3) := by decide +kernel
theorem dX2_daysToNext_14 : decode cX2_daysToNext 14 = .ok (.iload_n 2, 1) := by decide +kernel
theorem dX2_daysToNext_15 : decode cX2_daysToNext 15 = .ok (.iload_n 3, 1) := by decide +kernel
theorem dX2_daysToNext_16 : decode cX2_daysToNext 16 = .ok (.iadd, 1) := by decide +kernel
theorem dX2_daysToNext_17 : decode cX2_daysToNext 17 = .ok (.goto 8, 3) := by decide +kernel
theorem dX2_daysToNext_20 : decode cX2_daysToNext 20 = .ok (.iload_n 2, 1) := by decide +kernel
theorem dX2_daysToNext_21 : decode cX2_daysToNext 21 = .ok (.iload_n 3, 1) := by decide +kernel
theorem dX2_daysToNext_22 : decode cX2_daysToNext 22 = .ok (.iadd, 1) := by decide +kernel
theorem dX2_daysToNext_23 : decode cX2_daysToNext 23 = .ok (.iload_n 1, 1) := by decide +kernel
theorem dX2_daysToNext_24 : decode cX2_daysToNext 24 = .ok (.isub, 1) := by decide +kernel
theorem dX2_daysToNext_25 : decode cX2_daysToNext 25 = .ok (.istore 4, 2) := by decide +kernel
theorem dX2_daysToNext_27 : decode cX2_daysToNext 27 = .ok (.aload_n 0, 1) := by decide +kernel
theorem dX2_daysToNext_28 : decode cX2_daysToNext 28 = .ok (.iload 4, 2) := by decide +kernel
theorem dX2_daysToNext_30 : decode cX2_daysToNext 30 = .ok (.iaload, 1) := by decide +kernel
theorem dX2_daysToNext_31 : decode cX2_daysToNext 31 = .ok (.aload_n 0, 1) := by decide +kernel
theorem dX2_daysToNext_32 : decode cX2_daysToNext 32 = .ok (.iload_n 2, 1) := by decide +kernel
theorem dX2_daysToNext_33 : decode cX2_daysToNext 33 = .ok (.iaload, 1) := by decide +kernel
theorem dX2_daysToNext_34 : decode cX2_daysToNext 34 = .ok (.if_icmp .ne 5, 3) := by decide +kernel
theorem dX2_daysToNext_37 : decode cX2_daysToNext 37 = .ok (.iload_n 3, 1) := by decide +kernel
theorem dX2_daysToNext_38 : decode cX2_daysToNext 38 = .ok (.ireturn, 1) := by decide +kernel
theorem dX2_daysToNext_39 : decode cX2_daysToNext 39 = .ok (.iinc 3 1, 3) := by decide +kernel
theorem dX2_daysToNext_42 : decode cX2_daysToNext 42 = .ok (.goto (-40), 3) := by decide +kernel
theorem dX2_daysToNext_45 : decode cX2_daysToNext 45 = .ok (.iload_n 1, 1) := by decide +kernel
theorem dX2_daysToNext_46 : decode cX2_daysToNext 46 = .ok (.ireturn, 1) := by decide +kernel
theorem dX3_init_0 : decode cX3_init 0 = .ok (.aload_n 0, 1) := by decide +kernel
theorem dX3_init_1 : decode cX3_init 1 = .ok (.invokespecial 3, 3) := by decide +kernel
theorem dX3_init_4 : decode cX3_init 4 = .ok (.aload_n 0, 1) := by decide +kernel
theorem dX3_init_5 : decode cX3_init 5 = .ok (.bipush 6, 2) := by decide +kernel
theorem dX3_init_7 : decode cX3_init 7 = .ok (.anewarray 9, 3) := by decide +kernel
theorem dX3_init_10 : decode cX3_init 10 = .ok (.dup, 1) := by decide +kernel
theorem dX3_init_11 : decode cX3_init 11 = .ok (.iconst 0, 1) := by decide +kernel
theorem dX3_init_12 : decode cX3_init 12 = .ok (.new 9, 3) := by decide +kernel
theorem dX3_init_15 : decode cX3_init 15 = .ok (.dup, 1) := by decide +kernel
theorem dX3_init_16 : decode cX3_init 16 = .ok (.invokespecial 11, 3) := by decide +kernel
theorem dX3_init_19 : decode cX3_init 19 = .ok (.aastore, 1) := by decide +kernel
theorem dX3_init_20 : decode cX3_init 20 = .ok (.dup, 1) := by decide +kernel
theorem dX3_init_21 : decode cX3_init 21 = .ok (.iconst 1, 1) := by decide +kernel
theorem dX3_init_22 : decode cX3_init 22 = .ok (.new 9, 3) := by decide +kernel
theorem dX3_init_25 : decode cX3_init 25 = .ok (.dup, 1) := by decide +kernel
theorem dX3_init_26 : decode cX3_init 26 = .ok (.invokespecial 11, 3) := by decide +kernel
theorem dX3_init_29 : decode cX3_init 29 = .ok (.aastore, 1) := by decide +kernel
theorem dX3_init_30 : decode cX3_init 30 = .ok (.dup, 1) := by decide +kernel
theorem dX3_init_31 : decode cX3_init 31 = .ok (.iconst 2, 1) := by decide +kernel
theorem dX3_init_32 : decode cX3_init 32 = .ok (.new 9, 3) := by decide +kernel
theorem dX3_init_35 : decode cX3_init 35 = .ok (.dup, 1) := by decide +kernel
theorem dX3_init_36 : decode cX3_init 36 = .ok (.invokespecial 11, 3) := by decide +kernel
theorem dX3_init_39 : decode cX3_init 39 = .ok (.aastore, 1) := by decide +kernel
theorem dX3_init_40 : decode cX3_init 40 = .ok (.dup, 1) := by decide +kernel
theorem dX3_init_41 : decode cX3_init 41 = .ok (.iconst 3, 1) := by decide +kernel
theorem dX3_init_42 : decode cX3_init 42 = .ok (.new 9, 3) := by decide +kernel
theorem dX3_init_45 : decode cX3_init 45 = .ok (.dup, 1) := by decide +kernel
theorem dX3_init_46 : decode cX3_init 46 = .ok (.invokespecial 11, 3) := by decide +kernel
theorem dX3_init_49 : decode cX3_init 49 = .ok (.aastore, 1) := by decide +kernel
theorem dX3_init_50 : decode cX3_init 50 = .ok (.dup, 1) := by decide +kernel
theorem dX3_init_51 : decode cX3_init 51 = .ok (.iconst 4, 1) := by decide +kernel
theorem dX3_init_52 : decode cX3_init 52 = .ok (.new 9, 3) := by decide +kernel
theorem dX3_init_55 : decode cX3_init 55 = .ok (.dup, 1) := by decide +kernel
theorem dX3_init_56 : decode cX3_init 56 = .ok (.invokespecial 11, 3) := by decide +kernel
theorem dX3_init_59 : decode cX3_init 59 = .ok (.aastore, 1) := by decide +kernel
theorem dX3_init_60 : decode cX3_init 60 = .ok (.dup, 1) := by decide +kernel
theorem dX3_init_61 : decode cX3_init 61 = .ok (.iconst 5, 1) := by decide +kernel
theorem dX3_init_62 : decode cX3_init 62 = .ok (.new 9, 3) := by decide +kernel
theorem dX3_init_65 : decode cX3_init 65 = .ok (.dup, 1) := by decide +kernel
theorem dX3_init_66 : decode cX3_init 66 = .ok (.invokespecial 11, 3) := by decide +kernel
theorem dX3_init_69 : decode cX3_init 69 = .ok (.aastore, 1) := by decide +kernel
theorem dX3_init_70 : decode cX3_init 70 = .ok (.putfield 12, 3) := by decide +kernel
theorem dX3_init_73 : decode cX3_init 73 = .ok (.aload_n 0, 1) := by decide +kernel
theorem dX3_init_74 : decode cX3_init 74 = .ok (.iconst 5, 1) := by decide +kernel
theorem dX3_init_75 : decode cX3_init 75 = .ok (.newarray .int, 2) := by decide +kernel
theorem dX3_init_77 : decode cX3_init 77 = .ok (.putfield 18, 3) := by decide +kernel
theorem dX3_init_80 : decode cX3_init 80 = .ok (.aload_n 0, 1) := by decide +kernel
theorem dX3_init_81 : decode cX3_init 81 = .ok (.new 22, 3) := by decide +kernel
theorem dX3_init_84 : decode cX3_init 84 = .ok (.dup, 1) := by decide +kernel
theorem dX3_init_85 : decode cX3_init 85 = .ok (.invokespecial 24, 3) := by decide +kernel
theorem dX3_init_88 : decode cX3_init 88 = .ok (.putfield 25, 3) := by decide +kernel
theorem dX3_init_91 : decode cX3_init 91 = .ok (.aload_n 0, 1) := by decide +kernel
theorem dX3_init_92 : decode cX3_init 92 = .ok (.iconst 5, 1) := by decide +kernel
theorem dX3_init_93 : decode cX3_init 93 = .ok (.newarray .int, 2) := by decide +kernel
theorem dX3_init_95 : decode cX3_init 95 = .ok (.putfield 29, 3) := by decide +kernel
theorem dX3_init_98 : decode cX3_init 98 = .ok (.aload_n 0, 1) := by decide +kernel
theorem dX3_init_99 : decode cX3_init 99 = .ok (.iconst 5, 1) := by decide +kernel
theorem dX3_init_100 : decode cX3_init 100 = .ok (.newarray .int, 2) := by decide +kernel
theorem dX3_init_102 : decode cX3_init 102 = .ok (.putfield 32, 3) := by decide +kernel
theorem dX3_init_105 : decode cX3_init 105 = .ok (.aload_n 0, 1) := by decide +kernel
theorem dX3_init_106 : decode cX3_init 106 = .ok (.iconst 5, 1) := by decide +kernel
theorem dX3_init_107 : decode cX3_init 107 = .ok (.newarray .int, 2) := by decide +kernel
theorem dX3_init_109 : decode cX3_init 109 = .ok (.putfield 35, 3) := by decide +kernel
theorem dX3_init_112 : decode cX3_init 112 = .ok (.aload_n 0, 1) := by decide +kernel
theorem dX3_init_113 : decode cX3_init 113 = .ok (.iconst 5, 1) := by decide +kernel
theorem dX3_init_114 : decode cX3_init 114 = .ok (.newarray .int, 2) := by decide +kernel
theorem dX3_init_116 : decode cX3_init 116 = .ok (.putfield 38, 3) := by decide +kernel
theorem dX3_init_119 : decode cX3_init 119 = .ok (.return_, 1) := by decide +kernel
theorem dX3_lookAtRows_0 : decode cX3_lookAtRows 0 = .ok (.aload_n 0, 1) := by decide +kernel
theorem dX3_lookAtRows_1 : decode cX3_lookAtRows 1 = .ok (.invokevirtual 41, 3) := by decide +kernel
theorem dX3_lookAtRows_4 : decode cX3_lookAtRows 4 = .ok (.aload_n 0, 1) := by decide +kernel
theorem dX3_lookAtRows_5 : decode cX3_lookAtRows 5 = .ok (.getfield 12, 3) := by decide +kernel
theorem dX3_lookAtRows_8 : decode cX3_lookAtRows 8 = .ok (.iconst 0, 1) := by decide +kernel
theorem dX3_lookAtRows_9 : decode cX3_lookAtRows 9 = .ok (.aaload, 1) := by decide +kernel
theorem dX3_lookAtRows_10 : decode cX3_lookAtRows 10 = .ok (.aload_n 2, 1) := by decide +kernel
theorem dX3_lookAtRows_11 : decode cX3_lookAtRows 11 = .ok (.invokevirtual 44, 3) := by decide +kernel
theorem dX3_lookAtRows_14 : decode cX3_lookAtRows 14 = .ok (.aload_n 0, 1) := by decide +kernel
theorem dX3_lookAtRows_15 : decode cX3_lookAtRows 15 = .ok (.getfield 18, 3) := by decide +kernel
theorem dX3_lookAtRows_18 : decode cX3_lookAtRows 18 = .ok (.iconst 0, 1) := by decide +kernel
theorem dX3_lookAtRows_19 : decode cX3_lookAtRows 19 = .ok (.iconst (-1), 1) := by decide +kernel
theorem dX3_lookAtRows_20 : decode cX3_lookAtRows 20 = .ok (.iastore, 1) := by decide +kernel
theorem dX3_lookAtRows_21 : decode cX3_lookAtRows 21 = .ok (.iconst 0, 1) := by decide +kernel
theorem dX3_lookAtRows_22 : decode cX3_lookAtRows 22 = .ok (.istore 5, 2) := by decide +kernel
theorem dX3_lookAtRows_24 : decode cX3_lookAtRows 24 = .ok (.iconst 0, 1) := by decide +kernel
theorem dX3_lookAtRows_25 : decode cX3_lookAtRows 25 = .ok (.istore 6, 2) := by decide +kernel
theorem dX3_lookAtRows_27 : decode cX3_lookAtRows 27 = .ok (.iload 6, 2) := by decide +kernel
theorem dX3_lookAtRows_29 : decode cX3_lookAtRows 29 = .ok (.ldc 48, 2) := by decide +kernel
theorem dX3_lookAtRows_31 : decode cX3_lookAtRows 31 = .ok (.if_icmp .ge 106, 3) := by decide +kernel
theorem dX3_lookAtRows_34 : decode cX3_lookAtRows 34 = .ok (.iload 5, 2) := by decide +kernel
theorem dX3_lookAtRows_36 : decode cX3_lookAtRows 36 = .ok (.ifCond .lt 101, 3) := by decide +kernel
theorem dX3_lookAtRows_39 : decode cX3_lookAtRows 39 = .ok (.aload_n 0, 1) := by decide +kernel
theorem dX3_lookAtRows_40 : decode cX3_lookAtRows 40 = .ok (.aload_n 1, 1) := by decide +kernel
theorem dX3_lookAtRows_41 : decode cX3_lookAtRows 41 = .ok (.iload 5, 2) := by decide +kernel
theorem dX3_lookAtRows_43 : decode cX3_lookAtRows 43 = .ok (.invokevirtual 49, 3) := by decide +kernel
theorem dX3_lookAtRows_46 : decode cX3_lookAtRows 46 = .ok (.istore 7, 2) := by decide +kernel
theorem dX3_lookAtRows_48 : decode cX3_lookAtRows 48 = .ok (.iload 7, 2) := by decide +kernel
theorem dX3_lookAtRows_50 : decode cX3_lookAtRows 50 = .ok (.bipush (-2), 2) := by decide +kernel
theorem dX3_lookAtRows_52 : decode cX3_lookAtRows 52 = .ok (.if_icmp .ne 9, 3) := by decide +kernel
theorem dX3_lookAtRows_55 : decode cX3_lookAtRows 55 = .ok (.iinc 5 (-1), 3) := by decide +kernel
theorem dX3_lookAtRows_58 : decode cX3_lookAtRows 58 = .ok (.goto 73, 3) := by decide +kernel
theorem dX3_lookAtRows_61 : decode cX3_lookAtRows 61 = .ok (.aload_n 0, 1) := by decide +kernel
theorem dX3_lookAtRows_62 : decode cX3_lookAtRows 62 = .ok (.getfield 18, 3) := by decide +kernel
theorem dX3_lookAtRows_65 : decode cX3_lookAtRows 65 = .ok (.iload 5, 2) := by decide +kernel
theorem dX3_lookAtRows_67 : decode cX3_lookAtRows 67 = .ok (.iload 7, 2) := by decide +kernel
theorem dX3_lookAtRows_69 : decode cX3_lookAtRows 69 = .ok (.iastore, 1) := by decide +kernel
theorem dX3_lookAtRows_70 : decode cX3_lookAtRows 70 = .ok (.aload_n 0, 1) := by decide +kernel
theorem dX3_lookAtRows_71 : decode cX3_lookAtRows 71 = .ok (.aload_n 1, 1) := by decide +kernel
theorem dX3_lookAtRows_72 : decode cX3_lookAtRows 72 = .ok (.iload 5, 2) := by decide +kernel
theorem dX3_lookAtRows_74 : decode cX3_lookAtRows 74 = .ok (.iload 7, 2) := by decide +kernel
theorem dX3_lookAtRows_76 : decode cX3_lookAtRows 76 = .ok (.invokevirtual 53, 3) := by decide +kernel
theorem dX3_lookAtRows_79 : decode cX3_lookAtRows 79 = .ok (.iload 5, 2) := by decide +kernel
theorem dX3_lookAtRows_81 : decode cX3_lookAtRows 81 = .ok (.iconst 1, 1) := by decide +kernel
theorem dX3_lookAtRows_82 : decode cX3_lookAtRows 82 = .ok (.iadd, 1) := by decide +kernel
theorem dX3_lookAtRows_83 : decode cX3_lookAtRows 83 = .ok (.iload_n 3, 1) := by decide +kernel
theorem dX3_lookAtRows_84 : decode cX3_lookAtRows 84 = .ok (.if_icmp .ge 17, 3) := by decide +kernel
theorem dX3_lookAtRows_87 : decode cX3_lookAtRows 87 = .ok (.iinc 5 1, 3) := by decide +kernel
theorem dX3_lookAtRows_90 : decode cX3_lookAtRows 90 = .ok (.aload_n 0, 1) := by decide +kernel
theorem dX3_lookAtRows_91 : decode cX3_lookAtRows 91 = .ok (.getfield 18, 3) := by decide +kernel
theorem dX3_lookAtRows_94 : decode cX3_lookAtRows 94 = .ok (.iload 5, 2) := by decide +kernel
theorem dX3_lookAtRows_96 : decode cX3_lookAtRows 96 = .ok (.iconst (-1), 1) := by decide +kernel
theorem dX3_lookAtRows_97 : decode cX3_lookAtRows 97 = .ok (.iastore, 1) := by decide +kernel
theorem dX3_lookAtRows_98 : decode cX3_lookAtRows 98 = .ok (.goto 33, 3) := by decide +kernel
theorem dX3_lookAtRows_101 : decode cX3_lookAtRows 101 = .ok (.aload_n 0, 1) := by decide +kernel
theorem dX3_lookAtRows_102 : decode cX3_lookAtRows 102 = .ok (.aload_n 1, 1) := by decide +kernel
theorem dX3_lookAtRows_103 : decode cX3_lookAtRows 103 = .ok (.aload_n 2, 1) := by decide +kernel
theorem dX3_lookAtRows_104 : decode cX3_lookAtRows 104 = .ok (.iload_n 3, 1) := by decide +kernel
theorem dX3_lookAtRows_105 : decode cX3_lookAtRows 105 = .ok (.invokevirtual 57, 3) := by decide +kernel
theorem dX3_lookAtRows_108 : decode cX3_lookAtRows 108 = .ok (.iload 4, 2) := by decide +kernel
theorem dX3_lookAtRows_110 : decode cX3_lookAtRows 110 = .ok (.ifCond .eq 21, 3) := by decide +kernel
theorem dX3_lookAtRows_113 : decode cX3_lookAtRows 113 = .ok (.aload_n 0, 1) := by decide +kernel
theorem dX3_lookAtRows_114 : decode cX3_lookAtRows 114 = .ok (.aload_n 0, 1) := by decide +kernel
theorem dX3_lookAtRows_115 : decode cX3_lookAtRows 115 = .ok (.getfield 25, 3) := by decide +kernel
theorem dX3_lookAtRows_118 : decode cX3_lookAtRows 118 = .ok (.aload_n 1, 1) := by decide +kernel
theorem dX3_lookAtRows_119 : decode cX3_lookAtRows 119 = .ok (.aload_n 2, 1) := by decide +kernel
theorem dX3_lookAtRows_120 : decode cX3_lookAtRows 120 = .ok (.aload_n 0, 1) := by decide +kernel
theorem dX3_lookAtRows_121 : decode cX3_lookAtRows 121 = .ok (.getfield 18, 3) := by decide +kernel
theorem dX3_lookAtRows_124 : decode cX3_lookAtRows 124 = .ok (.iload_n 3, 1) := by decide +kernel
theorem dX3_lookAtRows_125 : decode cX3_lookAtRows 125 = .ok (.invokevirtual 61, 3) := by decide +kernel
theorem dX3_lookAtRows_128 : decode cX3_lookAtRows 128 = .ok (.invokevirtual 65, 3) := by decide +kernel
theorem dX3_lookAtRows_131 : decode cX3_lookAtRows 131 = .ok (.iinc 6 1, 3) := by decide +kernel
theorem dX3_lookAtRows_134 : decode cX3_lookAtRows 134 = .ok (.goto (-107), 3) := by decide +kernel
theorem dX3_lookAtRows_137 : decode cX3_lookAtRows 137 = .ok (.return_, 1) := by decide +kernel
theorem dX3_forget_0 : decode cX3_forget 0 = .ok (.aload_n 0, 1) := by decide +kernel
theorem dX3_forget_1 : decode cX3_forget 1 = .ok (.iconst 0, 1) := by decide +kernel
theorem dX3_forget_2 : decode cX3_forget 2 = .ok (.putfield 69, 3) := by decide +kernel
theorem dX3_forget_5 : decode cX3_forget 5 = .ok (.aload_n 0, 1) := by decide +kernel
theorem dX3_forget_6 : decode cX3_forget 6 = .ok (.iconst (-1), 1) := by decide +kernel
theorem dX3_forget_7 : decode cX3_forget 7 = .ok (.putfield 73, 3) := by decide +kernel
theorem dX3_forget_10 : decode cX3_forget 10 = .ok (.aload_n 0, 1) := by decide +kernel
theorem dX3_forget_11 : decode cX3_forget 11 = .ok (.iconst 0, 1) := by decide +kernel
theorem dX3_forget_12 : decode cX3_forget 12 = .ok (.putfield 76, 3) := by decide +kernel
theorem dX3_forget_15 : decode cX3_forget 15 = .ok (.aload_n 0, 1) := by decide +kernel
theorem dX3_forget_16 : decode cX3_forget 16 = .ok (.iconst 0, 1) := by decide +kernel
theorem dX3_forget_17 : decode cX3_forget 17 = .ok (.putfield 79, 3) := by decide +kernel
theorem dX3_forget_20 : decode cX3_forget 20 = .ok (.return_, 1) := by decide +kernel
theorem dX3_following_0 : decode cX3_following 0 = .ok (.aload_n 0, 1) := by decide +kernel
theorem dX3_following_1 : decode cX3_following 1 = .ok (.getfield 12, 3) := by decide +kernel
theorem dX3_following_4 : decode cX3_following 4 = .ok (.iload_n 2, 1) := by decide +kernel
theorem dX3_following_5 : decode cX3_following 5 = .ok (.aaload, 1) := by decide +kernel
theorem dX3_following_6 : decode cX3_following 6 = .ok (.astore_n 3, 1) := by decide +kernel
theorem dX3_following_7 : decode cX3_following 7 = .ok (.aload_n 1, 1) := by decide +kernel
theorem dX3_following_8 : decode cX3_following 8 = .ok (.aload_n 3, 1) := by decide +kernel
theorem dX3_following_9 : decode cX3_following 9 = .ok (.getfield 82, 3) := by decide +kernel
theorem dX3_following_12 : decode cX3_following 12 = .ok (.invokevirtual 85, 3) := by decide +kernel
theorem dX3_following_15 : decode cX3_following 15 = .ok (.ifCond .eq 21, 3) := by decide +kernel
theorem dX3_following_18 : decode cX3_following 18 = .ok (.aload_n 0, 1) := by decide +kernel
theorem dX3_following_19 : decode cX3_following 19 = .ok (.getfield 18, 3) := by decide +kernel
theorem dX3_following_22 : decode cX3_following 22 = .ok (.iload_n 2, 1) := by decide +kernel
theorem dX3_following_23 : decode cX3_following 23 = .ok (.iaload, 1) := by decide +kernel
theorem dX3_following_24 : decode cX3_following 24 = .ok (.iconst (-1), 1) := by decide +kernel
theorem dX3_following_25 : decode cX3_following 25 = .ok (.if_icmp .ne 8, 3) := by decide +kernel
theorem dX3_following_28 : decode cX3_following 28 = .ok (.bipush (-4), 2) := by decide +kernel
theorem dX3_following_30 : decode cX3_following 30 = .ok (.goto 5, 3) := by decide +kernel
theorem dX3_following_33 : decode cX3_following 33 = .ok (.bipush (-2), 2) := by decide +kernel
theorem dX3_following_35 : decode cX3_following 35 = .ok (.ireturn, 1) := by decide +kernel
theorem dX3_following_36 : decode cX3_following 36 = .ok (.aload_n 0, 1) := by decide +kernel
theorem dX3_following_37 : decode cX3_following 37 = .ok (.getfield 18, 3) := by decide +kernel
theorem dX3_following_40 : decode cX3_following 40 = .ok (.iload_n 2, 1) := by decide +kernel
theorem dX3_following_41 : decode cX3_following 41 = .ok (.iaload, 1) := by decide +kernel
theorem dX3_following_42 : decode cX3_following 42 = .ok (.iconst 1, 1) := by decide +kernel
theorem dX3_following_43 : decode cX3_following 43 = .ok (.iadd, 1) := by decide +kernel
theorem dX3_following_44 : decode cX3_following 44 = .ok (.istore 4, 2) := by decide +kernel
theorem dX3_following_46 : decode cX3_following 46 = .ok (.iload 4, 2) := by decide +kernel
theorem dX3_following_48 : decode cX3_following 48 = .ok (.aload_n 1, 1) := by decide +kernel
theorem dX3_following_49 : decode cX3_following 49 = .ok (.getfield 91, 3) := by decide +kernel
theorem dX3_following_52 : decode cX3_following 52 = .ok (.if_icmp .ge 23, 3) := by decide +kernel
theorem dX3_following_55 : decode cX3_following 55 = .ok (.aload_n 3, 1) := by decide +kernel
theorem dX3_following_56 : decode cX3_following 56 = .ok (.aload_n 1, 1) := by decide +kernel
theorem dX3_following_57 : decode cX3_following 57 = .ok (.iload 4, 2) := by decide +kernel
theorem dX3_following_59 : decode cX3_following 59 = .ok (.iconst 0, 1) := by decide +kernel
theorem dX3_following_60 : decode cX3_following 60 = .ok (.invokevirtual 94, 3) := by decide +kernel
theorem dX3_following_63 : decode cX3_following 63 = .ok (.ifCond .ne 6, 3) := by decide +kernel
theorem dX3_following_66 : decode cX3_following 66 = .ok (.iload 4, 2) := by decide +kernel
theorem dX3_following_68 : decode cX3_following 68 = .ok (.ireturn, 1) := by decide +kernel
theorem dX3_following_69 : decode cX3_following 69 = .ok (.iinc 4 1, 3) := by decide +kernel
theorem dX3_following_72 : decode cX3_following 72 = .ok (.goto (-26), 3) := by decide +kernel
theorem dX3_following_75 : decode cX3_following 75 = .ok (.bipush (-2), 2) := by decide +kernel
theorem dX3_following_77 : decode cX3_following 77 = .ok (.ireturn, 1) := by decide +kernel
theorem dX3_takeDay_0 : decode cX3_takeDay 0 = .ok (.aload_n 0, 1) := by decide +kernel
theorem dX3_takeDay_1 : decode cX3_takeDay 1 = .ok (.getfield 12, 3) := by decide +kernel
theorem dX3_takeDay_4 : decode cX3_takeDay 4 = .ok (.iload_n 2, 1) := by decide +kernel
theorem dX3_takeDay_5 : decode cX3_takeDay 5 = .ok (.iconst 1, 1) := by decide +kernel
theorem dX3_takeDay_6 : decode cX3_takeDay 6 = .ok (.iadd, 1) := by decide +kernel
theorem dX3_takeDay_7 : decode cX3_takeDay 7 = .ok (.aaload, 1) := by decide +kernel
theorem dX3_takeDay_8 : decode cX3_takeDay 8 = .ok (.astore 4, 2) := by decide +kernel
theorem dX3_takeDay_10 : decode cX3_takeDay 10 = .ok (.aload 4, 2) := by decide +kernel
theorem dX3_takeDay_12 : decode cX3_takeDay 12 = .ok (.aload_n 0, 1) := by decide +kernel
theorem dX3_takeDay_13 : decode cX3_takeDay 13 = .ok (.getfield 12, 3) := by decide +kernel
theorem dX3_takeDay_16 : decode cX3_takeDay 16 = .ok (.iload_n 2, 1) := by decide +kernel
theorem dX3_takeDay_17 : decode cX3_takeDay 17 = .ok (.aaload, 1) := by decide +kernel
theorem dX3_takeDay_18 : decode cX3_takeDay 18 = .ok (.invokevirtual 98, 3) := by decide +kernel
theorem dX3_takeDay_21 : decode cX3_takeDay 21 = .ok (.iload_n 3, 1) := by decide +kernel
theorem dX3_takeDay_22 : decode cX3_takeDay 22 = .ok (.bipush (-4), 2) := by decide +kernel
theorem dX3_takeDay_24 : decode cX3_takeDay 24 = .ok (.if_icmp .eq 12, 3) := by decide +kernel
theorem dX3_takeDay_27 : decode cX3_takeDay 27 = .ok (.aload 4, 2) := by decide +kernel
theorem dX3_takeDay_29 : decode cX3_takeDay 29 = .ok (.aload_n 1, 1) := by decide +kernel
theorem dX3_takeDay_30 : decode cX3_takeDay 30 = .ok (.iload_n 3, 1) := by decide +kernel
theorem dX3_takeDay_31 : decode cX3_takeDay 31 = .ok (.iconst 0, 1) := by decide +kernel
theorem dX3_takeDay_32 : decode cX3_takeDay 32 = .ok (.invokevirtual 101, 3) := by decide +kernel
theorem dX3_takeDay_35 : decode cX3_takeDay 35 = .ok (.pop, 1) := by decide +kernel
theorem dX3_takeDay_36 : decode cX3_takeDay 36 = .ok (.aload 4, 2) := by decide +kernel
theorem dX3_takeDay_38 : decode cX3_takeDay 38 = .ok (.aload_n 1, 1) := by decide +kernel
theorem dX3_takeDay_39 : decode cX3_takeDay 39 = .ok (.invokevirtual 104, 3) := by decide +kernel
theorem dX3_takeDay_42 : decode cX3_takeDay 42 = .ok (.pop, 1) := by decide +kernel
theorem dX3_takeDay_43 : decode cX3_takeDay 43 = .ok (.return_, 1) := by decide +kernel
theorem dX3_judge_0 : decode cX3_judge 0 = .ok (.aload_n 0, 1) := by decide +kernel
theorem dX3_judge_1 : decode cX3_judge 1 = .ok (.getfield 12, 3) := by decide +kernel
theorem dX3_judge_4 : decode cX3_judge 4 = .ok (.iload_n 3, 1) := by decide +kernel
theorem dX3_judge_5 : decode cX3_judge 5 = .ok (.aaload, 1) := by decide +kernel
theorem dX3_judge_6 : decode cX3_judge 6 = .ok (.astore 4, 2) := by decide +kernel
theorem dX3_judge_8 : decode cX3_judge 8 = .ok (.aload_n 0, 1) := by decide +kernel
theorem dX3_judge_9 : decode cX3_judge 9 = .ok (.dup, 1) := by decide +kernel
theorem dX3_judge_10 : decode cX3_judge 10 = .ok (.getfield 69, 3) := by decide +kernel
theorem dX3_judge_13 : decode cX3_judge 13 = .ok (.iconst 1, 1) := by decide +kernel
theorem dX3_judge_14 : decode cX3_judge 14 = .ok (.iadd, 1) := by decide +kernel
theorem dX3_judge_15 : decode cX3_judge 15 = .ok (.putfield 69, 3) := by decide +kernel
theorem dX3_judge_18 : decode cX3_judge 18 = .ok (.aload 4, 2) := by decide +kernel
theorem dX3_judge_20 : decode cX3_judge 20 = .ok (.getfield 108, 3) := by decide +kernel
theorem dX3_judge_23 : decode cX3_judge 23 = .ok (.i2l, 1) := by decide +kernel
theorem dX3_judge_24 : decode cX3_judge 24 = .ok (.ldc2_w 111, 3) := by decide +kernel
theorem dX3_judge_27 : decode cX3_judge 27 = .ok (.lmul, 1) := by decide +kernel
theorem dX3_judge_28 : decode cX3_judge 28 = .ok (.aload 4, 2) := by decide +kernel
theorem dX3_judge_30 : decode cX3_judge 30 = .ok (.getfield 113, 3) := by decide +kernel
theorem dX3_judge_33 : decode cX3_judge 33 = .ok (.i2l, 1) := by decide +kernel
theorem dX3_judge_34 : decode cX3_judge 34 = .ok (.ladd, 1) := by decide +kernel
theorem dX3_judge_35 : decode cX3_judge 35 = .ok (.ldc2_w 111, 3) := by decide +kernel
theorem dX3_judge_38 : decode cX3_judge 38 = .ok (.lmul, 1) := by decide +kernel
theorem dX3_judge_39 : decode cX3_judge 39 = .ok (.aload 4, 2) := by decide +kernel
theorem dX3_judge_41 : decode cX3_judge 41 = .ok (.getfield 116, 3) := by decide +kernel
theorem dX3_judge_44 : decode cX3_judge 44 = .ok (.i2l, 1) := by decide +kernel
theorem dX3_judge_45 : decode cX3_judge 45 = .ok (.lsub, 1) := by decide +kernel
theorem dX3_judge_46 : decode cX3_judge 46 = .ok (.lstore 5, 2) := by decide +kernel
theorem dX3_judge_48 : decode cX3_judge 48 = .ok (.aload_n 0, 1) := by decide +kernel
theorem dX3_judge_49 : decode cX3_judge 49 = .ok (.lload 5, 2) := by decide +kernel
theorem dX3_judge_51 : decode cX3_judge 51 = .ok (.aload 4, 2) := by decide +kernel
theorem dX3_judge_53 : decode cX3_judge 53 = .ok (.invokevirtual 119, 3) := by decide +kernel
theorem dX3_judge_56 : decode cX3_judge 56 = .ok (.aload_n 0, 1) := by decide +kernel
theorem dX3_judge_57 : decode cX3_judge 57 = .ok (.lload 5, 2) := by decide +kernel
theorem dX3_judge_59 : decode cX3_judge 59 = .ok (.aload_n 1, 1) := by decide +kernel
theorem dX3_judge_60 : decode cX3_judge 60 = .ok (.aload_n 0, 1) := by decide +kernel
theorem dX3_judge_61 : decode cX3_judge 61 = .ok (.getfield 18, 3) := by decide +kernel
theorem dX3_judge_64 : decode cX3_judge 64 = .ok (.iload_n 3, 1) := by decide +kernel
theorem dX3_judge_65 : decode cX3_judge 65 = .ok (.invokevirtual 123, 3) := by decide +kernel
theorem dX3_judge_68 : decode cX3_judge 68 = .ok (.invokevirtual 127, 3) := by decide +kernel
theorem dX3_judge_71 : decode cX3_judge 71 = .ok (.aload_n 1, 1) := by decide +kernel
theorem dX3_judge_72 : decode cX3_judge 72 = .ok (.aload_n 2, 1) := by decide +kernel
theorem dX3_judge_73 : decode cX3_judge 73 = .ok (.aload 4, 2) := by decide +kernel
theorem dX3_judge_75 : decode cX3_judge 75 = .ok (.aload_n 0, 1) := by decide +kernel
theorem dX3_judge_76 : decode cX3_judge 76 = .ok (.getfield 18, 3) := by decide +kernel
theorem dX3_judge_79 : decode cX3_judge 79 = .ok (.iload_n 3, 1) := by decide +kernel
theorem dX3_judge_80 : decode cX3_judge 80 = .ok (.invokevirtual 131, 3) := by decide +kernel
theorem dX3_judge_83 : decode cX3_judge 83 = .ok (.ifCond .eq 8, 3) := by decide +kernel
theorem dX3_judge_86 : decode cX3_judge 86 = .ok (.aload_n 0, 1) := by decide +kernel
theorem dX3_judge_87 : decode cX3_judge 87 = .ok (.iload_n 3, 1) := by decide +kernel
theorem dX3_judge_88 : decode cX3_judge 88 = .ok (.invokevirtual 135, 3) := by decide +kernel
theorem dX3_judge_91 : decode cX3_judge 91 = .ok (.return_, 1) := by decide +kernel
theorem dX3_judgeBest_0 : decode cX3_judgeBest 0 = .ok (.aload_n 0, 1) := by decide +kernel
theorem dX3_judgeBest_1 : decode cX3_judgeBest 1 = .ok (.getfield 69, 3) := by decide +kernel
theorem dX3_judgeBest_4 : decode cX3_judgeBest 4 = .ok (.iconst 1, 1) := by decide +kernel
theorem dX3_judgeBest_5 : decode cX3_judgeBest 5 = .ok (.if_icmp .eq 12, 3) := by decide +kernel
theorem dX3_judgeBest_8 : decode cX3_judgeBest 8 = .ok (.lload_n 1, 1) := by decide +kernel
theorem dX3_judgeBest_9 : decode cX3_judgeBest 9 = .ok (.aload_n 0, 1) := by decide +kernel
theorem dX3_judgeBest_10 : decode cX3_judgeBest 10 = .ok (.getfield 138, 3) := by decide +kernel
theorem dX3_judgeBest_13 : decode cX3_judgeBest 13 = .ok (.lcmp, 1) := by decide +kernel
theorem dX3_judgeBest_14 : decode cX3_judgeBest 14 = .ok (.ifCond .ge 51, 3) := by decide +kernel
theorem dX3_judgeBest_17 : decode cX3_judgeBest 17 = .ok (.aload_n 0, 1) := by decide +kernel
theorem dX3_judgeBest_18 : decode cX3_judgeBest 18 = .ok (.lload_n 1, 1) := by decide +kernel
theorem dX3_judgeBest_19 : decode cX3_judgeBest 19 = .ok (.putfield 138, 3) := by decide +kernel
theorem dX3_judgeBest_22 : decode cX3_judgeBest 22 = .ok (.aload_n 0, 1) := by decide +kernel
theorem dX3_judgeBest_23 : decode cX3_judgeBest 23 = .ok (.iconst 0, 1) := by decide +kernel
theorem dX3_judgeBest_24 : decode cX3_judgeBest 24 = .ok (.putfield 142, 3) := by decide +kernel
theorem dX3_judgeBest_27 : decode cX3_judgeBest 27 = .ok (.aload_n 0, 1) := by decide +kernel
theorem dX3_judgeBest_28 : decode cX3_judgeBest 28 = .ok (.aload_n 3, 1) := by decide +kernel
theorem dX3_judgeBest_29 : decode cX3_judgeBest 29 = .ok (.getfield 108, 3) := by decide +kernel
theorem dX3_judgeBest_32 : decode cX3_judgeBest 32 = .ok (.putfield 145, 3) := by decide +kernel
theorem dX3_judgeBest_35 : decode cX3_judgeBest 35 = .ok (.aload_n 0, 1) := by decide +kernel
theorem dX3_judgeBest_36 : decode cX3_judgeBest 36 = .ok (.aload_n 3, 1) := by decide +kernel
theorem dX3_judgeBest_37 : decode cX3_judgeBest 37 = .ok (.getfield 113, 3) := by decide +kernel
theorem dX3_judgeBest_40 : decode cX3_judgeBest 40 = .ok (.putfield 148, 3) := by decide +kernel
theorem dX3_judgeBest_43 : decode cX3_judgeBest 43 = .ok (.aload_n 0, 1) := by decide +kernel
theorem dX3_judgeBest_44 : decode cX3_judgeBest 44 = .ok (.aload_n 3, 1) := by decide +kernel
theorem dX3_judgeBest_45 : decode cX3_judgeBest 45 = .ok (.getfield 116, 3) := by decide +kernel
theorem dX3_judgeBest_48 : decode cX3_judgeBest 48 = .ok (.putfield 151, 3) := by decide +kernel
theorem dX3_judgeBest_51 : decode cX3_judgeBest 51 = .ok (.aload_n 0, 1) := by decide +kernel
theorem dX3_judgeBest_52 : decode cX3_judgeBest 52 = .ok (.getfield 18, 3) := by decide +kernel
theorem dX3_judgeBest_55 : decode cX3_judgeBest 55 = .ok (.iconst 0, 1) := by decide +kernel
theorem dX3_judgeBest_56 : decode cX3_judgeBest 56 = .ok (.aload_n 0, 1) := by decide +kernel
theorem dX3_judgeBest_57 : decode cX3_judgeBest 57 = .ok (.getfield 29, 3) := by decide +kernel
theorem dX3_judgeBest_60 : decode cX3_judgeBest 60 = .ok (.iconst 0, 1) := by decide +kernel
theorem dX3_judgeBest_61 : decode cX3_judgeBest 61 = .ok (.iconst 5, 1) := by decide +kernel
theorem dX3_judgeBest_62 : decode cX3_judgeBest 62 = .ok (.invokestatic 154, 3) := by decide +kernel
theorem dX3_judgeBest_65 : decode cX3_judgeBest 65 = .ok (.lload_n 1, 1) := by decide +kernel
theorem dX3_judgeBest_66 : decode cX3_judgeBest 66 = .ok (.aload_n 0, 1) := by decide +kernel
theorem dX3_judgeBest_67 : decode cX3_judgeBest 67 = .ok (.getfield 138, 3) := by decide +kernel
theorem dX3_judgeBest_70 : decode cX3_judgeBest 70 = .ok (.lcmp, 1) := by decide +kernel
theorem dX3_judgeBest_71 : decode cX3_judgeBest 71 = .ok (.ifCond .ne 13, 3) := by decide +kernel
theorem dX3_judgeBest_74 : decode cX3_judgeBest 74 = .ok (.aload_n 0, 1) := by decide +kernel
theorem dX3_judgeBest_75 : decode cX3_judgeBest 75 = .ok (.dup, 1) := by decide +kernel
theorem dX3_judgeBest_76 : decode cX3_judgeBest 76 = .ok (.getfield 142, 3) := by decide +kernel
theorem dX3_judgeBest_79 : decode cX3_judgeBest 79 = .ok (.iconst 1, 1) := by decide +kernel
theorem dX3_judgeBest_80 : decode cX3_judgeBest 80 = .ok (.iadd, 1) := by decide +kernel
theorem dX3_judgeBest_81 : decode cX3_judgeBest 81 = .ok (.putfield 142, 3) := by decide +kernel
theorem dX3_judgeBest_84 : decode cX3_judgeBest 84 = .ok (.return_, 1) := by decide +kernel
theorem dX3_judgeFairest_0 : decode cX3_judgeFairest 0 = .ok (.iload_n 3, 1) := by decide +kernel
theorem dX3_judgeFairest_1 : decode cX3_judgeFairest 1 = .ok (.aload_n 0, 1) := by decide +kernel
theorem dX3_judgeFairest_2 : decode cX3_judgeFairest 2 = .ok (.getfield 160, 3) := by decide +kernel
theorem dX3_judgeFairest_5 : decode cX3_judgeFairest 5 = .ok (.if_icmp .gt 20, 3) := by decide +kernel
theorem dX3_judgeFairest_8 : decode cX3_judgeFairest 8 = .ok (.iload_n 3, 1) := by decide +kernel
theorem dX3_judgeFairest_9 : decode cX3_judgeFairest 9 = .ok (.aload_n 0, 1) := by decide +kernel
theorem dX3_judgeFairest_10 : decode cX3_judgeFairest 10 = .ok (.getfield 160, 3) := by decide +kernel
theorem dX3_judgeFairest_13 : decode cX3_judgeFairest 13 = .ok (.if_icmp .ne 16, 3) := by decide +kernel
theorem dX3_judgeFairest_16 : decode cX3_judgeFairest 16 = .ok (.lload_n 1, 1) := by decide +kernel
theorem dX3_judgeFairest_17 : decode cX3_judgeFairest 17 = .ok (.aload_n 0, 1) := by decide +kernel
theorem dX3_judgeFairest_18 : decode cX3_judgeFairest 18 = .ok (.getfield 163, 3) := by decide +kernel
theorem dX3_judgeFairest_21 : decode cX3_judgeFairest 21 = .ok (.lcmp, 1) := by decide +kernel
theorem dX3_judgeFairest_22 : decode cX3_judgeFairest 22 = .ok (.ifCond .ge 7, 3) := by decide +kernel
theorem dX3_judgeFairest_25 : decode cX3_judgeFairest 25 = .ok (.iconst 1, 1) := by decide +kernel
theorem dX3_judgeFairest_26 : decode cX3_judgeFairest 26 = .ok (.goto 4, 3) := by decide +kernel
theorem dX3_judgeFairest_29 : decode cX3_judgeFairest 29 = .ok (.iconst 0, 1) := by decide +kernel
theorem dX3_judgeFairest_30 : decode cX3_judgeFairest 30 = .ok (.istore 4, 2) := by decide +kernel
theorem dX3_judgeFairest_32 : decode cX3_judgeFairest 32 = .ok (.aload_n 0, 1) := by decide +kernel
theorem dX3_judgeFairest_33 : decode cX3_judgeFairest 33 = .ok (.getfield 69, 3) := by decide +kernel
theorem dX3_judgeFairest_36 : decode cX3_judgeFairest 36 = .ok (.iconst 1, 1) := by decide +kernel
theorem dX3_judgeFairest_37 : decode cX3_judgeFairest 37 = .ok (.if_icmp .eq 8, 3) := by decide +kernel
theorem dX3_judgeFairest_40 : decode cX3_judgeFairest 40 = .ok (.iload 4, 2) := by decide +kernel
theorem dX3_judgeFairest_42 : decode cX3_judgeFairest 42 = .ok (.ifCond .eq 27, 3) := by decide +kernel
theorem dX3_judgeFairest_45 : decode cX3_judgeFairest 45 = .ok (.aload_n 0, 1) := by decide +kernel
theorem dX3_judgeFairest_46 : decode cX3_judgeFairest 46 = .ok (.iload_n 3, 1) := by decide +kernel
theorem dX3_judgeFairest_47 : decode cX3_judgeFairest 47 = .ok (.putfield 160, 3) := by decide +kernel
theorem dX3_judgeFairest_50 : decode cX3_judgeFairest 50 = .ok (.aload_n 0, 1) := by decide +kernel
theorem dX3_judgeFairest_51 : decode cX3_judgeFairest 51 = .ok (.lload_n 1, 1) := by decide +kernel
theorem dX3_judgeFairest_52 : decode cX3_judgeFairest 52 = .ok (.putfield 163, 3) := by decide +kernel
theorem dX3_judgeFairest_55 : decode cX3_judgeFairest 55 = .ok (.aload_n 0, 1) := by decide +kernel
theorem dX3_judgeFairest_56 : decode cX3_judgeFairest 56 = .ok (.getfield 18, 3) := by decide +kernel
theorem dX3_judgeFairest_59 : decode cX3_judgeFairest 59 = .ok (.iconst 0, 1) := by decide +kernel
theorem dX3_judgeFairest_60 : decode cX3_judgeFairest 60 = .ok (.aload_n 0, 1) := by decide +kernel
theorem dX3_judgeFairest_61 : decode cX3_judgeFairest 61 = .ok (.getfield 32, 3) := by decide +kernel
theorem dX3_judgeFairest_64 : decode cX3_judgeFairest 64 = .ok (.iconst 0, 1) := by decide +kernel
theorem dX3_judgeFairest_65 : decode cX3_judgeFairest 65 = .ok (.iconst 5, 1) := by decide +kernel
theorem dX3_judgeFairest_66 : decode cX3_judgeFairest 66 = .ok (.invokestatic 154, 3) := by decide +kernel
theorem dX3_judgeFairest_69 : decode cX3_judgeFairest 69 = .ok (.return_, 1) := by decide +kernel
theorem dX3_judgeSurest_0 : decode cX3_judgeSurest 0 = .ok (.iload_n 1, 1) := by decide +kernel
theorem dX3_judgeSurest_1 : decode cX3_judgeSurest 1 = .ok (.aload_n 0, 1) := by decide +kernel
theorem dX3_judgeSurest_2 : decode cX3_judgeSurest 2 = .ok (.getfield 73, 3) := by decide +kernel
theorem dX3_judgeSurest_5 : decode cX3_judgeSurest 5 = .ok (.if_icmp .le 22, 3) := by decide +kernel
theorem dX3_judgeSurest_8 : decode cX3_judgeSurest 8 = .ok (.aload_n 0, 1) := by decide +kernel
theorem dX3_judgeSurest_9 : decode cX3_judgeSurest 9 = .ok (.iload_n 1, 1) := by decide +kernel
theorem dX3_judgeSurest_10 : decode cX3_judgeSurest 10 = .ok (.putfield 73, 3) := by decide +kernel
theorem dX3_judgeSurest_13 : decode cX3_judgeSurest 13 = .ok (.aload_n 0, 1) := by decide +kernel
theorem dX3_judgeSurest_14 : decode cX3_judgeSurest 14 = .ok (.getfield 18, 3) := by decide +kernel
theorem dX3_judgeSurest_17 : decode cX3_judgeSurest 17 = .ok (.iconst 0, 1) := by decide +kernel
theorem dX3_judgeSurest_18 : decode cX3_judgeSurest 18 = .ok (.aload_n 0, 1) := by decide +kernel
theorem dX3_judgeSurest_19 : decode cX3_judgeSurest 19 = .ok (.getfield 35, 3) := by decide +kernel
theorem dX3_judgeSurest_22 : decode cX3_judgeSurest 22 = .ok (.iconst 0, 1) := by decide +kernel
theorem dX3_judgeSurest_23 : decode cX3_judgeSurest 23 = .ok (.iconst 5, 1) := by decide +kernel
theorem dX3_judgeSurest_24 : decode cX3_judgeSurest 24 = .ok (.invokestatic 154, 3) := by decide +kernel
theorem dX3_judgeSurest_27 : decode cX3_judgeSurest 27 = .ok (.return_, 1) := by decide +kernel
theorem dX3_addClosing_0 : decode cX3_addClosing 0 = .ok (.aload_n 0, 1) := by decide +kernel
theorem dX3_addClosing_1 : decode cX3_addClosing 1 = .ok (.getfield 76, 3) := by decide +kernel
theorem dX3_addClosing_4 : decode cX3_addClosing 4 = .ok (.ifCond .ne 17, 3) := by decide +kernel
theorem dX3_addClosing_7 : decode cX3_addClosing 7 = .ok (.aload_n 0, 1) := by decide +kernel
theorem dX3_addClosing_8 : decode cX3_addClosing 8 = .ok (.getfield 18, 3) := by decide +kernel
theorem dX3_addClosing_11 : decode cX3_addClosing 11 = .ok (.iconst 0, 1) := by decide +kernel
theorem dX3_addClosing_12 : decode cX3_addClosing 12 = .ok (.aload_n 0, 1) := by decide +kernel
theorem dX3_addClosing_13 : decode cX3_addClosing 13 = .ok (.getfield 38, 3) := by decide +kernel
theorem dX3_addClosing_16 : decode cX3_addClosing 16 = .ok (.iconst 0, 1) := by decide +kernel
theorem dX3_addClosing_17 : decode cX3_addClosing 17 = .ok (.iconst 5, 1) := by decide +kernel
theorem dX3_addClosing_18 : decode cX3_addClosing 18 = .ok (.invokestatic 154, 3) := by decide +kernel
theorem dX3_addClosing_21 : decode cX3_addClosing 21 = .ok (.aload_n 0, 1) := by decide +kernel
theorem dX3_addClosing_22 : decode cX3_addClosing 22 = .ok (.dup, 1) := by decide +kernel
theorem dX3_addClosing_23 : decode cX3_addClosing 23 = .ok (.getfield 76, 3) := by decide +kernel
theorem dX3_addClosing_26 : decode cX3_addClosing 26 = .ok (.iconst 1, 1) := by decide +kernel
theorem dX3_addClosing_27 : decode cX3_addClosing 27 = .ok (.iadd, 1) := by decide +kernel
theorem dX3_addClosing_28 : decode cX3_addClosing 28 = .ok (.putfield 76, 3) := by decide +kernel
theorem dX3_addClosing_31 : decode cX3_addClosing 31 = .ok (.iconst 0, 1) := by decide +kernel
theorem dX3_addClosing_32 : decode cX3_addClosing 32 = .ok (.istore_n 2, 1) := by decide +kernel
theorem dX3_addClosing_33 : decode cX3_addClosing 33 = .ok (.iload_n 2, 1) := by decide +kernel
theorem dX3_addClosing_34 : decode cX3_addClosing 34 = .ok (.iload_n 1, 1) := by decide +kernel
theorem dX3_addClosing_35 : decode cX3_addClosing 35 = .ok (.if_icmp .ge 37, 3) := by decide +kernel
theorem dX3_addClosing_38 : decode cX3_addClosing 38 = .ok (.aload_n 0, 1) := by decide +kernel
theorem dX3_addClosing_39 : decode cX3_addClosing 39 = .ok (.getfield 18, 3) := by decide +kernel
theorem dX3_addClosing_42 : decode cX3_addClosing 42 = .ok (.iload_n 2, 1) := by decide +kernel
theorem dX3_addClosing_43 : decode cX3_addClosing 43 = .ok (.iaload, 1) := by decide +kernel
theorem dX3_addClosing_44 : decode cX3_addClosing 44 = .ok (.bipush (-4), 2) := by decide +kernel
theorem dX3_addClosing_46 : decode cX3_addClosing 46 = .ok (.if_icmp .eq 20, 3) := by decide +kernel
theorem dX3_addClosing_49 : decode cX3_addClosing 49 = .ok (.aload_n 0, 1) := by decide +kernel
theorem dX3_addClosing_50 : decode cX3_addClosing 50 = .ok (.dup, 1) := by decide +kernel
theorem dX3_addClosing_51 : decode cX3_addClosing 51 = .ok (.getfield 79, 3) := by decide +kernel
theorem dX3_addClosing_54 : decode cX3_addClosing 54 = .ok (.iconst 1, 1) := by decide +kernel
theorem dX3_addClosing_55 : decode cX3_addClosing 55 = .ok (.aload_n 0, 1) := by decide +kernel
theorem dX3_addClosing_56 : decode cX3_addClosing 56 = .ok (.getfield 18, 3) := by decide +kernel
theorem dX3_addClosing_59 : decode cX3_addClosing 59 = .ok (.iload_n 2, 1) := by decide +kernel
theorem dX3_addClosing_60 : decode cX3_addClosing 60 = .ok (.iaload, 1) := by decide +kernel
theorem dX3_addClosing_61 : decode cX3_addClosing 61 = .ok (.ishl, 1) := by decide +kernel
theorem dX3_addClosing_62 : decode cX3_addClosing 62 = .ok (.ior, 1) := by decide +kernel
theorem dX3_addClosing_63 : decode cX3_addClosing 63 = .ok (.putfield 79, 3) := by decide +kernel
theorem dX3_addClosing_66 : decode cX3_addClosing 66 = .ok (.iinc 2 1, 3) := by decide +kernel
theorem dX3_addClosing_69 : decode cX3_addClosing 69 = .ok (.goto (-36), 3) := by decide +kernel
theorem dX3_addClosing_72 : decode cX3_addClosing 72 = .ok (.return_, 1) := by decide +kernel
theorem dX4_init_0 : decode cX4_init 0 = .ok (.aload_n 0, 1) := by decide +kernel
theorem dX4_init_1 : decode cX4_init 1 = .ok (.invokespecial 3, 3) := by decide +kernel
theorem dX4_init_4 : decode cX4_init 4 = .ok (.aload_n 0, 1) := by decide +kernel
theorem dX4_init_5 : decode cX4_init 5 = .ok (.iconst 4, 1) := by decide +kernel
theorem dX4_init_6 : decode cX4_init 6 = .ok (.newarray .int, 2) := by decide +kernel
theorem dX4_init_8 : decode cX4_init 8 = .ok (.putfield 9, 3) := by decide +kernel
theorem dX4_init_11 : decode cX4_init 11 = .ok (.aload_n 0, 1) := by decide +kernel
theorem dX4_init_12 : decode cX4_init 12 = .ok (.iconst 4, 1) := by decide +kernel
theorem dX4_init_13 : decode cX4_init 13 = .ok (.newarray .int, 2) := by decide +kernel
theorem dX4_init_15 : decode cX4_init 15 = .ok (.putfield 15, 3) := by decide +kernel
theorem dX4_init_18 : decode cX4_init 18 = .ok (.aload_n 0, 1) := by decide +kernel
theorem dX4_init_19 : decode cX4_init 19 = .ok (.sipush 160, 3) := by decide +kernel
theorem dX4_init_22 : decode cX4_init 22 = .ok (.newarray .int, 2) := by decide +kernel
theorem dX4_init_24 : decode cX4_init 24 = .ok (.putfield 18, 3) := by decide +kernel
theorem dX4_init_27 : decode cX4_init 27 = .ok (.iconst 0, 1) := by decide +kernel
theorem dX4_init_28 : decode cX4_init 28 = .ok (.istore_n 1, 1) := by decide +kernel
theorem dX4_init_29 : decode cX4_init 29 = .ok (.iload_n 1, 1) := by decide +kernel
theorem dX4_init_30 : decode cX4_init 30 = .ok (.iconst 4, 1) := by decide +kernel
theorem dX4_init_31 : decode cX4_init 31 = .ok (.if_icmp .ge 17, 3) := by decide +kernel
theorem dX4_init_34 : decode cX4_init 34 = .ok (.aload_n 0, 1) := by decide +kernel
theorem dX4_init_35 : decode cX4_init 35 = .ok (.getfield 9, 3) := by decide +kernel
theorem dX4_init_38 : decode cX4_init 38 = .ok (.iload_n 1, 1) := by decide +kernel
theorem dX4_init_39 : decode cX4_init 39 = .ok (.bipush (-4), 2) := by decide +kernel
theorem dX4_init_41 : decode cX4_init 41 = .ok (.iastore, 1) := by decide +kernel
theorem dX4_init_42 : decode cX4_init 42 = .ok (.iinc 1 1, 3) := by decide +kernel
theorem dX4_init_45 : decode cX4_init 45 = .ok (.goto (-16), 3) := by decide +kernel
theorem dX4_init_48 : decode cX4_init 48 = .ok (.return_, 1) := by decide +kernel
theorem dX4_isNothing_0 : decode cX4_isNothing 0 = .ok (.aload_n 0, 1) := by decide +kernel
theorem dX4_isNothing_1 : decode cX4_isNothing 1 = .ok (.getfield 9, 3) := by decide +kernel
theorem dX4_isNothing_4 : decode cX4_isNothing 4 = .ok (.iload_n 1, 1) := by decide +kernel
theorem dX4_isNothing_5 : decode cX4_isNothing 5 = .ok (.iaload, 1) := by decide +kernel
theorem dX4_isNothing_6 : decode cX4_isNothing 6 = .ok (.bipush (-4), 2) := by decide +kernel
theorem dX4_isNothing_8 : decode cX4_isNothing 8 = .ok (.if_icmp .ne 7, 3) := by decide +kernel
theorem dX4_isNothing_11 : decode cX4_isNothing 11 = .ok (.iconst 1, 1) := by decide +kernel
theorem dX4_isNothing_12 : decode cX4_isNothing 12 = .ok (.goto 4, 3) := by decide +kernel
theorem dX4_isNothing_15 : decode cX4_isNothing 15 = .ok (.iconst 0, 1) := by decide +kernel
theorem dX4_isNothing_16 : decode cX4_isNothing 16 = .ok (.ireturn, 1) := by decide +kernel
theorem dX4_begin_0 : decode cX4_begin 0 = .ok (.aload_n 0, 1) := by decide +kernel
theorem dX4_begin_1 : decode cX4_begin 1 = .ok (.getfield 9, 3) := by decide +kernel
theorem dX4_begin_4 : decode cX4_begin 4 = .ok (.iload_n 1, 1) := by decide +kernel
theorem dX4_begin_5 : decode cX4_begin 5 = .ok (.iload_n 2, 1) := by decide +kernel
theorem dX4_begin_6 : decode cX4_begin 6 = .ok (.iastore, 1) := by decide +kernel
theorem dX4_begin_7 : decode cX4_begin 7 = .ok (.aload_n 0, 1) := by decide +kernel
theorem dX4_begin_8 : decode cX4_begin 8 = .ok (.getfield 15, 3) := by decide +kernel
theorem dX4_begin_11 : decode cX4_begin 11 = .ok (.iload_n 1, 1) := by decide +kernel
theorem dX4_begin_12 : decode cX4_begin 12 = .ok (.iload_n 3, 1) := by decide +kernel
theorem dX4_begin_13 : decode cX4_begin 13 = .ok (.iastore, 1) := by decide +kernel
theorem dX4_begin_14 : decode cX4_begin 14 = .ok (.iconst 0, 1) := by decide +kernel
theorem dX4_begin_15 : decode cX4_begin 15 = .ok (.istore 4, 2) := by decide +kernel
theorem dX4_begin_17 : decode cX4_begin 17 = .ok (.iload 4, 2) := by decide +kernel
theorem dX4_begin_19 : decode cX4_begin 19 = .ok (.bipush 40, 2) := by decide +kernel
theorem dX4_begin_21 : decode cX4_begin 21 = .ok (.if_icmp .ge 22, 3) := by decide +kernel
theorem dX4_begin_24 : decode cX4_begin 24 = .ok (.aload_n 0, 1) := by decide +kernel
theorem dX4_begin_25 : decode cX4_begin 25 = .ok (.getfield 18, 3) := by decide +kernel
theorem dX4_begin_28 : decode cX4_begin 28 = .ok (.iload_n 1, 1) := by decide +kernel
theorem dX4_begin_29 : decode cX4_begin 29 = .ok (.bipush 40, 2) := by decide +kernel
theorem dX4_begin_31 : decode cX4_begin 31 = .ok (.imul, 1) := by decide +kernel
theorem dX4_begin_32 : decode cX4_begin 32 = .ok (.iload 4, 2) := by decide +kernel
theorem dX4_begin_34 : decode cX4_begin 34 = .ok (.iadd, 1) := by decide +kernel
theorem dX4_begin_35 : decode cX4_begin 35 = .ok (.iconst 0, 1) := by decide +kernel
theorem dX4_begin_36 : decode cX4_begin 36 = .ok (.iastore, 1) := by decide +kernel
theorem dX4_begin_37 : decode cX4_begin 37 = .ok (.iinc 4 1, 3) := by decide +kernel
theorem dX4_begin_40 : decode cX4_begin 40 = .ok (.goto (-23), 3) := by decide +kernel
theorem dX4_begin_43 : decode cX4_begin 43 = .ok (.return_, 1) := by decide +kernel
theorem dX4_setCell_0 : decode cX4_setCell 0 = .ok (.aload_n 0, 1) := by decide +kernel
theorem dX4_setCell_1 : decode cX4_setCell 1 = .ok (.getfield 18, 3) := by decide +kernel
theorem dX4_setCell_4 : decode cX4_setCell 4 = .ok (.iload_n 1, 1) := by decide +kernel
theorem dX4_setCell_5 : decode cX4_setCell 5 = .ok (.bipush 40, 2) := by decide +kernel
theorem dX4_setCell_7 : decode cX4_setCell 7 = .ok (.imul, 1) := by decide +kernel
theorem dX4_setCell_8 : decode cX4_setCell 8 = .ok (.iload_n 2, 1) := by decide +kernel
theorem dX4_setCell_9 : decode cX4_setCell 9 = .ok (.iadd, 1) := by decide +kernel
theorem dX4_setCell_10 : decode cX4_setCell 10 = .ok (.aload_n 0, 1) := by decide +kernel
theorem dX4_setCell_11 : decode cX4_setCell 11 = .ok (.getfield 9, 3) := by decide +kernel
theorem dX4_setCell_14 : decode cX4_setCell 14 = .ok (.iload_n 1, 1) := by decide +kernel
theorem dX4_setCell_15 : decode cX4_setCell 15 = .ok (.iaload, 1) := by decide +kernel
theorem dX4_setCell_16 : decode cX4_setCell 16 = .ok (.ifCond .ne 8, 3) := by decide +kernel
theorem dX4_setCell_19 : decode cX4_setCell 19 = .ok (.iload_n 3, 1) := by decide +kernel
theorem dX4_setCell_20 : decode cX4_setCell 20 = .ok (.i2b, 1) := by decide +kernel
theorem dX4_setCell_21 : decode cX4_setCell 21 = .ok (.goto 19, 3) := by decide +kernel
theorem dX4_setCell_24 : decode cX4_setCell 24 = .ok (.aload_n 0, 1) := by decide +kernel
theorem dX4_setCell_25 : decode cX4_setCell 25 = .ok (.getfield 9, 3) := by decide +kernel
theorem dX4_setCell_28 : decode cX4_setCell 28 = .ok (.iload_n 1, 1) := by decide +kernel
theorem dX4_setCell_29 : decode cX4_setCell 29 = .ok (.iaload, 1) := by decide +kernel
theorem dX4_setCell_30 : decode cX4_setCell 30 = .ok (.iconst 1, 1) := by decide +kernel
theorem dX4_setCell_31 : decode cX4_setCell 31 = .ok (.if_icmp .ne 8, 3) := by decide +kernel
theorem dX4_setCell_34 : decode cX4_setCell 34 = .ok (.iload_n 3, 1) := by decide +kernel
theorem dX4_setCell_35 : decode cX4_setCell 35 = .ok (.i2s, 1) := by decide +kernel
theorem dX4_setCell_36 : decode cX4_setCell 36 = .ok (.goto 4, 3) := by decide +kernel
theorem dX4_setCell_39 : decode cX4_setCell 39 = .ok (.iload_n 3, 1) := by decide +kernel
theorem dX4_setCell_40 : decode cX4_setCell 40 = .ok (.iastore, 1) := by decide +kernel
theorem dX4_setCell_41 : decode cX4_setCell 41 = .ok (.return_, 1) := by decide +kernel
theorem dX4_cellAt_0 : decode cX4_cellAt 0 = .ok (.aload_n 0, 1) := by decide +kernel
theorem dX4_cellAt_1 : decode cX4_cellAt 1 = .ok (.getfield 18, 3) := by decide +kernel
theorem dX4_cellAt_4 : decode cX4_cellAt 4 = .ok (.iload_n 1, 1) := by decide +kernel
theorem dX4_cellAt_5 : decode cX4_cellAt 5 = .ok (.bipush 40, 2) := by decide +kernel
theorem dX4_cellAt_7 : decode cX4_cellAt 7 = .ok (.imul, 1) := by decide +kernel
theorem dX4_cellAt_8 : decode cX4_cellAt 8 = .ok (.iload_n 2, 1) := by decide +kernel
theorem dX4_cellAt_9 : decode cX4_cellAt 9 = .ok (.iadd, 1) := by decide +kernel
theorem dX4_cellAt_10 : decode cX4_cellAt 10 = .ok (.iaload, 1) := by decide +kernel
theorem dX4_cellAt_11 : decode cX4_cellAt 11 = .ok (.ireturn, 1) := by decide +kernel
theorem dX4_faultAsOf_0 : decode cX4_faultAsOf 0 = .ok (.aload_n 0, 1) := by decide +kernel
theorem dX4_faultAsOf_1 : decode cX4_faultAsOf 1 = .ok (.iload_n 1, 1) := by decide +kernel
theorem dX4_faultAsOf_2 : decode cX4_faultAsOf 2 = .ok (.invokevirtual 21, 3) := by decide +kernel
theorem dX4_faultAsOf_5 : decode cX4_faultAsOf 5 = .ok (.ifCond .eq 5, 3) := by decide +kernel
theorem dX4_faultAsOf_8 : decode cX4_faultAsOf 8 = .ok (.iconst 1, 1) := by decide +kernel
theorem dX4_faultAsOf_9 : decode cX4_faultAsOf 9 = .ok (.ireturn, 1) := by decide +kernel
theorem dX4_faultAsOf_10 : decode cX4_faultAsOf 10 = .ok (.aload_n 0, 1) := by decide +kernel
theorem dX4_faultAsOf_11 : decode cX4_faultAsOf 11 = .ok (.getfield 9, 3) := by decide +kernel
theorem dX4_faultAsOf_14 : decode cX4_faultAsOf 14 = .ok (.iload_n 1, 1) := by decide +kernel
theorem dX4_faultAsOf_15 : decode cX4_faultAsOf 15 = .ok (.iaload, 1) := by decide +kernel
theorem dX4_faultAsOf_16 : decode cX4_faultAsOf 16 = .ok (.iload_n 2, 1) := by decide +kernel
theorem dX4_faultAsOf_17 : decode cX4_faultAsOf 17 = .ok (.if_icmp .ne 7, 3) := by decide +kernel
theorem dX4_faultAsOf_20 : decode cX4_faultAsOf 20 = .ok (.iconst 0, 1) := by decide +kernel
theorem dX4_faultAsOf_21 : decode cX4_faultAsOf 21 = .ok (.goto 4, 3) := by decide +kernel
theorem dX4_faultAsOf_24 : decode cX4_faultAsOf 24 = .ok (.iconst 3, 1) := by decide +kernel
theorem dX4_faultAsOf_25 : decode cX4_faultAsOf 25 = .ok (.ireturn, 1) := by decide +kernel
theorem dX4_isLotWhole_0 : decode cX4_isLotWhole 0 = .ok (.lload_n 2, 1) := by decide +kernel
theorem dX4_isLotWhole_1 : decode cX4_isLotWhole 1 = .ok (.lconst 0, 1) := by decide +kernel
theorem dX4_isLotWhole_2 : decode cX4_isLotWhole 2 = .ok (.lcmp, 1) := by decide +kernel
theorem dX4_isLotWhole_3 : decode cX4_isLotWhole 3 = .ok (.ifCond .lt 23, 3) := by decide +kernel
theorem dX4_isLotWhole_6 : decode cX4_isLotWhole 6 = .ok (.lload_n 2, 1) := by decide +kernel
theorem dX4_isLotWhole_7 : decode cX4_isLotWhole 7 = .ok (.ldc2_w 25, 3) := by decide +kernel
theorem dX4_isLotWhole_10 : decode cX4_isLotWhole 10 = .ok (.ladd, 1) := by decide +kernel
theorem dX4_isLotWhole_11 : decode cX4_isLotWhole 11 = .ok (.aload_n 0, 1) := by decide +kernel
theorem dX4_isLotWhole_12 : decode cX4_isLotWhole 12 = .ok (.getfield 15, 3) := by decide +kernel
theorem dX4_isLotWhole_15 : decode cX4_isLotWhole 15 = .ok (.iload_n 1, 1) := by decide +kernel
theorem dX4_isLotWhole_16 : decode cX4_isLotWhole 16 = .ok (.iaload, 1) := by decide +kernel
theorem dX4_isLotWhole_17 : decode cX4_isLotWhole 17 = .ok (.i2l, 1) := by decide +kernel
theorem dX4_isLotWhole_18 : decode cX4_isLotWhole 18 = .ok (.lcmp, 1) := by decide +kernel
theorem dX4_isLotWhole_19 : decode cX4_isLotWhole 19 = .ok (.ifCond .ge 7, 3) := by decide +kernel
theorem dX4_isLotWhole_22 : decode cX4_isLotWhole 22 = .ok (.iconst 1, 1) := by decide +kernel
theorem dX4_isLotWhole_23 : decode cX4_isLotWhole 23 = .ok (.goto 4, 3) := by decide +kernel
theorem dX4_isLotWhole_26 : decode cX4_isLotWhole 26 = .ok (.iconst 0, 1) := by decide +kernel
theorem dX4_isLotWhole_27 : decode cX4_isLotWhole 27 = .ok (.ireturn, 1) := by decide +kernel
theorem dX5_init_0 : decode cX5_init 0 = .ok (.aload_n 0, 1) := by decide +kernel
theorem dX5_init_1 : decode cX5_init 1 = .ok (.invokespecial 3, 3) := by decide +kernel
theorem dX5_init_4 : decode cX5_init 4 = .ok (.aload_n 0, 1) := by decide +kernel
theorem dX5_init_5 : decode cX5_init 5 = .ok (.new 9, 3) := by decide +kernel
theorem dX5_init_8 : decode cX5_init 8 = .ok (.dup, 1) := by decide +kernel
theorem dX5_init_9 : decode cX5_init 9 = .ok (.invokespecial 11, 3) := by decide +kernel
theorem dX5_init_12 : decode cX5_init 12 = .ok (.putfield 12, 3) := by decide +kernel
theorem dX5_init_15 : decode cX5_init 15 = .ok (.return_, 1) := by decide +kernel
theorem dX5_go_0 : decode cX5_go 0 = .ok (.aload_n 0, 1) := by decide +kernel
theorem dX5_go_1 : decode cX5_go 1 = .ok (.getfield 12, 3) := by decide +kernel
theorem dX5_go_4 : decode cX5_go 4 = .ok (.aload_n 2, 1) := by decide +kernel
theorem dX5_go_5 : decode cX5_go 5 = .ok (.invokevirtual 18, 3) := by decide +kernel
theorem dX5_go_8 : decode cX5_go 8 = .ok (.aload_n 0, 1) := by decide +kernel
theorem dX5_go_9 : decode cX5_go 9 = .ok (.iconst 0, 1) := by decide +kernel
theorem dX5_go_10 : decode cX5_go 10 = .ok (.putfield 22, 3) := by decide +kernel
theorem dX5_go_13 : decode cX5_go 13 = .ok (.iconst 0, 1) := by decide +kernel
theorem dX5_go_14 : decode cX5_go 14 = .ok (.istore 6, 2) := by decide +kernel
theorem dX5_go_16 : decode cX5_go 16 = .ok (.iload 6, 2) := by decide +kernel
theorem dX5_go_18 : decode cX5_go 18 = .ok (.iload 4, 2) := by decide +kernel
theorem dX5_go_20 : decode cX5_go 20 = .ok (.if_icmp .ge 87, 3) := by decide +kernel
theorem dX5_go_23 : decode cX5_go 23 = .ok (.aload_n 3, 1) := by decide +kernel
theorem dX5_go_24 : decode cX5_go 24 = .ok (.iload 6, 2) := by decide +kernel
theorem dX5_go_26 : decode cX5_go 26 = .ok (.iaload, 1) := by decide +kernel
theorem dX5_go_27 : decode cX5_go 27 = .ok (.bipush (-4), 2) := by decide +kernel
theorem dX5_go_29 : decode cX5_go 29 = .ok (.if_icmp .eq 63, 3) := by decide +kernel
theorem dX5_go_32 : decode cX5_go 32 = .ok (.iload 5, 2) := by decide +kernel
theorem dX5_go_34 : decode cX5_go 34 = .ok (.iload 6, 2) := by decide +kernel
theorem dX5_go_36 : decode cX5_go 36 = .ok (.ishr, 1) := by decide +kernel
theorem dX5_go_37 : decode cX5_go 37 = .ok (.iconst 1, 1) := by decide +kernel
theorem dX5_go_38 : decode cX5_go 38 = .ok (.iand, 1) := by decide +kernel
theorem dX5_go_39 : decode cX5_go 39 = .ok (.ifCond .eq 7, 3) := by decide +kernel
theorem dX5_go_42 : decode cX5_go 42 = .ok (.iconst 1, 1) := by decide +kernel
theorem dX5_go_43 : decode cX5_go 43 = .ok (.goto 4, 3) := by decide +kernel
theorem dX5_go_46 : decode cX5_go 46 = .ok (.iconst 0, 1) := by decide +kernel
theorem dX5_go_47 : decode cX5_go 47 = .ok (.istore 7, 2) := by decide +kernel
theorem dX5_go_49 : decode cX5_go 49 = .ok (.aload_n 0, 1) := by decide +kernel
theorem dX5_go_50 : decode cX5_go 50 = .ok (.aload_n 0, 1) := by decide +kernel
theorem dX5_go_51 : decode cX5_go 51 = .ok (.getfield 12, 3) := by decide +kernel
theorem dX5_go_54 : decode cX5_go 54 = .ok (.aload_n 1, 1) := by decide +kernel
theorem dX5_go_55 : decode cX5_go 55 = .ok (.aload_n 3, 1) := by decide +kernel
theorem dX5_go_56 : decode cX5_go 56 = .ok (.iload 6, 2) := by decide +kernel
theorem dX5_go_58 : decode cX5_go 58 = .ok (.iaload, 1) := by decide +kernel
theorem dX5_go_59 : decode cX5_go 59 = .ok (.iload 7, 2) := by decide +kernel
theorem dX5_go_61 : decode cX5_go 61 = .ok (.invokevirtual 26, 3) := by decide +kernel
theorem dX5_go_64 : decode cX5_go 64 = .ok (.putfield 22, 3) := by decide +kernel
theorem dX5_go_67 : decode cX5_go 67 = .ok (.aload_n 0, 1) := by decide +kernel
theorem dX5_go_68 : decode cX5_go 68 = .ok (.getfield 22, 3) := by decide +kernel
theorem dX5_go_71 : decode cX5_go 71 = .ok (.ifCond .eq 6, 3) := by decide +kernel
theorem dX5_go_74 : decode cX5_go 74 = .ok (.iload 6, 2) := by decide +kernel
theorem dX5_go_76 : decode cX5_go 76 = .ok (.ireturn, 1) := by decide +kernel
theorem dX5_go_77 : decode cX5_go 77 = .ok (.aload_n 0, 1) := by decide +kernel
theorem dX5_go_78 : decode cX5_go 78 = .ok (.getfield 12, 3) := by decide +kernel
theorem dX5_go_81 : decode cX5_go 81 = .ok (.aload_n 1, 1) := by decide +kernel
theorem dX5_go_82 : decode cX5_go 82 = .ok (.aload_n 3, 1) := by decide +kernel
theorem dX5_go_83 : decode cX5_go 83 = .ok (.iload 6, 2) := by decide +kernel
theorem dX5_go_85 : decode cX5_go 85 = .ok (.iaload, 1) := by decide +kernel
theorem dX5_go_86 : decode cX5_go 86 = .ok (.iload 7, 2) := by decide +kernel
theorem dX5_go_88 : decode cX5_go 88 = .ok (.invokevirtual 30, 3) := by decide +kernel
theorem dX5_go_91 : decode cX5_go 91 = .ok (.pop, 1) := by decide +kernel
theorem dX5_go_92 : decode cX5_go 92 = .ok (.aload_n 0, 1) := by decide +kernel
theorem dX5_go_93 : decode cX5_go 93 = .ok (.getfield 12, 3) := by decide +kernel
theorem dX5_go_96 : decode cX5_go 96 = .ok (.aload_n 1, 1) := by decide +kernel
theorem dX5_go_97 : decode cX5_go 97 = .ok (.invokevirtual 33, 3) := by decide +kernel
theorem dX5_go_100 : decode cX5_go 100 = .ok (.pop, 1) := by decide +kernel
theorem dX5_go_101 : decode cX5_go 101 = .ok (.iinc 6 1, 3) := by decide +kernel
theorem dX5_go_104 : decode cX5_go 104 = .ok (.goto (-88), 3) := by decide +kernel
theorem dX5_go_107 : decode cX5_go 107 = .ok (.iload 4, 2) := by decide +kernel
theorem dX5_go_109 : decode cX5_go 109 = .ok (.ireturn, 1) := by decide +kernel
theorem dX5_bearing_0 : decode cX5_bearing 0 = .ok (.iconst 0, 1) := by decide +kernel
theorem dX5_bearing_1 : decode cX5_bearing 1 = .ok (.istore 5, 2) := by decide +kernel
theorem dX5_bearing_3 : decode cX5_bearing 3 = .ok (.iconst 0, 1) := by decide +kernel
theorem dX5_bearing_4 : decode cX5_bearing 4 = .ok (.istore 6, 2) := by decide +kernel
theorem dX5_bearing_6 : decode cX5_bearing 6 = .ok (.iload 6, 2) := by decide +kernel
theorem dX5_bearing_8 : decode cX5_bearing 8 = .ok (.iconst 1, 1) := by decide +kernel
theorem dX5_bearing_9 : decode cX5_bearing 9 = .ok (.iload 4, 2) := by decide +kernel
theorem dX5_bearing_11 : decode cX5_bearing 11 = .ok (.ishl, 1) := by decide +kernel
theorem dX5_bearing_12 : decode cX5_bearing 12 = .ok (.if_icmp .ge 51, 3) := by decide +kernel
theorem dX5_bearing_15 : decode cX5_bearing 15 = .ok (.aload_n 1, 1) := by decide +kernel
theorem dX5_bearing_16 : decode cX5_bearing 16 = .ok (.aload_n 2, 1) := by decide +kernel
theorem dX5_bearing_17 : decode cX5_bearing 17 = .ok (.getfield 37, 3) := by decide +kernel
theorem dX5_bearing_20 : decode cX5_bearing 20 = .ok (.iload 4, 2) := by decide +kernel
theorem dX5_bearing_22 : decode cX5_bearing 22 = .ok (.iload 6, 2) := by decide +kernel
theorem dX5_bearing_24 : decode cX5_bearing 24 = .ok (.invokestatic 40, 3) := by decide +kernel
theorem dX5_bearing_27 : decode cX5_bearing 27 = .ok (.istore 7, 2) := by decide +kernel
theorem dX5_bearing_29 : decode cX5_bearing 29 = .ok (.iload 7, 2) := by decide +kernel
theorem dX5_bearing_31 : decode cX5_bearing 31 = .ok (.ifCond .le 26, 3) := by decide +kernel
theorem dX5_bearing_34 : decode cX5_bearing 34 = .ok (.aload_n 0, 1) := by decide +kernel
theorem dX5_bearing_35 : decode cX5_bearing 35 = .ok (.aload_n 1, 1) := by decide +kernel
theorem dX5_bearing_36 : decode cX5_bearing 36 = .ok (.aload_n 2, 1) := by decide +kernel
theorem dX5_bearing_37 : decode cX5_bearing 37 = .ok (.aload_n 3, 1) := by decide +kernel
theorem dX5_bearing_38 : decode cX5_bearing 38 = .ok (.iload 4, 2) := by decide +kernel
theorem dX5_bearing_40 : decode cX5_bearing 40 = .ok (.iload 6, 2) := by decide +kernel
theorem dX5_bearing_42 : decode cX5_bearing 42 = .ok (.invokevirtual 44, 3) := by decide +kernel
theorem dX5_bearing_45 : decode cX5_bearing 45 = .ok (.iload 4, 2) := by decide +kernel
theorem dX5_bearing_47 : decode cX5_bearing 47 = .ok (.if_icmp .ne 10, 3) := by decide +kernel
theorem dX5_bearing_50 : decode cX5_bearing 50 = .ok (.iload 5, 2) := by decide +kernel
theorem dX5_bearing_52 : decode cX5_bearing 52 = .ok (.iload 7, 2) := by decide +kernel
theorem dX5_bearing_54 : decode cX5_bearing 54 = .ok (.iadd, 1) := by decide +kernel
theorem dX5_bearing_55 : decode cX5_bearing 55 = .ok (.istore 5, 2) := by decide +kernel
theorem dX5_bearing_57 : decode cX5_bearing 57 = .ok (.iinc 6 1, 3) := by decide +kernel
theorem dX5_bearing_60 : decode cX5_bearing 60 = .ok (.goto (-54), 3) := by decide +kernel
theorem dX5_bearing_63 : decode cX5_bearing 63 = .ok (.iload 5, 2) := by decide +kernel
theorem dX5_bearing_65 : decode cX5_bearing 65 = .ok (.ireturn, 1) := by decide +kernel
theorem dX5_weightOf_0 : decode cX5_weightOf 0 = .ok (.iconst 1, 1) := by decide +kernel
theorem dX5_weightOf_1 : decode cX5_weightOf 1 = .ok (.istore 4, 2) := by decide +kernel
theorem dX5_weightOf_3 : decode cX5_weightOf 3 = .ok (.iconst 0, 1) := by decide +kernel
theorem dX5_weightOf_4 : decode cX5_weightOf 4 = .ok (.istore 5, 2) := by decide +kernel
theorem dX5_weightOf_6 : decode cX5_weightOf 6 = .ok (.iload 5, 2) := by decide +kernel
theorem dX5_weightOf_8 : decode cX5_weightOf 8 = .ok (.iload_n 2, 1) := by decide +kernel
theorem dX5_weightOf_9 : decode cX5_weightOf 9 = .ok (.if_icmp .ge 42, 3) := by decide +kernel
theorem dX5_weightOf_12 : decode cX5_weightOf 12 = .ok (.aload_n 0, 1) := by decide +kernel
theorem dX5_weightOf_13 : decode cX5_weightOf 13 = .ok (.iload_n 1, 1) := by decide +kernel
theorem dX5_weightOf_14 : decode cX5_weightOf 14 = .ok (.iload 5, 2) := by decide +kernel
theorem dX5_weightOf_16 : decode cX5_weightOf 16 = .ok (.iadd, 1) := by decide +kernel
theorem dX5_weightOf_17 : decode cX5_weightOf 17 = .ok (.invokevirtual 48, 3) := by decide +kernel
theorem dX5_weightOf_20 : decode cX5_weightOf 20 = .ok (.istore 6, 2) := by decide +kernel
theorem dX5_weightOf_22 : decode cX5_weightOf 22 = .ok (.iload 4, 2) := by decide +kernel
theorem dX5_weightOf_24 : decode cX5_weightOf 24 = .ok (.iload_n 3, 1) := by decide +kernel
theorem dX5_weightOf_25 : decode cX5_weightOf 25 = .ok (.iload 5, 2) := by decide +kernel
theorem dX5_weightOf_27 : decode cX5_weightOf 27 = .ok (.ishr, 1) := by decide +kernel
theorem dX5_weightOf_28 : decode cX5_weightOf 28 = .ok (.iconst 1, 1) := by decide +kernel
theorem dX5_weightOf_29 : decode cX5_weightOf 29 = .ok (.iand, 1) := by decide +kernel
theorem dX5_weightOf_30 : decode cX5_weightOf 30 = .ok (.ifCond .eq 8, 3) := by decide +kernel
theorem dX5_weightOf_33 : decode cX5_weightOf 33 = .ok (.iload 6, 2) := by decide +kernel
theorem dX5_weightOf_35 : decode cX5_weightOf 35 = .ok (.goto 7, 3) := by decide +kernel
theorem dX5_weightOf_38 : decode cX5_weightOf 38 = .ok (.iconst 4, 1) := by decide +kernel
theorem dX5_weightOf_39 : decode cX5_weightOf 39 = .ok (.iload 6, 2) := by decide +kernel
theorem dX5_weightOf_41 : decode cX5_weightOf 41 = .ok (.isub, 1) := by decide +kernel
theorem dX5_weightOf_42 : decode cX5_weightOf 42 = .ok (.imul, 1) := by decide +kernel
theorem dX5_weightOf_43 : decode cX5_weightOf 43 = .ok (.istore 4, 2) := by decide +kernel
theorem dX5_weightOf_45 : decode cX5_weightOf 45 = .ok (.iinc 5 1, 3) := by decide +kernel
theorem dX5_weightOf_48 : decode cX5_weightOf 48 = .ok (.goto (-42), 3) := by decide +kernel
theorem dX5_weightOf_51 : decode cX5_weightOf 51 = .ok (.iload 4, 2) := by decide +kernel
theorem dX5_weightOf_53 : decode cX5_weightOf 53 = .ok (.ireturn, 1) := by decide +kernel
theorem dX6_init_0 : decode cX6_init 0 = .ok (.aload_n 0, 1) := by decide +kernel
theorem dX6_init_1 : decode cX6_init 1 = .ok (.invokespecial 1, 3) := by decide +kernel
theorem dX6_init_4 : decode cX6_init 4 = .ok (.aload_n 0, 1) := by decide +kernel
theorem dX6_init_5 : decode cX6_init 5 = .ok (.new 7, 3) := by decide +kernel
theorem dX6_init_8 : decode cX6_init 8 = .ok (.dup, 1) := by decide +kernel
theorem dX6_init_9 : decode cX6_init 9 = .ok (.invokespecial 9, 3) := by decide +kernel
theorem dX6_init_12 : decode cX6_init 12 = .ok (.putfield 10, 3) := by decide +kernel
theorem dX6_init_15 : decode cX6_init 15 = .ok (.aload_n 0, 1) := by decide +kernel
theorem dX6_init_16 : decode cX6_init 16 = .ok (.new 7, 3) := by decide +kernel
theorem dX6_init_19 : decode cX6_init 19 = .ok (.dup, 1) := by decide +kernel
theorem dX6_init_20 : decode cX6_init 20 = .ok (.invokespecial 9, 3) := by decide +kernel
theorem dX6_init_23 : decode cX6_init 23 = .ok (.putfield 16, 3) := by decide +kernel
theorem dX6_init_26 : decode cX6_init 26 = .ok (.aload_n 0, 1) := by decide +kernel
theorem dX6_init_27 : decode cX6_init 27 = .ok (.new 19, 3) := by decide +kernel
theorem dX6_init_30 : decode cX6_init 30 = .ok (.dup, 1) := by decide +kernel
theorem dX6_init_31 : decode cX6_init 31 = .ok (.invokespecial 21, 3) := by decide +kernel
theorem dX6_init_34 : decode cX6_init 34 = .ok (.putfield 22, 3) := by decide +kernel
theorem dX6_init_37 : decode cX6_init 37 = .ok (.aload_n 0, 1) := by decide +kernel
theorem dX6_init_38 : decode cX6_init 38 = .ok (.iconst 0, 1) := by decide +kernel
theorem dX6_init_39 : decode cX6_init 39 = .ok (.putfield 26, 3) := by decide +kernel
theorem dX6_init_42 : decode cX6_init 42 = .ok (.aload_n 0, 1) := by decide +kernel
theorem dX6_init_43 : decode cX6_init 43 = .ok (.new 30, 3) := by decide +kernel
theorem dX6_init_46 : decode cX6_init 46 = .ok (.dup, 1) := by decide +kernel
theorem dX6_init_47 : decode cX6_init 47 = .ok (.invokespecial 32, 3) := by decide +kernel
theorem dX6_init_50 : decode cX6_init 50 = .ok (.putfield 33, 3) := by decide +kernel
theorem dX6_init_53 : decode cX6_init 53 = .ok (.aload_n 0, 1) := by decide +kernel
theorem dX6_init_54 : decode cX6_init 54 = .ok (.iconst 2, 1) := by decide +kernel
theorem dX6_init_55 : decode cX6_init 55 = .ok (.anewarray 30, 3) := by decide +kernel
theorem dX6_init_58 : decode cX6_init 58 = .ok (.dup, 1) := by decide +kernel
theorem dX6_init_59 : decode cX6_init 59 = .ok (.iconst 0, 1) := by decide +kernel
theorem dX6_init_60 : decode cX6_init 60 = .ok (.new 30, 3) := by decide +kernel
theorem dX6_init_63 : decode cX6_init 63 = .ok (.dup, 1) := by decide +kernel
theorem dX6_init_64 : decode cX6_init 64 = .ok (.invokespecial 32, 3) := by decide +kernel
theorem dX6_init_67 : decode cX6_init 67 = .ok (.aastore, 1) := by decide +kernel
theorem dX6_init_68 : decode cX6_init 68 = .ok (.dup, 1) := by decide +kernel
theorem dX6_init_69 : decode cX6_init 69 = .ok (.iconst 1, 1) := by decide +kernel
theorem dX6_init_70 : decode cX6_init 70 = .ok (.new 30, 3) := by decide +kernel
theorem dX6_init_73 : decode cX6_init 73 = .ok (.dup, 1) := by decide +kernel
theorem dX6_init_74 : decode cX6_init 74 = .ok (.invokespecial 32, 3) := by decide +kernel
theorem dX6_init_77 : decode cX6_init 77 = .ok (.aastore, 1) := by decide +kernel
theorem dX6_init_78 : decode cX6_init 78 = .ok (.putfield 37, 3) := by decide +kernel
theorem dX6_init_81 : decode cX6_init 81 = .ok (.aload_n 0, 1) := by decide +kernel
theorem dX6_init_82 : decode cX6_init 82 = .ok (.iconst 2, 1) := by decide +kernel
theorem dX6_init_83 : decode cX6_init 83 = .ok (.newarray .boolean, 2) := by decide +kernel
theorem dX6_init_85 : decode cX6_init 85 = .ok (.putfield 41, 3) := by decide +kernel
theorem dX6_init_88 : decode cX6_init 88 = .ok (.aload_n 0, 1) := by decide +kernel
theorem dX6_init_89 : decode cX6_init 89 = .ok (.bipush 7, 2) := by decide +kernel
theorem dX6_init_91 : decode cX6_init 91 = .ok (.newarray .int, 2) := by decide +kernel
theorem dX6_init_93 : decode cX6_init 93 = .ok (.putfield 45, 3) := by decide +kernel
theorem dX6_init_96 : decode cX6_init 96 = .ok (.aload_n 0, 1) := by decide +kernel
theorem dX6_init_97 : decode cX6_init 97 = .ok (.iconst 0, 1) := by decide +kernel
theorem dX6_init_98 : decode cX6_init 98 = .ok (.putfield 49, 3) := by decide +kernel
theorem dX6_init_101 : decode cX6_init 101 = .ok (.aload_n 0, 1) := by decide +kernel
theorem dX6_init_102 : decode cX6_init 102 = .ok (.new 52, 3) := by decide +kernel
theorem dX6_init_105 : decode cX6_init 105 = .ok (.dup, 1) := by decide +kernel
theorem dX6_init_106 : decode cX6_init 106 = .ok (.invokespecial 54, 3) := by decide +kernel
theorem dX6_init_109 : decode cX6_init 109 = .ok (.putfield 55, 3) := by decide +kernel
theorem dX6_init_112 : decode cX6_init 112 = .ok (.aload_n 0, 1) := by decide +kernel
theorem dX6_init_113 : decode cX6_init 113 = .ok (.new 59, 3) := by decide +kernel
theorem dX6_init_116 : decode cX6_init 116 = .ok (.dup, 1) := by decide +kernel
theorem dX6_init_117 : decode cX6_init 117 = .ok (.invokespecial 61, 3) := by decide +kernel
theorem dX6_init_120 : decode cX6_init 120 = .ok (.putfield 62, 3) := by decide +kernel
theorem dX6_init_123 : decode cX6_init 123 = .ok (.aload_n 0, 1) := by decide +kernel
theorem dX6_init_124 : decode cX6_init 124 = .ok (.new 66, 3) := by decide +kernel
theorem dX6_init_127 : decode cX6_init 127 = .ok (.dup, 1) := by decide +kernel
theorem dX6_init_128 : decode cX6_init 128 = .ok (.invokespecial 68, 3) := by decide +kernel
theorem dX6_init_131 : decode cX6_init 131 = .ok (.putfield 69, 3) := by decide +kernel
theorem dX6_init_134 : decode cX6_init 134 = .ok (.aload_n 0, 1) := by decide +kernel
theorem dX6_init_135 : decode cX6_init 135 = .ok (.iconst 0, 1) := by decide +kernel
theorem dX6_init_136 : decode cX6_init 136 = .ok (.putfield 73, 3) := by decide +kernel
theorem dX6_init_139 : decode cX6_init 139 = .ok (.return_, 1) := by decide +kernel
theorem dX6_feed_0 : decode cX6_feed 0 = .ok (.aload_n 0, 1) := by decide +kernel
theorem dX6_feed_1 : decode cX6_feed 1 = .ok (.getfield 22, 3) := by decide +kernel
theorem dX6_feed_4 : decode cX6_feed 4 = .ok (.getfield 76, 3) := by decide +kernel
theorem dX6_feed_7 : decode cX6_feed 7 = .ok (.sipush 392, 3) := by decide +kernel
theorem dX6_feed_10 : decode cX6_feed 10 = .ok (.if_icmp .le 6, 3) := by decide +kernel
theorem dX6_feed_13 : decode cX6_feed 13 = .ok (.bipush (-3), 2) := by decide +kernel
theorem dX6_feed_15 : decode cX6_feed 15 = .ok (.ireturn, 1) := by decide +kernel
theorem dX6_feed_16 : decode cX6_feed 16 = .ok (.bipush 56, 2) := by decide +kernel
theorem dX6_feed_18 : decode cX6_feed 18 = .ok (.istore_n 3, 1) := by decide +kernel
theorem dX6_feed_19 : decode cX6_feed 19 = .ok (.iload_n 3, 1) := by decide +kernel
theorem dX6_feed_20 : decode cX6_feed 20 = .ok (.ifCond .lt 42, 3) := by decide +kernel
theorem dX6_feed_23 : decode cX6_feed 23 = .ok (.aload_n 0, 1) := by decide +kernel
theorem dX6_feed_24 : decode cX6_feed 24 = .ok (.getfield 22, 3) := by decide +kernel
theorem dX6_feed_27 : decode cX6_feed 27 = .ok (.getfield 79, 3) := by decide +kernel
theorem dX6_feed_30 : decode cX6_feed 30 = .ok (.aload_n 0, 1) := by decide +kernel
theorem dX6_feed_31 : decode cX6_feed 31 = .ok (.getfield 22, 3) := by decide +kernel
theorem dX6_feed_34 : decode cX6_feed 34 = .ok (.getfield 76, 3) := by decide +kernel
theorem dX6_feed_37 : decode cX6_feed 37 = .ok (.lload_n 1, 1) := by decide +kernel
theorem dX6_feed_38 : decode cX6_feed 38 = .ok (.iload_n 3, 1) := by decide +kernel
theorem dX6_feed_39 : decode cX6_feed 39 = .ok (.lushr, 1) := by decide +kernel
theorem dX6_feed_40 : decode cX6_feed 40 = .ok (.l2i, 1) := by decide +kernel
theorem dX6_feed_41 : decode cX6_feed 41 = .ok (.i2b, 1) := by decide +kernel
theorem dX6_feed_42 : decode cX6_feed 42 = .ok (.bastore, 1) := by decide +kernel
theorem dX6_feed_43 : decode cX6_feed 43 = .ok (.aload_n 0, 1) := by decide +kernel
theorem dX6_feed_44 : decode cX6_feed 44 = .ok (.getfield 22, 3) := by decide +kernel
theorem dX6_feed_47 : decode cX6_feed 47 = .ok (.dup, 1) := by decide +kernel
theorem dX6_feed_48 : decode cX6_feed 48 = .ok (.getfield 76, 3) := by decide +kernel
theorem dX6_feed_51 : decode cX6_feed 51 = .ok (.iconst 1, 1) := by decide +kernel
theorem dX6_feed_52 : decode cX6_feed 52 = .ok (.iadd, 1) := by decide +kernel
theorem dX6_feed_53 : decode cX6_feed 53 = .ok (.putfield 76, 3) := by decide +kernel
theorem dX6_feed_56 : decode cX6_feed 56 = .ok (.iinc 3 (-8), 3) := by decide +kernel
theorem dX6_feed_59 : decode cX6_feed 59 = .ok (.goto (-40), 3) := by decide +kernel
theorem dX6_feed_62 : decode cX6_feed 62 = .ok (.aload_n 0, 1) := by decide +kernel
theorem dX6_feed_63 : decode cX6_feed 63 = .ok (.getfield 22, 3) := by decide +kernel
theorem dX6_feed_66 : decode cX6_feed 66 = .ok (.getfield 76, 3) := by decide +kernel
theorem dX6_feed_69 : decode cX6_feed 69 = .ok (.ireturn, 1) := by decide +kernel
theorem dX6_end_0 : decode cX6_end 0 = .ok (.iload_n 1, 1) := by decide +kernel
theorem dX6_end_1 : decode cX6_end 1 = .ok (.ifCond .lt 14, 3) := by decide +kernel
theorem dX6_end_4 : decode cX6_end 4 = .ok (.iload_n 1, 1) := by decide +kernel
theorem dX6_end_5 : decode cX6_end 5 = .ok (.aload_n 0, 1) := by decide +kernel
theorem dX6_end_6 : decode cX6_end 6 = .ok (.getfield 22, 3) := by decide +kernel
theorem dX6_end_9 : decode cX6_end 9 = .ok (.getfield 76, 3) := by decide +kernel
theorem dX6_end_12 : decode cX6_end 12 = .ok (.if_icmp .le 5, 3) := by decide +kernel
theorem dX6_end_15 : decode cX6_end 15 = .ok (.iconst (-1), 1) := by decide +kernel
theorem dX6_end_16 : decode cX6_end 16 = .ok (.ireturn, 1) := by decide +kernel
theorem dX6_end_17 : decode cX6_end 17 = .ok (.aload_n 0, 1) := by decide +kernel
theorem dX6_end_18 : decode cX6_end 18 = .ok (.getfield 22, 3) := by decide +kernel
theorem dX6_end_21 : decode cX6_end 21 = .ok (.getfield 76, 3) := by decide +kernel
theorem dX6_end_24 : decode cX6_end 24 = .ok (.istore_n 2, 1) := by decide +kernel
theorem dX6_end_25 : decode cX6_end 25 = .ok (.aload_n 0, 1) := by decide +kernel
theorem dX6_end_26 : decode cX6_end 26 = .ok (.getfield 22, 3) := by decide +kernel
theorem dX6_end_29 : decode cX6_end 29 = .ok (.iload_n 1, 1) := by decide +kernel
theorem dX6_end_30 : decode cX6_end 30 = .ok (.putfield 76, 3) := by decide +kernel
theorem dX6_end_33 : decode cX6_end 33 = .ok (.iload_n 2, 1) := by decide +kernel
theorem dX6_end_34 : decode cX6_end 34 = .ok (.ireturn, 1) := by decide +kernel
theorem dX6_text_0 : decode cX6_text 0 = .ok (.aload_n 0, 1) := by decide +kernel
theorem dX6_text_1 : decode cX6_text 1 = .ok (.getfield 22, 3) := by decide +kernel
theorem dX6_text_4 : decode cX6_text 4 = .ok (.invokevirtual 83, 3) := by decide +kernel
theorem dX6_text_7 : decode cX6_text 7 = .ok (.istore_n 1, 1) := by decide +kernel
theorem dX6_text_8 : decode cX6_text 8 = .ok (.aload_n 0, 1) := by decide +kernel
theorem dX6_text_9 : decode cX6_text 9 = .ok (.getfield 22, 3) := by decide +kernel
theorem dX6_text_12 : decode cX6_text 12 = .ok (.iconst 0, 1) := by decide +kernel
theorem dX6_text_13 : decode cX6_text 13 = .ok (.putfield 76, 3) := by decide +kernel
theorem dX6_text_16 : decode cX6_text 16 = .ok (.aload_n 0, 1) := by decide +kernel
theorem dX6_text_17 : decode cX6_text 17 = .ok (.aload_n 0, 1) := by decide +kernel
theorem dX6_text_18 : decode cX6_text 18 = .ok (.getfield 22, 3) := by decide +kernel
theorem dX6_text_21 : decode cX6_text 21 = .ok (.getfield 87, 3) := by decide +kernel
theorem dX6_text_24 : decode cX6_text 24 = .ok (.putfield 26, 3) := by decide +kernel
theorem dX6_text_27 : decode cX6_text 27 = .ok (.aload_n 0, 1) := by decide +kernel
theorem dX6_text_28 : decode cX6_text 28 = .ok (.getfield 26, 3) := by decide +kernel
theorem dX6_text_31 : decode cX6_text 31 = .ok (.ifCond .eq 14, 3) := by decide +kernel
theorem dX6_text_34 : decode cX6_text 34 = .ok (.bipush (-10), 2) := by decide +kernel
theorem dX6_text_36 : decode cX6_text 36 = .ok (.aload_n 0, 1) := by decide +kernel
theorem dX6_text_37 : decode cX6_text 37 = .ok (.getfield 22, 3) := by decide +kernel
theorem dX6_text_40 : decode cX6_text 40 = .ok (.getfield 90, 3) := by decide +kernel
theorem dX6_text_43 : decode cX6_text 43 = .ok (.isub, 1) := by decide +kernel
theorem dX6_text_44 : decode cX6_text 44 = .ok (.ireturn, 1) := by decide +kernel
theorem dX6_text_45 : decode cX6_text 45 = .ok (.aload_n 0, 1) := by decide +kernel
theorem dX6_text_46 : decode cX6_text 46 = .ok (.getfield 10, 3) := by decide +kernel
theorem dX6_text_49 : decode cX6_text 49 = .ok (.aload_n 0, 1) := by decide +kernel
theorem dX6_text_50 : decode cX6_text 50 = .ok (.getfield 22, 3) := by decide +kernel
theorem dX6_text_53 : decode cX6_text 53 = .ok (.getfield 93, 3) := by decide +kernel
theorem dX6_text_56 : decode cX6_text 56 = .ok (.invokevirtual 96, 3) := by decide +kernel
theorem dX6_text_59 : decode cX6_text 59 = .ok (.aload_n 0, 1) := by decide +kernel
theorem dX6_text_60 : decode cX6_text 60 = .ok (.getfield 33, 3) := by decide +kernel
theorem dX6_text_63 : decode cX6_text 63 = .ok (.invokevirtual 100, 3) := by decide +kernel
theorem dX6_text_66 : decode cX6_text 66 = .ok (.aload_n 0, 1) := by decide +kernel
theorem dX6_text_67 : decode cX6_text 67 = .ok (.iconst 0, 1) := by decide +kernel
theorem dX6_text_68 : decode cX6_text 68 = .ok (.putfield 49, 3) := by decide +kernel
theorem dX6_text_71 : decode cX6_text 71 = .ok (.iconst 0, 1) := by decide +kernel
theorem dX6_text_72 : decode cX6_text 72 = .ok (.istore_n 2, 1) := by decide +kernel
theorem dX6_text_73 : decode cX6_text 73 = .ok (.iload_n 2, 1) := by decide +kernel
theorem dX6_text_74 : decode cX6_text 74 = .ok (.iconst 2, 1) := by decide +kernel
theorem dX6_text_75 : decode cX6_text 75 = .ok (.if_icmp .ge 16, 3) := by decide +kernel
theorem dX6_text_78 : decode cX6_text 78 = .ok (.aload_n 0, 1) := by decide +kernel
theorem dX6_text_79 : decode cX6_text 79 = .ok (.getfield 41, 3) := by decide +kernel
theorem dX6_text_82 : decode cX6_text 82 = .ok (.iload_n 2, 1) := by decide +kernel
theorem dX6_text_83 : decode cX6_text 83 = .ok (.iconst 0, 1) := by decide +kernel
theorem dX6_text_84 : decode cX6_text 84 = .ok (.bastore, 1) := by decide +kernel
theorem dX6_text_85 : decode cX6_text 85 = .ok (.iinc 2 1, 3) := by decide +kernel
theorem dX6_text_88 : decode cX6_text 88 = .ok (.goto (-15), 3) := by decide +kernel
theorem dX6_text_91 : decode cX6_text 91 = .ok (.iload_n 1, 1) := by decide +kernel
theorem dX6_text_92 : decode cX6_text 92 = .ok (.ireturn, 1) := by decide +kernel
theorem dX6_fault_0 : decode cX6_fault 0 = .ok (.aload_n 0, 1) := by decide +kernel
theorem dX6_fault_1 : decode cX6_fault 1 = .ok (.getfield 26, 3) := by decide +kernel
theorem dX6_fault_4 : decode cX6_fault 4 = .ok (.ireturn, 1) := by decide +kernel
theorem dX6_thing_0 : decode cX6_thing 0 = .ok (.aload_n 0, 1) := by decide +kernel
theorem dX6_thing_1 : decode cX6_thing 1 = .ok (.getfield 10, 3) := by decide +kernel
theorem dX6_thing_4 : decode cX6_thing 4 = .ok (.iload_n 1, 1) := by decide +kernel
theorem dX6_thing_5 : decode cX6_thing 5 = .ok (.invokevirtual 103, 3) := by decide +kernel
theorem dX6_thing_8 : decode cX6_thing 8 = .ok (.ifCond .ne 5, 3) := by decide +kernel
theorem dX6_thing_11 : decode cX6_thing 11 = .ok (.iconst (-1), 1) := by decide +kernel
theorem dX6_thing_12 : decode cX6_thing 12 = .ok (.ireturn, 1) := by decide +kernel
theorem dX6_thing_13 : decode cX6_thing 13 = .ok (.iload_n 2, 1) := by decide +kernel
theorem dX6_thing_14 : decode cX6_thing 14 = .ok (.tableswitch 56 0 2 #[26, 36, 46], 26) := by decide +kernel
theorem dX6_thing_40 : decode cX6_thing 40 = .ok (.aload_n 0, 1) := by decide +kernel
theorem dX6_thing_41 : decode cX6_thing 41 = .ok (.getfield 10, 3) := by decide +kernel
theorem dX6_thing_44 : decode cX6_thing 44 = .ok (.getfield 107, 3) := by decide +kernel
theorem dX6_thing_47 : decode cX6_thing 47 = .ok (.iload_n 1, 1) := by decide +kernel
theorem dX6_thing_48 : decode cX6_thing 48 = .ok (.iaload, 1) := by decide +kernel
theorem dX6_thing_49 : decode cX6_thing 49 = .ok (.ireturn, 1) := by decide +kernel
theorem dX6_thing_50 : decode cX6_thing 50 = .ok (.aload_n 0, 1) := by decide +kernel
theorem dX6_thing_51 : decode cX6_thing 51 = .ok (.getfield 10, 3) := by decide +kernel
theorem dX6_thing_54 : decode cX6_thing 54 = .ok (.getfield 110, 3) := by decide +kernel
theorem dX6_thing_57 : decode cX6_thing 57 = .ok (.iload_n 1, 1) := by decide +kernel
theorem dX6_thing_58 : decode cX6_thing 58 = .ok (.iaload, 1) := by decide +kernel
theorem dX6_thing_59 : decode cX6_thing 59 = .ok (.ireturn, 1) := by decide +kernel
theorem dX6_thing_60 : decode cX6_thing 60 = .ok (.aload_n 0, 1) := by decide +kernel
theorem dX6_thing_61 : decode cX6_thing 61 = .ok (.getfield 10, 3) := by decide +kernel
theorem dX6_thing_64 : decode cX6_thing 64 = .ok (.getfield 113, 3) := by decide +kernel
theorem dX6_thing_67 : decode cX6_thing 67 = .ok (.iload_n 1, 1) := by decide +kernel
theorem dX6_thing_68 : decode cX6_thing 68 = .ok (.iaload, 1) := by decide +kernel
theorem dX6_thing_69 : decode cX6_thing 69 = .ok (.ireturn, 1) := by decide +kernel
theorem dX6_thing_70 : decode cX6_thing 70 = .ok (.iconst (-1), 1) := by decide +kernel
theorem dX6_thing_71 : decode cX6_thing 71 = .ok (.ireturn, 1) := by decide +kernel
theorem dX6_supper_0 : decode cX6_supper 0 = .ok (.aload_n 0, 1) := by decide +kernel
theorem dX6_supper_1 : decode cX6_supper 1 = .ok (.getfield 10, 3) := by decide +kernel
theorem dX6_supper_4 : decode cX6_supper 4 = .ok (.iload_n 1, 1) := by decide +kernel
theorem dX6_supper_5 : decode cX6_supper 5 = .ok (.invokevirtual 116, 3) := by decide +kernel
theorem dX6_supper_8 : decode cX6_supper 8 = .ok (.ifCond .ne 5, 3) := by decide +kernel
theorem dX6_supper_11 : decode cX6_supper 11 = .ok (.iconst (-1), 1) := by decide +kernel
theorem dX6_supper_12 : decode cX6_supper 12 = .ok (.ireturn, 1) := by decide +kernel
theorem dX6_supper_13 : decode cX6_supper 13 = .ok (.iload_n 2, 1) := by decide +kernel
theorem dX6_supper_14 : decode cX6_supper 14 = .ok (.bipush 20, 2) := by decide +kernel
theorem dX6_supper_16 : decode cX6_supper 16 = .ok (.if_icmp .lt 39, 3) := by decide +kernel
theorem dX6_supper_19 : decode cX6_supper 19 = .ok (.aload_n 0, 1) := by decide +kernel
theorem dX6_supper_20 : decode cX6_supper 20 = .ok (.getfield 10, 3) := by decide +kernel
theorem dX6_supper_23 : decode cX6_supper 23 = .ok (.iload_n 2, 1) := by decide +kernel
theorem dX6_supper_24 : decode cX6_supper 24 = .ok (.bipush 20, 2) := by decide +kernel
theorem dX6_supper_26 : decode cX6_supper 26 = .ok (.isub, 1) := by decide +kernel
theorem dX6_supper_27 : decode cX6_supper 27 = .ok (.invokevirtual 103, 3) := by decide +kernel
theorem dX6_supper_30 : decode cX6_supper 30 = .ok (.ifCond .eq 23, 3) := by decide +kernel
theorem dX6_supper_33 : decode cX6_supper 33 = .ok (.aload_n 0, 1) := by decide +kernel
theorem dX6_supper_34 : decode cX6_supper 34 = .ok (.getfield 10, 3) := by decide +kernel
theorem dX6_supper_37 : decode cX6_supper 37 = .ok (.getfield 119, 3) := by decide +kernel
theorem dX6_supper_40 : decode cX6_supper 40 = .ok (.iload_n 1, 1) := by decide +kernel
theorem dX6_supper_41 : decode cX6_supper 41 = .ok (.bipush 6, 2) := by decide +kernel
theorem dX6_supper_43 : decode cX6_supper 43 = .ok (.imul, 1) := by decide +kernel
theorem dX6_supper_44 : decode cX6_supper 44 = .ok (.iload_n 2, 1) := by decide +kernel
theorem dX6_supper_45 : decode cX6_supper 45 = .ok (.iadd, 1) := by decide +kernel
theorem dX6_supper_46 : decode cX6_supper 46 = .ok (.bipush 20, 2) := by decide +kernel
theorem dX6_supper_48 : decode cX6_supper 48 = .ok (.isub, 1) := by decide +kernel
theorem dX6_supper_49 : decode cX6_supper 49 = .ok (.iaload, 1) := by decide +kernel
theorem dX6_supper_50 : decode cX6_supper 50 = .ok (.goto 4, 3) := by decide +kernel
theorem dX6_supper_53 : decode cX6_supper 53 = .ok (.iconst (-1), 1) := by decide +kernel
theorem dX6_supper_54 : decode cX6_supper 54 = .ok (.ireturn, 1) := by decide +kernel
theorem dX6_supper_55 : decode cX6_supper 55 = .ok (.iload_n 2, 1) := by decide +kernel
theorem dX6_supper_56 : decode cX6_supper 56 = .ok (.bipush 10, 2) := by decide +kernel
theorem dX6_supper_58 : decode cX6_supper 58 = .ok (.if_icmp .lt 39, 3) := by decide +kernel
theorem dX6_supper_61 : decode cX6_supper 61 = .ok (.aload_n 0, 1) := by decide +kernel
theorem dX6_supper_62 : decode cX6_supper 62 = .ok (.getfield 10, 3) := by decide +kernel
theorem dX6_supper_65 : decode cX6_supper 65 = .ok (.iload_n 2, 1) := by decide +kernel
theorem dX6_supper_66 : decode cX6_supper 66 = .ok (.bipush 10, 2) := by decide +kernel
theorem dX6_supper_68 : decode cX6_supper 68 = .ok (.isub, 1) := by decide +kernel
theorem dX6_supper_69 : decode cX6_supper 69 = .ok (.invokevirtual 103, 3) := by decide +kernel
theorem dX6_supper_72 : decode cX6_supper 72 = .ok (.ifCond .eq 23, 3) := by decide +kernel
theorem dX6_supper_75 : decode cX6_supper 75 = .ok (.aload_n 0, 1) := by decide +kernel
theorem dX6_supper_76 : decode cX6_supper 76 = .ok (.getfield 10, 3) := by decide +kernel
theorem dX6_supper_79 : decode cX6_supper 79 = .ok (.getfield 122, 3) := by decide +kernel
theorem dX6_supper_82 : decode cX6_supper 82 = .ok (.iload_n 1, 1) := by decide +kernel
theorem dX6_supper_83 : decode cX6_supper 83 = .ok (.bipush 6, 2) := by decide +kernel
theorem dX6_supper_85 : decode cX6_supper 85 = .ok (.imul, 1) := by decide +kernel
theorem dX6_supper_86 : decode cX6_supper 86 = .ok (.iload_n 2, 1) := by decide +kernel
theorem dX6_supper_87 : decode cX6_supper 87 = .ok (.iadd, 1) := by decide +kernel
theorem dX6_supper_88 : decode cX6_supper 88 = .ok (.bipush 10, 2) := by decide +kernel
theorem dX6_supper_90 : decode cX6_supper 90 = .ok (.isub, 1) := by decide +kernel
theorem dX6_supper_91 : decode cX6_supper 91 = .ok (.iaload, 1) := by decide +kernel
theorem dX6_supper_92 : decode cX6_supper 92 = .ok (.goto 4, 3) := by decide +kernel
theorem dX6_supper_95 : decode cX6_supper 95 = .ok (.iconst (-1), 1) := by decide +kernel
theorem dX6_supper_96 : decode cX6_supper 96 = .ok (.ireturn, 1) := by decide +kernel
theorem dX6_supper_97 : decode cX6_supper 97 = .ok (.iload_n 2, 1) := by decide +kernel
theorem dX6_supper_98 : decode cX6_supper 98 = .ok (.tableswitch 83 0 4 #[34, 44, 54, 64, 74], 34) := by decide +kernel
theorem dX6_supper_132 : decode cX6_supper 132 = .ok (.aload_n 0, 1) := by decide +kernel
theorem dX6_supper_133 : decode cX6_supper 133 = .ok (.getfield 10, 3) := by decide +kernel
theorem dX6_supper_136 : decode cX6_supper 136 = .ok (.getfield 125, 3) := by decide +kernel
theorem dX6_supper_139 : decode cX6_supper 139 = .ok (.iload_n 1, 1) := by decide +kernel
theorem dX6_supper_140 : decode cX6_supper 140 = .ok (.iaload, 1) := by decide +kernel
theorem dX6_supper_141 : decode cX6_supper 141 = .ok (.ireturn, 1) := by decide +kernel
theorem dX6_supper_142 : decode cX6_supper 142 = .ok (.aload_n 0, 1) := by decide +kernel
theorem dX6_supper_143 : decode cX6_supper 143 = .ok (.getfield 10, 3) := by decide +kernel
theorem dX6_supper_146 : decode cX6_supper 146 = .ok (.getfield 128, 3) := by decide +kernel
theorem dX6_supper_149 : decode cX6_supper 149 = .ok (.iload_n 1, 1) := by decide +kernel
theorem dX6_supper_150 : decode cX6_supper 150 = .ok (.iaload, 1) := by decide +kernel
theorem dX6_supper_151 : decode cX6_supper 151 = .ok (.ireturn, 1) := by decide +kernel
theorem dX6_supper_152 : decode cX6_supper 152 = .ok (.aload_n 0, 1) := by decide +kernel
theorem dX6_supper_153 : decode cX6_supper 153 = .ok (.getfield 10, 3) := by decide +kernel
theorem dX6_supper_156 : decode cX6_supper 156 = .ok (.getfield 131, 3) := by decide +kernel
theorem dX6_supper_159 : decode cX6_supper 159 = .ok (.iload_n 1, 1) := by decide +kernel
theorem dX6_supper_160 : decode cX6_supper 160 = .ok (.iaload, 1) := by decide +kernel
theorem dX6_supper_161 : decode cX6_supper 161 = .ok (.ireturn, 1) := by decide +kernel
theorem dX6_supper_162 : decode cX6_supper 162 = .ok (.aload_n 0, 1) := by decide +kernel
theorem dX6_supper_163 : decode cX6_supper 163 = .ok (.getfield 10, 3) := by decide +kernel
theorem dX6_supper_166 : decode cX6_supper 166 = .ok (.getfield 134, 3) := by decide +kernel
theorem dX6_supper_169 : decode cX6_supper 169 = .ok (.iload_n 1, 1) := by decide +kernel
theorem dX6_supper_170 : decode cX6_supper 170 = .ok (.iaload, 1) := by decide +kernel
theorem dX6_supper_171 : decode cX6_supper 171 = .ok (.ireturn, 1) := by decide +kernel
theorem dX6_supper_172 : decode cX6_supper 172 = .ok (.aload_n 0, 1) := by decide +kernel
theorem dX6_supper_173 : decode cX6_supper 173 = .ok (.getfield 10, 3) := by decide +kernel
theorem dX6_supper_176 : decode cX6_supper 176 = .ok (.iload_n 1, 1) := by decide +kernel
theorem dX6_supper_177 : decode cX6_supper 177 = .ok (.invokevirtual 137, 3) := by decide +kernel
theorem dX6_supper_180 : decode cX6_supper 180 = .ok (.ireturn, 1) := by decide +kernel
theorem dX6_supper_181 : decode cX6_supper 181 = .ok (.iconst (-1), 1) := by decide +kernel
theorem dX6_supper_182 : decode cX6_supper 182 = .ok (.ireturn, 1) := by decide +kernel
theorem dX6_rule_0 : decode cX6_rule 0 = .ok (.iload_n 1, 1) := by decide +kernel
theorem dX6_rule_1 : decode cX6_rule 1 = .ok (.bipush 10, 2) := by decide +kernel
theorem dX6_rule_3 : decode cX6_rule 3 = .ok (.if_icmp .lt 22, 3) := by decide +kernel
theorem dX6_rule_6 : decode cX6_rule 6 = .ok (.iload_n 1, 1) := by decide +kernel
theorem dX6_rule_7 : decode cX6_rule 7 = .ok (.bipush 17, 2) := by decide +kernel
theorem dX6_rule_9 : decode cX6_rule 9 = .ok (.if_icmp .ge 16, 3) := by decide +kernel
theorem dX6_rule_12 : decode cX6_rule 12 = .ok (.aload_n 0, 1) := by decide +kernel
theorem dX6_rule_13 : decode cX6_rule 13 = .ok (.getfield 10, 3) := by decide +kernel
theorem dX6_rule_16 : decode cX6_rule 16 = .ok (.getfield 141, 3) := by decide +kernel
theorem dX6_rule_19 : decode cX6_rule 19 = .ok (.iload_n 1, 1) := by decide +kernel
theorem dX6_rule_20 : decode cX6_rule 20 = .ok (.bipush 10, 2) := by decide +kernel
theorem dX6_rule_22 : decode cX6_rule 22 = .ok (.isub, 1) := by decide +kernel
theorem dX6_rule_23 : decode cX6_rule 23 = .ok (.iaload, 1) := by decide +kernel
theorem dX6_rule_24 : decode cX6_rule 24 = .ok (.ireturn, 1) := by decide +kernel
theorem dX6_rule_25 : decode cX6_rule 25 = .ok (.iload_n 1, 1) := by decide +kernel
theorem dX6_rule_26 : decode cX6_rule 26 = .ok (.tableswitch 50 0 2 #[26, 34, 42], 26) := by decide +kernel
theorem dX6_rule_52 : decode cX6_rule 52 = .ok (.aload_n 0, 1) := by decide +kernel
theorem dX6_rule_53 : decode cX6_rule 53 = .ok (.getfield 10, 3) := by decide +kernel
theorem dX6_rule_56 : decode cX6_rule 56 = .ok (.getfield 144, 3) := by decide +kernel
theorem dX6_rule_59 : decode cX6_rule 59 = .ok (.ireturn, 1) := by decide +kernel
theorem dX6_rule_60 : decode cX6_rule 60 = .ok (.aload_n 0, 1) := by decide +kernel
theorem dX6_rule_61 : decode cX6_rule 61 = .ok (.getfield 10, 3) := by decide +kernel
theorem dX6_rule_64 : decode cX6_rule 64 = .ok (.getfield 147, 3) := by decide +kernel
theorem dX6_rule_67 : decode cX6_rule 67 = .ok (.ireturn, 1) := by decide +kernel
theorem dX6_rule_68 : decode cX6_rule 68 = .ok (.aload_n 0, 1) := by decide +kernel
theorem dX6_rule_69 : decode cX6_rule 69 = .ok (.getfield 10, 3) := by decide +kernel
theorem dX6_rule_72 : decode cX6_rule 72 = .ok (.getfield 150, 3) := by decide +kernel
theorem dX6_rule_75 : decode cX6_rule 75 = .ok (.ireturn, 1) := by decide +kernel
theorem dX6_rule_76 : decode cX6_rule 76 = .ok (.iconst (-1), 1) := by decide +kernel
theorem dX6_rule_77 : decode cX6_rule 77 = .ok (.ireturn, 1) := by decide +kernel
theorem dX6_put_0 : decode cX6_put 0 = .ok (.aload_n 0, 1) := by decide +kernel
theorem dX6_put_1 : decode cX6_put 1 = .ok (.iload_n 1, 1) := by decide +kernel
theorem dX6_put_2 : decode cX6_put 2 = .ok (.iload_n 2, 1) := by decide +kernel
theorem dX6_put_3 : decode cX6_put 3 = .ok (.iload_n 3, 1) := by decide +kernel
theorem dX6_put_4 : decode cX6_put 4 = .ok (.invokevirtual 153, 3) := by decide +kernel
theorem dX6_put_7 : decode cX6_put 7 = .ok (.ifCond .ne 5, 3) := by decide +kernel
theorem dX6_put_10 : decode cX6_put 10 = .ok (.iconst (-1), 1) := by decide +kernel
theorem dX6_put_11 : decode cX6_put 11 = .ok (.ireturn, 1) := by decide +kernel
theorem dX6_put_12 : decode cX6_put 12 = .ok (.aload_n 0, 1) := by decide +kernel
theorem dX6_put_13 : decode cX6_put 13 = .ok (.getfield 33, 3) := by decide +kernel
theorem dX6_put_16 : decode cX6_put 16 = .ok (.getfield 157, 3) := by decide +kernel
theorem dX6_put_19 : decode cX6_put 19 = .ok (.iload_n 1, 1) := by decide +kernel
theorem dX6_put_20 : decode cX6_put 20 = .ok (.iconst 4, 1) := by decide +kernel
theorem dX6_put_21 : decode cX6_put 21 = .ok (.imul, 1) := by decide +kernel
theorem dX6_put_22 : decode cX6_put 22 = .ok (.iload_n 2, 1) := by decide +kernel
theorem dX6_put_23 : decode cX6_put 23 = .ok (.iadd, 1) := by decide +kernel
theorem dX6_put_24 : decode cX6_put 24 = .ok (.iaload, 1) := by decide +kernel
theorem dX6_put_25 : decode cX6_put 25 = .ok (.istore 4, 2) := by decide +kernel
theorem dX6_put_27 : decode cX6_put 27 = .ok (.aload_n 0, 1) := by decide +kernel
theorem dX6_put_28 : decode cX6_put 28 = .ok (.getfield 33, 3) := by decide +kernel
theorem dX6_put_31 : decode cX6_put 31 = .ok (.getfield 157, 3) := by decide +kernel
theorem dX6_put_34 : decode cX6_put 34 = .ok (.iload_n 1, 1) := by decide +kernel
theorem dX6_put_35 : decode cX6_put 35 = .ok (.iconst 4, 1) := by decide +kernel
theorem dX6_put_36 : decode cX6_put 36 = .ok (.imul, 1) := by decide +kernel
theorem dX6_put_37 : decode cX6_put 37 = .ok (.iload_n 2, 1) := by decide +kernel
theorem dX6_put_38 : decode cX6_put 38 = .ok (.iadd, 1) := by decide +kernel
theorem dX6_put_39 : decode cX6_put 39 = .ok (.iload_n 3, 1) := by decide +kernel
theorem dX6_put_40 : decode cX6_put 40 = .ok (.iastore, 1) := by decide +kernel
theorem dX6_put_41 : decode cX6_put 41 = .ok (.iload 4, 2) := by decide +kernel
theorem dX6_put_43 : decode cX6_put 43 = .ok (.ireturn, 1) := by decide +kernel
theorem dX6_canPut_0 : decode cX6_canPut 0 = .ok (.aload_n 0, 1) := by decide +kernel
theorem dX6_canPut_1 : decode cX6_canPut 1 = .ok (.getfield 10, 3) := by decide +kernel
theorem dX6_canPut_4 : decode cX6_canPut 4 = .ok (.iload_n 1, 1) := by decide +kernel
theorem dX6_canPut_5 : decode cX6_canPut 5 = .ok (.invokevirtual 103, 3) := by decide +kernel
theorem dX6_canPut_8 : decode cX6_canPut 8 = .ok (.ifCond .eq 34, 3) := by decide +kernel
theorem dX6_canPut_11 : decode cX6_canPut 11 = .ok (.iload_n 2, 1) := by decide +kernel
theorem dX6_canPut_12 : decode cX6_canPut 12 = .ok (.ifCond .lt 30, 3) := by decide +kernel
theorem dX6_canPut_15 : decode cX6_canPut 15 = .ok (.iload_n 2, 1) := by decide +kernel
theorem dX6_canPut_16 : decode cX6_canPut 16 = .ok (.aload_n 0, 1) := by decide +kernel
theorem dX6_canPut_17 : decode cX6_canPut 17 = .ok (.getfield 10, 3) := by decide +kernel
theorem dX6_canPut_20 : decode cX6_canPut 20 = .ok (.getfield 107, 3) := by decide +kernel
theorem dX6_canPut_23 : decode cX6_canPut 23 = .ok (.iload_n 1, 1) := by decide +kernel
theorem dX6_canPut_24 : decode cX6_canPut 24 = .ok (.iaload, 1) := by decide +kernel
theorem dX6_canPut_25 : decode cX6_canPut 25 = .ok (.if_icmp .ge 17, 3) := by decide +kernel
theorem dX6_canPut_28 : decode cX6_canPut 28 = .ok (.iload_n 3, 1) := by decide +kernel
theorem dX6_canPut_29 : decode cX6_canPut 29 = .ok (.ifCond .lt 13, 3) := by decide +kernel
theorem dX6_canPut_32 : decode cX6_canPut 32 = .ok (.iload_n 3, 1) := by decide +kernel
theorem dX6_canPut_33 : decode cX6_canPut 33 = .ok (.bipush 9, 2) := by decide +kernel
theorem dX6_canPut_35 : decode cX6_canPut 35 = .ok (.if_icmp .gt 7, 3) := by decide +kernel
theorem dX6_canPut_38 : decode cX6_canPut 38 = .ok (.iconst 1, 1) := by decide +kernel
theorem dX6_canPut_39 : decode cX6_canPut 39 = .ok (.goto 4, 3) := by decide +kernel
theorem dX6_canPut_42 : decode cX6_canPut 42 = .ok (.iconst 0, 1) := by decide +kernel
theorem dX6_canPut_43 : decode cX6_canPut 43 = .ok (.ireturn, 1) := by decide +kernel
theorem dX6_has_0 : decode cX6_has 0 = .ok (.aload_n 0, 1) := by decide +kernel
theorem dX6_has_1 : decode cX6_has 1 = .ok (.getfield 10, 3) := by decide +kernel
theorem dX6_has_4 : decode cX6_has 4 = .ok (.iload_n 1, 1) := by decide +kernel
theorem dX6_has_5 : decode cX6_has 5 = .ok (.invokevirtual 103, 3) := by decide +kernel
theorem dX6_has_8 : decode cX6_has 8 = .ok (.ifCond .eq 28, 3) := by decide +kernel
theorem dX6_has_11 : decode cX6_has 11 = .ok (.iload_n 2, 1) := by decide +kernel
theorem dX6_has_12 : decode cX6_has 12 = .ok (.ifCond .lt 24, 3) := by decide +kernel
theorem dX6_has_15 : decode cX6_has 15 = .ok (.iload_n 2, 1) := by decide +kernel
theorem dX6_has_16 : decode cX6_has 16 = .ok (.iconst 4, 1) := by decide +kernel
theorem dX6_has_17 : decode cX6_has 17 = .ok (.if_icmp .ge 19, 3) := by decide +kernel
theorem dX6_has_20 : decode cX6_has 20 = .ok (.aload_n 0, 1) := by decide +kernel
theorem dX6_has_21 : decode cX6_has 21 = .ok (.getfield 33, 3) := by decide +kernel
theorem dX6_has_24 : decode cX6_has 24 = .ok (.getfield 157, 3) := by decide +kernel
theorem dX6_has_27 : decode cX6_has 27 = .ok (.iload_n 1, 1) := by decide +kernel
theorem dX6_has_28 : decode cX6_has 28 = .ok (.iconst 4, 1) := by decide +kernel
theorem dX6_has_29 : decode cX6_has 29 = .ok (.imul, 1) := by decide +kernel
theorem dX6_has_30 : decode cX6_has 30 = .ok (.iload_n 2, 1) := by decide +kernel
theorem dX6_has_31 : decode cX6_has 31 = .ok (.iadd, 1) := by decide +kernel
theorem dX6_has_32 : decode cX6_has 32 = .ok (.iaload, 1) := by decide +kernel
theorem dX6_has_33 : decode cX6_has 33 = .ok (.goto 4, 3) := by decide +kernel
theorem dX6_has_36 : decode cX6_has 36 = .ok (.iconst (-1), 1) := by decide +kernel
theorem dX6_has_37 : decode cX6_has 37 = .ok (.ireturn, 1) := by decide +kernel
theorem dX6_may_0 : decode cX6_may 0 = .ok (.aload_n 0, 1) := by decide +kernel
theorem dX6_may_1 : decode cX6_may 1 = .ok (.getfield 10, 3) := by decide +kernel
theorem dX6_may_4 : decode cX6_may 4 = .ok (.iload_n 1, 1) := by decide +kernel
theorem dX6_may_5 : decode cX6_may 5 = .ok (.invokevirtual 116, 3) := by decide +kernel
theorem dX6_may_8 : decode cX6_may 8 = .ok (.ifCond .eq 19, 3) := by decide +kernel
theorem dX6_may_11 : decode cX6_may 11 = .ok (.aload_n 0, 1) := by decide +kernel
theorem dX6_may_12 : decode cX6_may 12 = .ok (.getfield 33, 3) := by decide +kernel
theorem dX6_may_15 : decode cX6_may 15 = .ok (.aload_n 0, 1) := by decide +kernel
theorem dX6_may_16 : decode cX6_may 16 = .ok (.getfield 10, 3) := by decide +kernel
theorem dX6_may_19 : decode cX6_may 19 = .ok (.iload_n 1, 1) := by decide +kernel
theorem dX6_may_20 : decode cX6_may 20 = .ok (.iload_n 2, 1) := by decide +kernel
theorem dX6_may_21 : decode cX6_may 21 = .ok (.invokevirtual 160, 3) := by decide +kernel
theorem dX6_may_24 : decode cX6_may 24 = .ok (.goto 4, 3) := by decide +kernel
theorem dX6_may_27 : decode cX6_may 27 = .ok (.iconst (-1), 1) := by decide +kernel
theorem dX6_may_28 : decode cX6_may 28 = .ok (.ireturn, 1) := by decide +kernel
theorem dX6_lacks_0 : decode cX6_lacks 0 = .ok (.aload_n 0, 1) := by decide +kernel
theorem dX6_lacks_1 : decode cX6_lacks 1 = .ok (.getfield 10, 3) := by decide +kernel
theorem dX6_lacks_4 : decode cX6_lacks 4 = .ok (.iload_n 1, 1) := by decide +kernel
theorem dX6_lacks_5 : decode cX6_lacks 5 = .ok (.invokevirtual 116, 3) := by decide +kernel
theorem dX6_lacks_8 : decode cX6_lacks 8 = .ok (.ifCond .eq 14, 3) := by decide +kernel
theorem dX6_lacks_11 : decode cX6_lacks 11 = .ok (.aload_n 0, 1) := by decide +kernel
theorem dX6_lacks_12 : decode cX6_lacks 12 = .ok (.getfield 10, 3) := by decide +kernel
theorem dX6_lacks_15 : decode cX6_lacks 15 = .ok (.iload_n 3, 1) := by decide +kernel
theorem dX6_lacks_16 : decode cX6_lacks 16 = .ok (.invokevirtual 103, 3) := by decide +kernel
theorem dX6_lacks_19 : decode cX6_lacks 19 = .ok (.ifCond .ne 5, 3) := by decide +kernel
theorem dX6_lacks_22 : decode cX6_lacks 22 = .ok (.iconst (-1), 1) := by decide +kernel
theorem dX6_lacks_23 : decode cX6_lacks 23 = .ok (.ireturn, 1) := by decide +kernel
theorem dX6_lacks_24 : decode cX6_lacks 24 = .ok (.iload 4, 2) := by decide +kernel
theorem dX6_lacks_26 : decode cX6_lacks 26 = .ok (.tableswitch 71 0 2 #[26, 41, 56], 26) := by decide +kernel
theorem dX6_lacks_52 : decode cX6_lacks 52 = .ok (.aload_n 0, 1) := by decide +kernel
theorem dX6_lacks_53 : decode cX6_lacks 53 = .ok (.getfield 33, 3) := by decide +kernel
theorem dX6_lacks_56 : decode cX6_lacks 56 = .ok (.aload_n 0, 1) := by decide +kernel
theorem dX6_lacks_57 : decode cX6_lacks 57 = .ok (.getfield 10, 3) := by decide +kernel
theorem dX6_lacks_60 : decode cX6_lacks 60 = .ok (.iload_n 1, 1) := by decide +kernel
theorem dX6_lacks_61 : decode cX6_lacks 61 = .ok (.iload_n 2, 1) := by decide +kernel
theorem dX6_lacks_62 : decode cX6_lacks 62 = .ok (.iload_n 3, 1) := by decide +kernel
theorem dX6_lacks_63 : decode cX6_lacks 63 = .ok (.invokevirtual 164, 3) := by decide +kernel
theorem dX6_lacks_66 : decode cX6_lacks 66 = .ok (.ireturn, 1) := by decide +kernel
theorem dX6_lacks_67 : decode cX6_lacks 67 = .ok (.aload_n 0, 1) := by decide +kernel
theorem dX6_lacks_68 : decode cX6_lacks 68 = .ok (.getfield 33, 3) := by decide +kernel
theorem dX6_lacks_71 : decode cX6_lacks 71 = .ok (.aload_n 0, 1) := by decide +kernel
theorem dX6_lacks_72 : decode cX6_lacks 72 = .ok (.getfield 10, 3) := by decide +kernel
theorem dX6_lacks_75 : decode cX6_lacks 75 = .ok (.iload_n 1, 1) := by decide +kernel
theorem dX6_lacks_76 : decode cX6_lacks 76 = .ok (.iload_n 2, 1) := by decide +kernel
theorem dX6_lacks_77 : decode cX6_lacks 77 = .ok (.iload_n 3, 1) := by decide +kernel
theorem dX6_lacks_78 : decode cX6_lacks 78 = .ok (.invokevirtual 168, 3) := by decide +kernel
theorem dX6_lacks_81 : decode cX6_lacks 81 = .ok (.ireturn, 1) := by decide +kernel
theorem dX6_lacks_82 : decode cX6_lacks 82 = .ok (.aload_n 0, 1) := by decide +kernel
theorem dX6_lacks_83 : decode cX6_lacks 83 = .ok (.getfield 33, 3) := by decide +kernel
theorem dX6_lacks_86 : decode cX6_lacks 86 = .ok (.aload_n 0, 1) := by decide +kernel
theorem dX6_lacks_87 : decode cX6_lacks 87 = .ok (.getfield 10, 3) := by decide +kernel
theorem dX6_lacks_90 : decode cX6_lacks 90 = .ok (.iload_n 1, 1) := by decide +kernel
theorem dX6_lacks_91 : decode cX6_lacks 91 = .ok (.iload_n 2, 1) := by decide +kernel
theorem dX6_lacks_92 : decode cX6_lacks 92 = .ok (.iload_n 3, 1) := by decide +kernel
theorem dX6_lacks_93 : decode cX6_lacks 93 = .ok (.invokevirtual 171, 3) := by decide +kernel
theorem dX6_lacks_96 : decode cX6_lacks 96 = .ok (.ireturn, 1) := by decide +kernel
theorem dX6_lacks_97 : decode cX6_lacks 97 = .ok (.iconst (-1), 1) := by decide +kernel
theorem dX6_lacks_98 : decode cX6_lacks 98 = .ok (.ireturn, 1) := by decide +kernel
theorem dX6_eat_0 : decode cX6_eat 0 = .ok (.aload_n 0, 1) := by decide +kernel
theorem dX6_eat_1 : decode cX6_eat 1 = .ok (.getfield 10, 3) := by decide +kernel
theorem dX6_eat_4 : decode cX6_eat 4 = .ok (.iload_n 1, 1) := by decide +kernel
theorem dX6_eat_5 : decode cX6_eat 5 = .ok (.invokevirtual 116, 3) := by decide +kernel
theorem dX6_eat_8 : decode cX6_eat 8 = .ok (.ifCond .ne 5, 3) := by decide +kernel
theorem dX6_eat_11 : decode cX6_eat 11 = .ok (.iconst (-1), 1) := by decide +kernel
theorem dX6_eat_12 : decode cX6_eat 12 = .ok (.ireturn, 1) := by decide +kernel
theorem dX6_eat_13 : decode cX6_eat 13 = .ok (.aload_n 0, 1) := by decide +kernel
theorem dX6_eat_14 : decode cX6_eat 14 = .ok (.getfield 33, 3) := by decide +kernel
theorem dX6_eat_17 : decode cX6_eat 17 = .ok (.getfield 174, 3) := by decide +kernel
theorem dX6_eat_20 : decode cX6_eat 20 = .ok (.bipush (-4), 2) := by decide +kernel
theorem dX6_eat_22 : decode cX6_eat 22 = .ok (.if_icmp .ne 19, 3) := by decide +kernel
theorem dX6_eat_25 : decode cX6_eat 25 = .ok (.aload_n 0, 1) := by decide +kernel
theorem dX6_eat_26 : decode cX6_eat 26 = .ok (.getfield 33, 3) := by decide +kernel
theorem dX6_eat_29 : decode cX6_eat 29 = .ok (.aload_n 0, 1) := by decide +kernel
theorem dX6_eat_30 : decode cX6_eat 30 = .ok (.getfield 10, 3) := by decide +kernel
theorem dX6_eat_33 : decode cX6_eat 33 = .ok (.iload_n 1, 1) := by decide +kernel
theorem dX6_eat_34 : decode cX6_eat 34 = .ok (.iload_n 2, 1) := by decide +kernel
theorem dX6_eat_35 : decode cX6_eat 35 = .ok (.invokevirtual 160, 3) := by decide +kernel
theorem dX6_eat_38 : decode cX6_eat 38 = .ok (.ifCond .eq 6, 3) := by decide +kernel
theorem dX6_eat_41 : decode cX6_eat 41 = .ok (.bipush (-2), 2) := by decide +kernel
theorem dX6_eat_43 : decode cX6_eat 43 = .ok (.ireturn, 1) := by decide +kernel
theorem dX6_eat_44 : decode cX6_eat 44 = .ok (.aload_n 0, 1) := by decide +kernel
theorem dX6_eat_45 : decode cX6_eat 45 = .ok (.getfield 33, 3) := by decide +kernel
theorem dX6_eat_48 : decode cX6_eat 48 = .ok (.aload_n 0, 1) := by decide +kernel
theorem dX6_eat_49 : decode cX6_eat 49 = .ok (.getfield 10, 3) := by decide +kernel
theorem dX6_eat_52 : decode cX6_eat 52 = .ok (.iload_n 1, 1) := by decide +kernel
theorem dX6_eat_53 : decode cX6_eat 53 = .ok (.iload_n 2, 1) := by decide +kernel
theorem dX6_eat_54 : decode cX6_eat 54 = .ok (.invokevirtual 177, 3) := by decide +kernel
theorem dX6_eat_57 : decode cX6_eat 57 = .ok (.ireturn, 1) := by decide +kernel
theorem dX6_night_0 : decode cX6_night 0 = .ok (.aload_n 0, 1) := by decide +kernel
theorem dX6_night_1 : decode cX6_night 1 = .ok (.getfield 33, 3) := by decide +kernel
theorem dX6_night_4 : decode cX6_night 4 = .ok (.aload_n 0, 1) := by decide +kernel
theorem dX6_night_5 : decode cX6_night 5 = .ok (.getfield 10, 3) := by decide +kernel
theorem dX6_night_8 : decode cX6_night 8 = .ok (.invokevirtual 180, 3) := by decide +kernel
theorem dX6_night_11 : decode cX6_night 11 = .ok (.ireturn, 1) := by decide +kernel
theorem dX6_now_0 : decode cX6_now 0 = .ok (.iload_n 1, 1) := by decide +kernel
theorem dX6_now_1 : decode cX6_now 1 = .ok (.tableswitch 87 0 5 #[39, 47, 55, 63, 71, 79], 39) := by decide +kernel
theorem dX6_now_40 : decode cX6_now 40 = .ok (.aload_n 0, 1) := by decide +kernel
theorem dX6_now_41 : decode cX6_now 41 = .ok (.getfield 33, 3) := by decide +kernel
theorem dX6_now_44 : decode cX6_now 44 = .ok (.getfield 184, 3) := by decide +kernel
theorem dX6_now_47 : decode cX6_now 47 = .ok (.ireturn, 1) := by decide +kernel
theorem dX6_now_48 : decode cX6_now 48 = .ok (.aload_n 0, 1) := by decide +kernel
theorem dX6_now_49 : decode cX6_now 49 = .ok (.getfield 33, 3) := by decide +kernel
theorem dX6_now_52 : decode cX6_now 52 = .ok (.getfield 174, 3) := by decide +kernel
theorem dX6_now_55 : decode cX6_now 55 = .ok (.ireturn, 1) := by decide +kernel
theorem dX6_now_56 : decode cX6_now 56 = .ok (.aload_n 0, 1) := by decide +kernel
theorem dX6_now_57 : decode cX6_now 57 = .ok (.getfield 33, 3) := by decide +kernel
theorem dX6_now_60 : decode cX6_now 60 = .ok (.getfield 187, 3) := by decide +kernel
theorem dX6_now_63 : decode cX6_now 63 = .ok (.ireturn, 1) := by decide +kernel
theorem dX6_now_64 : decode cX6_now 64 = .ok (.aload_n 0, 1) := by decide +kernel
theorem dX6_now_65 : decode cX6_now 65 = .ok (.getfield 33, 3) := by decide +kernel
theorem dX6_now_68 : decode cX6_now 68 = .ok (.getfield 190, 3) := by decide +kernel
theorem dX6_now_71 : decode cX6_now 71 = .ok (.ireturn, 1) := by decide +kernel
theorem dX6_now_72 : decode cX6_now 72 = .ok (.aload_n 0, 1) := by decide +kernel
theorem dX6_now_73 : decode cX6_now 73 = .ok (.getfield 33, 3) := by decide +kernel
theorem dX6_now_76 : decode cX6_now 76 = .ok (.getfield 193, 3) := by decide +kernel
theorem dX6_now_79 : decode cX6_now 79 = .ok (.ireturn, 1) := by decide +kernel
theorem dX6_now_80 : decode cX6_now 80 = .ok (.aload_n 0, 1) := by decide +kernel
theorem dX6_now_81 : decode cX6_now 81 = .ok (.getfield 33, 3) := by decide +kernel
theorem dX6_now_84 : decode cX6_now 84 = .ok (.invokevirtual 196, 3) := by decide +kernel
theorem dX6_now_87 : decode cX6_now 87 = .ok (.ireturn, 1) := by decide +kernel
theorem dX6_now_88 : decode cX6_now 88 = .ok (.iconst (-1), 1) := by decide +kernel
theorem dX6_now_89 : decode cX6_now 89 = .ok (.ireturn, 1) := by decide +kernel
theorem dX6_last_0 : decode cX6_last 0 = .ok (.aload_n 0, 1) := by decide +kernel
theorem dX6_last_1 : decode cX6_last 1 = .ok (.getfield 10, 3) := by decide +kernel
theorem dX6_last_4 : decode cX6_last 4 = .ok (.iload_n 1, 1) := by decide +kernel
theorem dX6_last_5 : decode cX6_last 5 = .ok (.invokevirtual 116, 3) := by decide +kernel
theorem dX6_last_8 : decode cX6_last 8 = .ok (.ifCond .eq 15, 3) := by decide +kernel
theorem dX6_last_11 : decode cX6_last 11 = .ok (.aload_n 0, 1) := by decide +kernel
theorem dX6_last_12 : decode cX6_last 12 = .ok (.getfield 33, 3) := by decide +kernel
theorem dX6_last_15 : decode cX6_last 15 = .ok (.getfield 199, 3) := by decide +kernel
theorem dX6_last_18 : decode cX6_last 18 = .ok (.iload_n 1, 1) := by decide +kernel
theorem dX6_last_19 : decode cX6_last 19 = .ok (.iaload, 1) := by decide +kernel
theorem dX6_last_20 : decode cX6_last 20 = .ok (.goto 4, 3) := by decide +kernel
theorem dX6_last_23 : decode cX6_last 23 = .ok (.iconst (-1), 1) := by decide +kernel
theorem dX6_last_24 : decode cX6_last 24 = .ok (.ireturn, 1) := by decide +kernel
theorem dX6_keep_0 : decode cX6_keep 0 = .ok (.iload_n 1, 1) := by decide +kernel
theorem dX6_keep_1 : decode cX6_keep 1 = .ok (.ifCond .lt 8, 3) := by decide +kernel
theorem dX6_keep_4 : decode cX6_keep 4 = .ok (.iload_n 1, 1) := by decide +kernel
theorem dX6_keep_5 : decode cX6_keep 5 = .ok (.iconst 2, 1) := by decide +kernel
theorem dX6_keep_6 : decode cX6_keep 6 = .ok (.if_icmp .lt 5, 3) := by decide +kernel
theorem dX6_keep_9 : decode cX6_keep 9 = .ok (.iconst (-1), 1) := by decide +kernel
theorem dX6_keep_10 : decode cX6_keep 10 = .ok (.ireturn, 1) := by decide +kernel
theorem dX6_keep_11 : decode cX6_keep 11 = .ok (.aload_n 0, 1) := by decide +kernel
theorem dX6_keep_12 : decode cX6_keep 12 = .ok (.getfield 41, 3) := by decide +kernel
theorem dX6_keep_15 : decode cX6_keep 15 = .ok (.iload_n 1, 1) := by decide +kernel
theorem dX6_keep_16 : decode cX6_keep 16 = .ok (.baload, 1) := by decide +kernel
theorem dX6_keep_17 : decode cX6_keep 17 = .ok (.ifCond .eq 7, 3) := by decide +kernel
theorem dX6_keep_20 : decode cX6_keep 20 = .ok (.iconst 1, 1) := by decide +kernel
theorem dX6_keep_21 : decode cX6_keep 21 = .ok (.goto 4, 3) := by decide +kernel
theorem dX6_keep_24 : decode cX6_keep 24 = .ok (.iconst 0, 1) := by decide +kernel
theorem dX6_keep_25 : decode cX6_keep 25 = .ok (.istore_n 2, 1) := by decide +kernel
theorem dX6_keep_26 : decode cX6_keep 26 = .ok (.aload_n 0, 1) := by decide +kernel
theorem dX6_keep_27 : decode cX6_keep 27 = .ok (.getfield 37, 3) := by decide +kernel
theorem dX6_keep_30 : decode cX6_keep 30 = .ok (.iload_n 1, 1) := by decide +kernel
theorem dX6_keep_31 : decode cX6_keep 31 = .ok (.aaload, 1) := by decide +kernel
theorem dX6_keep_32 : decode cX6_keep 32 = .ok (.aload_n 0, 1) := by decide +kernel
theorem dX6_keep_33 : decode cX6_keep 33 = .ok (.getfield 33, 3) := by decide +kernel
theorem dX6_keep_36 : decode cX6_keep 36 = .ok (.invokevirtual 202, 3) := by decide +kernel
theorem dX6_keep_39 : decode cX6_keep 39 = .ok (.aload_n 0, 1) := by decide +kernel
theorem dX6_keep_40 : decode cX6_keep 40 = .ok (.getfield 41, 3) := by decide +kernel
theorem dX6_keep_43 : decode cX6_keep 43 = .ok (.iload_n 1, 1) := by decide +kernel
theorem dX6_keep_44 : decode cX6_keep 44 = .ok (.iconst 1, 1) := by decide +kernel
theorem dX6_keep_45 : decode cX6_keep 45 = .ok (.bastore, 1) := by decide +kernel
theorem dX6_keep_46 : decode cX6_keep 46 = .ok (.iload_n 2, 1) := by decide +kernel
theorem dX6_keep_47 : decode cX6_keep 47 = .ok (.ireturn, 1) := by decide +kernel
theorem dX6_back_0 : decode cX6_back 0 = .ok (.iload_n 1, 1) := by decide +kernel
theorem dX6_back_1 : decode cX6_back 1 = .ok (.ifCond .lt 8, 3) := by decide +kernel
theorem dX6_back_4 : decode cX6_back 4 = .ok (.iload_n 1, 1) := by decide +kernel
theorem dX6_back_5 : decode cX6_back 5 = .ok (.iconst 2, 1) := by decide +kernel
theorem dX6_back_6 : decode cX6_back 6 = .ok (.if_icmp .lt 5, 3) := by decide +kernel
theorem dX6_back_9 : decode cX6_back 9 = .ok (.iconst (-1), 1) := by decide +kernel
theorem dX6_back_10 : decode cX6_back 10 = .ok (.ireturn, 1) := by decide +kernel
theorem dX6_back_11 : decode cX6_back 11 = .ok (.aload_n 0, 1) := by decide +kernel
theorem dX6_back_12 : decode cX6_back 12 = .ok (.getfield 41, 3) := by decide +kernel
theorem dX6_back_15 : decode cX6_back 15 = .ok (.iload_n 1, 1) := by decide +kernel
theorem dX6_back_16 : decode cX6_back 16 = .ok (.baload, 1) := by decide +kernel
theorem dX6_back_17 : decode cX6_back 17 = .ok (.ifCond .ne 6, 3) := by decide +kernel
theorem dX6_back_20 : decode cX6_back 20 = .ok (.bipush (-2), 2) := by decide +kernel
theorem dX6_back_22 : decode cX6_back 22 = .ok (.ireturn, 1) := by decide +kernel
theorem dX6_back_23 : decode cX6_back 23 = .ok (.aload_n 0, 1) := by decide +kernel
theorem dX6_back_24 : decode cX6_back 24 = .ok (.getfield 33, 3) := by decide +kernel
theorem dX6_back_27 : decode cX6_back 27 = .ok (.aload_n 0, 1) := by decide +kernel
theorem dX6_back_28 : decode cX6_back 28 = .ok (.getfield 37, 3) := by decide +kernel
theorem dX6_back_31 : decode cX6_back 31 = .ok (.iload_n 1, 1) := by decide +kernel
theorem dX6_back_32 : decode cX6_back 32 = .ok (.aaload, 1) := by decide +kernel
theorem dX6_back_33 : decode cX6_back 33 = .ok (.invokevirtual 202, 3) := by decide +kernel
theorem dX6_back_36 : decode cX6_back 36 = .ok (.aload_n 0, 1) := by decide +kernel
theorem dX6_back_37 : decode cX6_back 37 = .ok (.getfield 33, 3) := by decide +kernel
theorem dX6_back_40 : decode cX6_back 40 = .ok (.getfield 184, 3) := by decide +kernel
theorem dX6_back_43 : decode cX6_back 43 = .ok (.ireturn, 1) := by decide +kernel
theorem dX6_day_0 : decode cX6_day 0 = .ok (.iload_n 1, 1) := by decide +kernel
theorem dX6_day_1 : decode cX6_day 1 = .ok (.bipush (-4), 2) := by decide +kernel
theorem dX6_day_3 : decode cX6_day 3 = .ok (.if_icmp .eq 16, 3) := by decide +kernel
theorem dX6_day_6 : decode cX6_day 6 = .ok (.aload_n 0, 1) := by decide +kernel
theorem dX6_day_7 : decode cX6_day 7 = .ok (.getfield 10, 3) := by decide +kernel
theorem dX6_day_10 : decode cX6_day 10 = .ok (.iload_n 1, 1) := by decide +kernel
theorem dX6_day_11 : decode cX6_day 11 = .ok (.invokevirtual 116, 3) := by decide +kernel
theorem dX6_day_14 : decode cX6_day 14 = .ok (.ifCond .ne 5, 3) := by decide +kernel
theorem dX6_day_17 : decode cX6_day 17 = .ok (.iconst (-1), 1) := by decide +kernel
theorem dX6_day_18 : decode cX6_day 18 = .ok (.ireturn, 1) := by decide +kernel
theorem dX6_day_19 : decode cX6_day 19 = .ok (.aload_n 0, 1) := by decide +kernel
theorem dX6_day_20 : decode cX6_day 20 = .ok (.getfield 49, 3) := by decide +kernel
theorem dX6_day_23 : decode cX6_day 23 = .ok (.bipush 7, 2) := by decide +kernel
theorem dX6_day_25 : decode cX6_day 25 = .ok (.if_icmp .lt 6, 3) := by decide +kernel
theorem dX6_day_28 : decode cX6_day 28 = .ok (.bipush (-3), 2) := by decide +kernel
theorem dX6_day_30 : decode cX6_day 30 = .ok (.ireturn, 1) := by decide +kernel
theorem dX6_day_31 : decode cX6_day 31 = .ok (.aload_n 0, 1) := by decide +kernel
theorem dX6_day_32 : decode cX6_day 32 = .ok (.getfield 45, 3) := by decide +kernel
theorem dX6_day_35 : decode cX6_day 35 = .ok (.aload_n 0, 1) := by decide +kernel
theorem dX6_day_36 : decode cX6_day 36 = .ok (.getfield 49, 3) := by decide +kernel
theorem dX6_day_39 : decode cX6_day 39 = .ok (.iload_n 1, 1) := by decide +kernel
theorem dX6_day_40 : decode cX6_day 40 = .ok (.iastore, 1) := by decide +kernel
theorem dX6_day_41 : decode cX6_day 41 = .ok (.aload_n 0, 1) := by decide +kernel
theorem dX6_day_42 : decode cX6_day 42 = .ok (.dup, 1) := by decide +kernel
theorem dX6_day_43 : decode cX6_day 43 = .ok (.getfield 49, 3) := by decide +kernel
theorem dX6_day_46 : decode cX6_day 46 = .ok (.iconst 1, 1) := by decide +kernel
theorem dX6_day_47 : decode cX6_day 47 = .ok (.iadd, 1) := by decide +kernel
theorem dX6_day_48 : decode cX6_day 48 = .ok (.putfield 49, 3) := by decide +kernel
theorem dX6_day_51 : decode cX6_day 51 = .ok (.aload_n 0, 1) := by decide +kernel
theorem dX6_day_52 : decode cX6_day 52 = .ok (.getfield 49, 3) := by decide +kernel
theorem dX6_day_55 : decode cX6_day 55 = .ok (.ireturn, 1) := by decide +kernel
theorem dX6_clear_0 : decode cX6_clear 0 = .ok (.aload_n 0, 1) := by decide +kernel
theorem dX6_clear_1 : decode cX6_clear 1 = .ok (.getfield 49, 3) := by decide +kernel
theorem dX6_clear_4 : decode cX6_clear 4 = .ok (.istore_n 1, 1) := by decide +kernel
theorem dX6_clear_5 : decode cX6_clear 5 = .ok (.aload_n 0, 1) := by decide +kernel
theorem dX6_clear_6 : decode cX6_clear 6 = .ok (.iconst 0, 1) := by decide +kernel
theorem dX6_clear_7 : decode cX6_clear 7 = .ok (.putfield 49, 3) := by decide +kernel
theorem dX6_clear_10 : decode cX6_clear 10 = .ok (.iload_n 1, 1) := by decide +kernel
theorem dX6_clear_11 : decode cX6_clear 11 = .ok (.ireturn, 1) := by decide +kernel
theorem dX6_row_0 : decode cX6_row 0 = .ok (.iload_n 1, 1) := by decide +kernel
theorem dX6_row_1 : decode cX6_row 1 = .ok (.bipush 10, 2) := by decide +kernel
theorem dX6_row_3 : decode cX6_row 3 = .ok (.if_icmp .lt 13, 3) := by decide +kernel
theorem dX6_row_6 : decode cX6_row 6 = .ok (.iload_n 1, 1) := by decide +kernel
theorem dX6_row_7 : decode cX6_row 7 = .ok (.bipush 14, 2) := by decide +kernel
theorem dX6_row_9 : decode cX6_row 9 = .ok (.if_icmp .ge 7, 3) := by decide +kernel
theorem dX6_row_12 : decode cX6_row 12 = .ok (.iconst 1, 1) := by decide +kernel
theorem dX6_row_13 : decode cX6_row 13 = .ok (.goto 4, 3) := by decide +kernel
theorem dX6_row_16 : decode cX6_row 16 = .ok (.iconst 0, 1) := by decide +kernel
theorem dX6_row_17 : decode cX6_row 17 = .ok (.istore_n 2, 1) := by decide +kernel
theorem dX6_row_18 : decode cX6_row 18 = .ok (.iload_n 2, 1) := by decide +kernel
theorem dX6_row_19 : decode cX6_row 19 = .ok (.ifCond .ne 14, 3) := by decide +kernel
theorem dX6_row_22 : decode cX6_row 22 = .ok (.iload_n 1, 1) := by decide +kernel
theorem dX6_row_23 : decode cX6_row 23 = .ok (.ifCond .lt 8, 3) := by decide +kernel
theorem dX6_row_26 : decode cX6_row 26 = .ok (.iload_n 1, 1) := by decide +kernel
theorem dX6_row_27 : decode cX6_row 27 = .ok (.iconst 5, 1) := by decide +kernel
theorem dX6_row_28 : decode cX6_row 28 = .ok (.if_icmp .le 5, 3) := by decide +kernel
theorem dX6_row_31 : decode cX6_row 31 = .ok (.iconst (-1), 1) := by decide +kernel
theorem dX6_row_32 : decode cX6_row 32 = .ok (.ireturn, 1) := by decide +kernel
theorem dX6_row_33 : decode cX6_row 33 = .ok (.aload_n 0, 1) := by decide +kernel
theorem dX6_row_34 : decode cX6_row 34 = .ok (.getfield 55, 3) := by decide +kernel
theorem dX6_row_37 : decode cX6_row 37 = .ok (.aload_n 0, 1) := by decide +kernel
theorem dX6_row_38 : decode cX6_row 38 = .ok (.getfield 10, 3) := by decide +kernel
theorem dX6_row_41 : decode cX6_row 41 = .ok (.aload_n 0, 1) := by decide +kernel
theorem dX6_row_42 : decode cX6_row 42 = .ok (.getfield 33, 3) := by decide +kernel
theorem dX6_row_45 : decode cX6_row 45 = .ok (.aload_n 0, 1) := by decide +kernel
theorem dX6_row_46 : decode cX6_row 46 = .ok (.getfield 45, 3) := by decide +kernel
theorem dX6_row_49 : decode cX6_row 49 = .ok (.aload_n 0, 1) := by decide +kernel
theorem dX6_row_50 : decode cX6_row 50 = .ok (.getfield 49, 3) := by decide +kernel
theorem dX6_row_53 : decode cX6_row 53 = .ok (.iconst 0, 1) := by decide +kernel
theorem dX6_row_54 : decode cX6_row 54 = .ok (.invokevirtual 205, 3) := by decide +kernel
theorem dX6_row_57 : decode cX6_row 57 = .ok (.istore_n 3, 1) := by decide +kernel
theorem dX6_row_58 : decode cX6_row 58 = .ok (.iload_n 2, 1) := by decide +kernel
theorem dX6_row_59 : decode cX6_row 59 = .ok (.ifCond .eq 20, 3) := by decide +kernel
theorem dX6_row_62 : decode cX6_row 62 = .ok (.aload_n 0, 1) := by decide +kernel
theorem dX6_row_63 : decode cX6_row 63 = .ok (.getfield 10, 3) := by decide +kernel
theorem dX6_row_66 : decode cX6_row 66 = .ok (.aload_n 0, 1) := by decide +kernel
theorem dX6_row_67 : decode cX6_row 67 = .ok (.getfield 45, 3) := by decide +kernel
theorem dX6_row_70 : decode cX6_row 70 = .ok (.iload_n 3, 1) := by decide +kernel
theorem dX6_row_71 : decode cX6_row 71 = .ok (.iload_n 1, 1) := by decide +kernel
theorem dX6_row_72 : decode cX6_row 72 = .ok (.bipush 10, 2) := by decide +kernel
theorem dX6_row_74 : decode cX6_row 74 = .ok (.isub, 1) := by decide +kernel
theorem dX6_row_75 : decode cX6_row 75 = .ok (.invokevirtual 209, 3) := by decide +kernel
theorem dX6_row_78 : decode cX6_row 78 = .ok (.ireturn, 1) := by decide +kernel
theorem dX6_row_79 : decode cX6_row 79 = .ok (.iload_n 1, 1) := by decide +kernel
theorem dX6_row_80 : decode cX6_row 80 = .ok (.tableswitch 92 0 4 #[36, 51, 59, 70, 81], 36) := by decide +kernel
theorem dX6_row_116 : decode cX6_row 116 = .ok (.iload_n 3, 1) := by decide +kernel
theorem dX6_row_117 : decode cX6_row 117 = .ok (.aload_n 0, 1) := by decide +kernel
theorem dX6_row_118 : decode cX6_row 118 = .ok (.getfield 49, 3) := by decide +kernel
theorem dX6_row_121 : decode cX6_row 121 = .ok (.if_icmp .ge 7, 3) := by decide +kernel
theorem dX6_row_124 : decode cX6_row 124 = .ok (.iload_n 3, 1) := by decide +kernel
theorem dX6_row_125 : decode cX6_row 125 = .ok (.goto 5, 3) := by decide +kernel
theorem dX6_row_128 : decode cX6_row 128 = .ok (.bipush (-4), 2) := by decide +kernel
theorem dX6_row_130 : decode cX6_row 130 = .ok (.ireturn, 1) := by decide +kernel
theorem dX6_row_131 : decode cX6_row 131 = .ok (.aload_n 0, 1) := by decide +kernel
theorem dX6_row_132 : decode cX6_row 132 = .ok (.getfield 55, 3) := by decide +kernel
theorem dX6_row_135 : decode cX6_row 135 = .ok (.getfield 213, 3) := by decide +kernel
theorem dX6_row_138 : decode cX6_row 138 = .ok (.ireturn, 1) := by decide +kernel
theorem dX6_row_139 : decode cX6_row 139 = .ok (.aload_n 0, 1) := by decide +kernel
theorem dX6_row_140 : decode cX6_row 140 = .ok (.getfield 55, 3) := by decide +kernel
theorem dX6_row_143 : decode cX6_row 143 = .ok (.getfield 216, 3) := by decide +kernel
theorem dX6_row_146 : decode cX6_row 146 = .ok (.getfield 187, 3) := by decide +kernel
theorem dX6_row_149 : decode cX6_row 149 = .ok (.ireturn, 1) := by decide +kernel
theorem dX6_row_150 : decode cX6_row 150 = .ok (.aload_n 0, 1) := by decide +kernel
theorem dX6_row_151 : decode cX6_row 151 = .ok (.getfield 55, 3) := by decide +kernel
theorem dX6_row_154 : decode cX6_row 154 = .ok (.getfield 216, 3) := by decide +kernel
theorem dX6_row_157 : decode cX6_row 157 = .ok (.getfield 190, 3) := by decide +kernel
theorem dX6_row_160 : decode cX6_row 160 = .ok (.ireturn, 1) := by decide +kernel
theorem dX6_row_161 : decode cX6_row 161 = .ok (.aload_n 0, 1) := by decide +kernel
theorem dX6_row_162 : decode cX6_row 162 = .ok (.getfield 55, 3) := by decide +kernel
theorem dX6_row_165 : decode cX6_row 165 = .ok (.getfield 216, 3) := by decide +kernel
theorem dX6_row_168 : decode cX6_row 168 = .ok (.getfield 193, 3) := by decide +kernel
theorem dX6_row_171 : decode cX6_row 171 = .ok (.ireturn, 1) := by decide +kernel
theorem dX6_row_172 : decode cX6_row 172 = .ok (.iload_n 3, 1) := by decide +kernel
theorem dX6_row_173 : decode cX6_row 173 = .ok (.aload_n 0, 1) := by decide +kernel
theorem dX6_row_174 : decode cX6_row 174 = .ok (.getfield 49, 3) := by decide +kernel
theorem dX6_row_177 : decode cX6_row 177 = .ok (.if_icmp .ne 14, 3) := by decide +kernel
theorem dX6_row_180 : decode cX6_row 180 = .ok (.aload_n 0, 1) := by decide +kernel
theorem dX6_row_181 : decode cX6_row 181 = .ok (.invokevirtual 219, 3) := by decide +kernel
theorem dX6_row_184 : decode cX6_row 184 = .ok (.ifCond .eq 7, 3) := by decide +kernel
theorem dX6_row_187 : decode cX6_row 187 = .ok (.iconst 1, 1) := by decide +kernel
theorem dX6_row_188 : decode cX6_row 188 = .ok (.goto 4, 3) := by decide +kernel
theorem dX6_row_191 : decode cX6_row 191 = .ok (.iconst 0, 1) := by decide +kernel
theorem dX6_row_192 : decode cX6_row 192 = .ok (.ireturn, 1) := by decide +kernel
theorem dX6_rowByHandCloses_0 : decode cX6_rowByHandCloses 0 = .ok (.aload_n 0, 1) := by decide +kernel
theorem dX6_rowByHandCloses_1 : decode cX6_rowByHandCloses 1 = .ok (.getfield 49, 3) := by decide +kernel
theorem dX6_rowByHandCloses_4 : decode cX6_rowByHandCloses 4 = .ok (.iconst 1, 1) := by decide +kernel
theorem dX6_rowByHandCloses_5 : decode cX6_rowByHandCloses 5 = .ok (.if_icmp .lt 11, 3) := by decide +kernel
theorem dX6_rowByHandCloses_8 : decode cX6_rowByHandCloses 8 = .ok (.aload_n 0, 1) := by decide +kernel
theorem dX6_rowByHandCloses_9 : decode cX6_rowByHandCloses 9 = .ok (.getfield 49, 3) := by decide +kernel
theorem dX6_rowByHandCloses_12 : decode cX6_rowByHandCloses 12 = .ok (.iconst 5, 1) := by decide +kernel
theorem dX6_rowByHandCloses_13 : decode cX6_rowByHandCloses 13 = .ok (.if_icmp .le 5, 3) := by decide +kernel
theorem dX6_rowByHandCloses_16 : decode cX6_rowByHandCloses 16 = .ok (.iconst 0, 1) := by decide +kernel
theorem dX6_rowByHandCloses_17 : decode cX6_rowByHandCloses 17 = .ok (.ireturn, 1) := by decide +kernel
theorem dX6_rowByHandCloses_18 : decode cX6_rowByHandCloses 18 = .ok (.iconst 0, 1) := by decide +kernel
theorem dX6_rowByHandCloses_19 : decode cX6_rowByHandCloses 19 = .ok (.istore_n 1, 1) := by decide +kernel
theorem dX6_rowByHandCloses_20 : decode cX6_rowByHandCloses 20 = .ok (.iload_n 1, 1) := by decide +kernel
theorem dX6_rowByHandCloses_21 : decode cX6_rowByHandCloses 21 = .ok (.aload_n 0, 1) := by decide +kernel
theorem dX6_rowByHandCloses_22 : decode cX6_rowByHandCloses 22 = .ok (.getfield 49, 3) := by decide +kernel
theorem dX6_rowByHandCloses_25 : decode cX6_rowByHandCloses 25 = .ok (.if_icmp .ge 41, 3) := by decide +kernel
theorem dX6_rowByHandCloses_28 : decode cX6_rowByHandCloses 28 = .ok (.aload_n 0, 1) := by decide +kernel
theorem dX6_rowByHandCloses_29 : decode cX6_rowByHandCloses 29 = .ok (.getfield 45, 3) := by decide +kernel
theorem dX6_rowByHandCloses_32 : decode cX6_rowByHandCloses 32 = .ok (.iload_n 1, 1) := by decide +kernel
theorem dX6_rowByHandCloses_33 : decode cX6_rowByHandCloses 33 = .ok (.iaload, 1) := by decide +kernel
theorem dX6_rowByHandCloses_34 : decode cX6_rowByHandCloses 34 = .ok (.bipush (-4), 2) := by decide +kernel
theorem dX6_rowByHandCloses_36 : decode cX6_rowByHandCloses 36 = .ok (.if_icmp .ne 24, 3) := by decide +kernel
theorem dX6_rowByHandCloses_39 : decode cX6_rowByHandCloses 39 = .ok (.aload_n 0, 1) := by decide +kernel
theorem dX6_rowByHandCloses_40 : decode cX6_rowByHandCloses 40 = .ok (.getfield 10, 3) := by decide +kernel
theorem dX6_rowByHandCloses_43 : decode cX6_rowByHandCloses 43 = .ok (.aload_n 0, 1) := by decide +kernel
theorem dX6_rowByHandCloses_44 : decode cX6_rowByHandCloses 44 = .ok (.getfield 33, 3) := by decide +kernel
theorem dX6_rowByHandCloses_47 : decode cX6_rowByHandCloses 47 = .ok (.getfield 184, 3) := by decide +kernel
theorem dX6_rowByHandCloses_50 : decode cX6_rowByHandCloses 50 = .ok (.iload_n 1, 1) := by decide +kernel
theorem dX6_rowByHandCloses_51 : decode cX6_rowByHandCloses 51 = .ok (.iadd, 1) := by decide +kernel
theorem dX6_rowByHandCloses_52 : decode cX6_rowByHandCloses 52 = .ok (.invokevirtual 223, 3) := by decide +kernel
theorem dX6_rowByHandCloses_55 : decode cX6_rowByHandCloses 55 = .ok (.ifCond .ne 5, 3) := by decide +kernel
theorem dX6_rowByHandCloses_58 : decode cX6_rowByHandCloses 58 = .ok (.iconst 0, 1) := by decide +kernel
theorem dX6_rowByHandCloses_59 : decode cX6_rowByHandCloses 59 = .ok (.ireturn, 1) := by decide +kernel
theorem dX6_rowByHandCloses_60 : decode cX6_rowByHandCloses 60 = .ok (.iinc 1 1, 3) := by decide +kernel
theorem dX6_rowByHandCloses_63 : decode cX6_rowByHandCloses 63 = .ok (.goto (-43), 3) := by decide +kernel
theorem dX6_rowByHandCloses_66 : decode cX6_rowByHandCloses 66 = .ok (.aload_n 0, 1) := by decide +kernel
theorem dX6_rowByHandCloses_67 : decode cX6_rowByHandCloses 67 = .ok (.getfield 10, 3) := by decide +kernel
theorem dX6_rowByHandCloses_70 : decode cX6_rowByHandCloses 70 = .ok (.aload_n 0, 1) := by decide +kernel
theorem dX6_rowByHandCloses_71 : decode cX6_rowByHandCloses 71 = .ok (.getfield 33, 3) := by decide +kernel
theorem dX6_rowByHandCloses_74 : decode cX6_rowByHandCloses 74 = .ok (.aload_n 0, 1) := by decide +kernel
theorem dX6_rowByHandCloses_75 : decode cX6_rowByHandCloses 75 = .ok (.getfield 55, 3) := by decide +kernel
theorem dX6_rowByHandCloses_78 : decode cX6_rowByHandCloses 78 = .ok (.getfield 216, 3) := by decide +kernel
theorem dX6_rowByHandCloses_81 : decode cX6_rowByHandCloses 81 = .ok (.aload_n 0, 1) := by decide +kernel
theorem dX6_rowByHandCloses_82 : decode cX6_rowByHandCloses 82 = .ok (.getfield 45, 3) := by decide +kernel
theorem dX6_rowByHandCloses_85 : decode cX6_rowByHandCloses 85 = .ok (.aload_n 0, 1) := by decide +kernel
theorem dX6_rowByHandCloses_86 : decode cX6_rowByHandCloses 86 = .ok (.getfield 49, 3) := by decide +kernel
theorem dX6_rowByHandCloses_89 : decode cX6_rowByHandCloses 89 = .ok (.invokevirtual 226, 3) := by decide +kernel
theorem dX6_rowByHandCloses_92 : decode cX6_rowByHandCloses 92 = .ok (.ireturn, 1) := by decide +kernel
theorem dX6_bears_0 : decode cX6_bears 0 = .ok (.iload_n 1, 1) := by decide +kernel
theorem dX6_bears_1 : decode cX6_bears 1 = .ok (.ifCond .lt 8, 3) := by decide +kernel
theorem dX6_bears_4 : decode cX6_bears 4 = .ok (.iload_n 1, 1) := by decide +kernel
theorem dX6_bears_5 : decode cX6_bears 5 = .ok (.iconst 1, 1) := by decide +kernel
theorem dX6_bears_6 : decode cX6_bears 6 = .ok (.if_icmp .le 5, 3) := by decide +kernel
theorem dX6_bears_9 : decode cX6_bears 9 = .ok (.iconst (-1), 1) := by decide +kernel
theorem dX6_bears_10 : decode cX6_bears 10 = .ok (.ireturn, 1) := by decide +kernel
theorem dX6_bears_11 : decode cX6_bears 11 = .ok (.aload_n 0, 1) := by decide +kernel
theorem dX6_bears_12 : decode cX6_bears 12 = .ok (.getfield 55, 3) := by decide +kernel
theorem dX6_bears_15 : decode cX6_bears 15 = .ok (.aload_n 0, 1) := by decide +kernel
theorem dX6_bears_16 : decode cX6_bears 16 = .ok (.getfield 10, 3) := by decide +kernel
theorem dX6_bears_19 : decode cX6_bears 19 = .ok (.aload_n 0, 1) := by decide +kernel
theorem dX6_bears_20 : decode cX6_bears 20 = .ok (.getfield 33, 3) := by decide +kernel
theorem dX6_bears_23 : decode cX6_bears 23 = .ok (.aload_n 0, 1) := by decide +kernel
theorem dX6_bears_24 : decode cX6_bears 24 = .ok (.getfield 45, 3) := by decide +kernel
theorem dX6_bears_27 : decode cX6_bears 27 = .ok (.aload_n 0, 1) := by decide +kernel
theorem dX6_bears_28 : decode cX6_bears 28 = .ok (.getfield 49, 3) := by decide +kernel
theorem dX6_bears_31 : decode cX6_bears 31 = .ok (.invokevirtual 230, 3) := by decide +kernel
theorem dX6_bears_34 : decode cX6_bears 34 = .ok (.aload_n 0, 1) := by decide +kernel
theorem dX6_bears_35 : decode cX6_bears 35 = .ok (.getfield 49, 3) := by decide +kernel
theorem dX6_bears_38 : decode cX6_bears 38 = .ok (.iload_n 1, 1) := by decide +kernel
theorem dX6_bears_39 : decode cX6_bears 39 = .ok (.invokestatic 234, 3) := by decide +kernel
theorem dX6_bears_42 : decode cX6_bears 42 = .ok (.ireturn, 1) := by decide +kernel
theorem dX6_lowestTerms_0 : decode cX6_lowestTerms 0 = .ok (.iload_n 0, 1) := by decide +kernel
theorem dX6_lowestTerms_1 : decode cX6_lowestTerms 1 = .ok (.istore_n 3, 1) := by decide +kernel
theorem dX6_lowestTerms_2 : decode cX6_lowestTerms 2 = .ok (.iconst 1, 1) := by decide +kernel
theorem dX6_lowestTerms_3 : decode cX6_lowestTerms 3 = .ok (.iconst 2, 1) := by decide +kernel
theorem dX6_lowestTerms_4 : decode cX6_lowestTerms 4 = .ok (.iload_n 1, 1) := by decide +kernel
theorem dX6_lowestTerms_5 : decode cX6_lowestTerms 5 = .ok (.imul, 1) := by decide +kernel
theorem dX6_lowestTerms_6 : decode cX6_lowestTerms 6 = .ok (.ishl, 1) := by decide +kernel
theorem dX6_lowestTerms_7 : decode cX6_lowestTerms 7 = .ok (.istore 4, 2) := by decide +kernel
theorem dX6_lowestTerms_9 : decode cX6_lowestTerms 9 = .ok (.iload 4, 2) := by decide +kernel
theorem dX6_lowestTerms_11 : decode cX6_lowestTerms 11 = .ok (.iconst 1, 1) := by decide +kernel
theorem dX6_lowestTerms_12 : decode cX6_lowestTerms 12 = .ok (.if_icmp .le 22, 3) := by decide +kernel
theorem dX6_lowestTerms_15 : decode cX6_lowestTerms 15 = .ok (.iload_n 3, 1) := by decide +kernel
theorem dX6_lowestTerms_16 : decode cX6_lowestTerms 16 = .ok (.iconst 2, 1) := by decide +kernel
theorem dX6_lowestTerms_17 : decode cX6_lowestTerms 17 = .ok (.irem, 1) := by decide +kernel
theorem dX6_lowestTerms_18 : decode cX6_lowestTerms 18 = .ok (.ifCond .ne 16, 3) := by decide +kernel
theorem dX6_lowestTerms_21 : decode cX6_lowestTerms 21 = .ok (.iload_n 3, 1) := by decide +kernel
theorem dX6_lowestTerms_22 : decode cX6_lowestTerms 22 = .ok (.iconst 2, 1) := by decide +kernel
theorem dX6_lowestTerms_23 : decode cX6_lowestTerms 23 = .ok (.idiv, 1) := by decide +kernel
theorem dX6_lowestTerms_24 : decode cX6_lowestTerms 24 = .ok (.istore_n 3, 1) := by decide +kernel
theorem dX6_lowestTerms_25 : decode cX6_lowestTerms 25 = .ok (.iload 4, 2) := by decide +kernel
theorem dX6_lowestTerms_27 : decode cX6_lowestTerms 27 = .ok (.iconst 2, 1) := by decide +kernel
theorem dX6_lowestTerms_28 : decode cX6_lowestTerms 28 = .ok (.idiv, 1) := by decide +kernel
theorem dX6_lowestTerms_29 : decode cX6_lowestTerms 29 = .ok (.istore 4, 2) := by decide +kernel
theorem dX6_lowestTerms_31 : decode cX6_lowestTerms 31 = .ok (.goto (-22), 3) := by decide +kernel
theorem dX6_lowestTerms_34 : decode cX6_lowestTerms 34 = .ok (.iload_n 2, 1) := by decide +kernel
theorem dX6_lowestTerms_35 : decode cX6_lowestTerms 35 = .ok (.ifCond .ne 7, 3) := by decide +kernel
theorem dX6_lowestTerms_38 : decode cX6_lowestTerms 38 = .ok (.iload_n 3, 1) := by decide +kernel
theorem dX6_lowestTerms_39 : decode cX6_lowestTerms 39 = .ok (.goto 5, 3) := by decide +kernel
theorem dX6_lowestTerms_42 : decode cX6_lowestTerms 42 = .ok (.iload 4, 2) := by decide +kernel
theorem dX6_lowestTerms_44 : decode cX6_lowestTerms 44 = .ok (.ireturn, 1) := by decide +kernel
theorem dX6_best_0 : decode cX6_best 0 = .ok (.iload_n 2, 1) := by decide +kernel
theorem dX6_best_1 : decode cX6_best 1 = .ok (.ifCond .lt 12, 3) := by decide +kernel
theorem dX6_best_4 : decode cX6_best 4 = .ok (.iload_n 2, 1) := by decide +kernel
theorem dX6_best_5 : decode cX6_best 5 = .ok (.iconst 4, 1) := by decide +kernel
theorem dX6_best_6 : decode cX6_best 6 = .ok (.if_icmp .gt 7, 3) := by decide +kernel
theorem dX6_best_9 : decode cX6_best 9 = .ok (.iconst 1, 1) := by decide +kernel
theorem dX6_best_10 : decode cX6_best 10 = .ok (.goto 4, 3) := by decide +kernel
theorem dX6_best_13 : decode cX6_best 13 = .ok (.iconst 0, 1) := by decide +kernel
theorem dX6_best_14 : decode cX6_best 14 = .ok (.istore_n 3, 1) := by decide +kernel
theorem dX6_best_15 : decode cX6_best 15 = .ok (.iload_n 1, 1) := by decide +kernel
theorem dX6_best_16 : decode cX6_best 16 = .ok (.iconst 1, 1) := by decide +kernel
theorem dX6_best_17 : decode cX6_best 17 = .ok (.if_icmp .lt 20, 3) := by decide +kernel
theorem dX6_best_20 : decode cX6_best 20 = .ok (.iload_n 1, 1) := by decide +kernel
theorem dX6_best_21 : decode cX6_best 21 = .ok (.iconst 5, 1) := by decide +kernel
theorem dX6_best_22 : decode cX6_best 22 = .ok (.if_icmp .gt 15, 3) := by decide +kernel
theorem dX6_best_25 : decode cX6_best 25 = .ok (.iload_n 3, 1) := by decide +kernel
theorem dX6_best_26 : decode cX6_best 26 = .ok (.ifCond .ne 13, 3) := by decide +kernel
theorem dX6_best_29 : decode cX6_best 29 = .ok (.iload_n 2, 1) := by decide +kernel
theorem dX6_best_30 : decode cX6_best 30 = .ok (.iload_n 1, 1) := by decide +kernel
theorem dX6_best_31 : decode cX6_best 31 = .ok (.invokestatic 238, 3) := by decide +kernel
theorem dX6_best_34 : decode cX6_best 34 = .ok (.ifCond .ne 5, 3) := by decide +kernel
theorem dX6_best_37 : decode cX6_best 37 = .ok (.iconst (-1), 1) := by decide +kernel
theorem dX6_best_38 : decode cX6_best 38 = .ok (.ireturn, 1) := by decide +kernel
theorem dX6_best_39 : decode cX6_best 39 = .ok (.aload_n 0, 1) := by decide +kernel
theorem dX6_best_40 : decode cX6_best 40 = .ok (.getfield 62, 3) := by decide +kernel
theorem dX6_best_43 : decode cX6_best 43 = .ok (.aload_n 0, 1) := by decide +kernel
theorem dX6_best_44 : decode cX6_best 44 = .ok (.getfield 10, 3) := by decide +kernel
theorem dX6_best_47 : decode cX6_best 47 = .ok (.aload_n 0, 1) := by decide +kernel
theorem dX6_best_48 : decode cX6_best 48 = .ok (.getfield 33, 3) := by decide +kernel
theorem dX6_best_51 : decode cX6_best 51 = .ok (.iload_n 1, 1) := by decide +kernel
theorem dX6_best_52 : decode cX6_best 52 = .ok (.iconst 0, 1) := by decide +kernel
theorem dX6_best_53 : decode cX6_best 53 = .ok (.invokevirtual 242, 3) := by decide +kernel
theorem dX6_best_56 : decode cX6_best 56 = .ok (.iload_n 2, 1) := by decide +kernel
theorem dX6_best_57 : decode cX6_best 57 = .ok (.iconst 4, 1) := by decide +kernel
theorem dX6_best_58 : decode cX6_best 58 = .ok (.if_icmp .ne 11, 3) := by decide +kernel
theorem dX6_best_61 : decode cX6_best 61 = .ok (.aload_n 0, 1) := by decide +kernel
theorem dX6_best_62 : decode cX6_best 62 = .ok (.getfield 62, 3) := by decide +kernel
theorem dX6_best_65 : decode cX6_best 65 = .ok (.getfield 246, 3) := by decide +kernel
theorem dX6_best_68 : decode cX6_best 68 = .ok (.ireturn, 1) := by decide +kernel
theorem dX6_best_69 : decode cX6_best 69 = .ok (.aload_n 0, 1) := by decide +kernel
theorem dX6_best_70 : decode cX6_best 70 = .ok (.getfield 62, 3) := by decide +kernel
theorem dX6_best_73 : decode cX6_best 73 = .ok (.getfield 246, 3) := by decide +kernel
theorem dX6_best_76 : decode cX6_best 76 = .ok (.ifCond .ne 6, 3) := by decide +kernel
theorem dX6_best_79 : decode cX6_best 79 = .ok (.bipush (-4), 2) := by decide +kernel
theorem dX6_best_81 : decode cX6_best 81 = .ok (.ireturn, 1) := by decide +kernel
theorem dX6_best_82 : decode cX6_best 82 = .ok (.iload_n 2, 1) := by decide +kernel
theorem dX6_best_83 : decode cX6_best 83 = .ok (.tableswitch 61 0 3 #[29, 37, 45, 53], 29) := by decide +kernel
theorem dX6_best_112 : decode cX6_best 112 = .ok (.aload_n 0, 1) := by decide +kernel
theorem dX6_best_113 : decode cX6_best 113 = .ok (.getfield 62, 3) := by decide +kernel
theorem dX6_best_116 : decode cX6_best 116 = .ok (.getfield 249, 3) := by decide +kernel
theorem dX6_best_119 : decode cX6_best 119 = .ok (.ireturn, 1) := by decide +kernel
theorem dX6_best_120 : decode cX6_best 120 = .ok (.aload_n 0, 1) := by decide +kernel
theorem dX6_best_121 : decode cX6_best 121 = .ok (.getfield 62, 3) := by decide +kernel
theorem dX6_best_124 : decode cX6_best 124 = .ok (.getfield 252, 3) := by decide +kernel
theorem dX6_best_127 : decode cX6_best 127 = .ok (.ireturn, 1) := by decide +kernel
theorem dX6_best_128 : decode cX6_best 128 = .ok (.aload_n 0, 1) := by decide +kernel
theorem dX6_best_129 : decode cX6_best 129 = .ok (.getfield 62, 3) := by decide +kernel
theorem dX6_best_132 : decode cX6_best 132 = .ok (.getfield 255, 3) := by decide +kernel
theorem dX6_best_135 : decode cX6_best 135 = .ok (.ireturn, 1) := by decide +kernel
theorem dX6_best_136 : decode cX6_best 136 = .ok (.aload_n 0, 1) := by decide +kernel
theorem dX6_best_137 : decode cX6_best 137 = .ok (.getfield 62, 3) := by decide +kernel
theorem dX6_best_140 : decode cX6_best 140 = .ok (.getfield 258, 3) := by decide +kernel
theorem dX6_best_143 : decode cX6_best 143 = .ok (.ireturn, 1) := by decide +kernel
theorem dX6_best_144 : decode cX6_best 144 = .ok (.aload_n 0, 1) := by decide +kernel
theorem dX6_best_145 : decode cX6_best 145 = .ok (.getfield 62, 3) := by decide +kernel
theorem dX6_best_148 : decode cX6_best 148 = .ok (.getfield 261, 3) := by decide +kernel
theorem dX6_best_151 : decode cX6_best 151 = .ok (.iload_n 2, 1) := by decide +kernel
theorem dX6_best_152 : decode cX6_best 152 = .ok (.bipush 10, 2) := by decide +kernel
theorem dX6_best_154 : decode cX6_best 154 = .ok (.isub, 1) := by decide +kernel
theorem dX6_best_155 : decode cX6_best 155 = .ok (.iaload, 1) := by decide +kernel
theorem dX6_best_156 : decode cX6_best 156 = .ok (.ireturn, 1) := by decide +kernel
theorem dX6_isPlace_0 : decode cX6_isPlace 0 = .ok (.iload_n 0, 1) := by decide +kernel
theorem dX6_isPlace_1 : decode cX6_isPlace 1 = .ok (.bipush 10, 2) := by decide +kernel
theorem dX6_isPlace_3 : decode cX6_isPlace 3 = .ok (.if_icmp .lt 15, 3) := by decide +kernel
theorem dX6_isPlace_6 : decode cX6_isPlace 6 = .ok (.iload_n 0, 1) := by decide +kernel
theorem dX6_isPlace_7 : decode cX6_isPlace 7 = .ok (.bipush 10, 2) := by decide +kernel
theorem dX6_isPlace_9 : decode cX6_isPlace 9 = .ok (.iload_n 1, 1) := by decide +kernel
theorem dX6_isPlace_10 : decode cX6_isPlace 10 = .ok (.iadd, 1) := by decide +kernel
theorem dX6_isPlace_11 : decode cX6_isPlace 11 = .ok (.if_icmp .ge 7, 3) := by decide +kernel
theorem dX6_isPlace_14 : decode cX6_isPlace 14 = .ok (.iconst 1, 1) := by decide +kernel
theorem dX6_isPlace_15 : decode cX6_isPlace 15 = .ok (.goto 4, 3) := by decide +kernel
theorem dX6_isPlace_18 : decode cX6_isPlace 18 = .ok (.iconst 0, 1) := by decide +kernel
theorem dX6_isPlace_19 : decode cX6_isPlace 19 = .ok (.ireturn, 1) := by decide +kernel
theorem dX6_fairest_0 : decode cX6_fairest 0 = .ok (.iload_n 1, 1) := by decide +kernel
theorem dX6_fairest_1 : decode cX6_fairest 1 = .ok (.iconst 1, 1) := by decide +kernel
theorem dX6_fairest_2 : decode cX6_fairest 2 = .ok (.if_icmp .lt 20, 3) := by decide +kernel
theorem dX6_fairest_5 : decode cX6_fairest 5 = .ok (.iload_n 1, 1) := by decide +kernel
theorem dX6_fairest_6 : decode cX6_fairest 6 = .ok (.iconst 5, 1) := by decide +kernel
theorem dX6_fairest_7 : decode cX6_fairest 7 = .ok (.if_icmp .gt 15, 3) := by decide +kernel
theorem dX6_fairest_10 : decode cX6_fairest 10 = .ok (.iload_n 2, 1) := by decide +kernel
theorem dX6_fairest_11 : decode cX6_fairest 11 = .ok (.ifCond .eq 13, 3) := by decide +kernel
theorem dX6_fairest_14 : decode cX6_fairest 14 = .ok (.iload_n 2, 1) := by decide +kernel
theorem dX6_fairest_15 : decode cX6_fairest 15 = .ok (.iload_n 1, 1) := by decide +kernel
theorem dX6_fairest_16 : decode cX6_fairest 16 = .ok (.invokestatic 238, 3) := by decide +kernel
theorem dX6_fairest_19 : decode cX6_fairest 19 = .ok (.ifCond .ne 5, 3) := by decide +kernel
theorem dX6_fairest_22 : decode cX6_fairest 22 = .ok (.iconst (-1), 1) := by decide +kernel
theorem dX6_fairest_23 : decode cX6_fairest 23 = .ok (.ireturn, 1) := by decide +kernel
theorem dX6_fairest_24 : decode cX6_fairest 24 = .ok (.aload_n 0, 1) := by decide +kernel
theorem dX6_fairest_25 : decode cX6_fairest 25 = .ok (.getfield 62, 3) := by decide +kernel
theorem dX6_fairest_28 : decode cX6_fairest 28 = .ok (.aload_n 0, 1) := by decide +kernel
theorem dX6_fairest_29 : decode cX6_fairest 29 = .ok (.getfield 10, 3) := by decide +kernel
theorem dX6_fairest_32 : decode cX6_fairest 32 = .ok (.aload_n 0, 1) := by decide +kernel
theorem dX6_fairest_33 : decode cX6_fairest 33 = .ok (.getfield 33, 3) := by decide +kernel
theorem dX6_fairest_36 : decode cX6_fairest 36 = .ok (.iload_n 1, 1) := by decide +kernel
theorem dX6_fairest_37 : decode cX6_fairest 37 = .ok (.iconst 0, 1) := by decide +kernel
theorem dX6_fairest_38 : decode cX6_fairest 38 = .ok (.invokevirtual 242, 3) := by decide +kernel
theorem dX6_fairest_41 : decode cX6_fairest 41 = .ok (.aload_n 0, 1) := by decide +kernel
theorem dX6_fairest_42 : decode cX6_fairest 42 = .ok (.getfield 62, 3) := by decide +kernel
theorem dX6_fairest_45 : decode cX6_fairest 45 = .ok (.getfield 246, 3) := by decide +kernel
theorem dX6_fairest_48 : decode cX6_fairest 48 = .ok (.ifCond .ne 6, 3) := by decide +kernel
theorem dX6_fairest_51 : decode cX6_fairest 51 = .ok (.bipush (-4), 2) := by decide +kernel
theorem dX6_fairest_53 : decode cX6_fairest 53 = .ok (.ireturn, 1) := by decide +kernel
theorem dX6_fairest_54 : decode cX6_fairest 54 = .ok (.iload_n 2, 1) := by decide +kernel
theorem dX6_fairest_55 : decode cX6_fairest 55 = .ok (.ifCond .ne 13, 3) := by decide +kernel
theorem dX6_fairest_58 : decode cX6_fairest 58 = .ok (.aload_n 0, 1) := by decide +kernel
theorem dX6_fairest_59 : decode cX6_fairest 59 = .ok (.getfield 62, 3) := by decide +kernel
theorem dX6_fairest_62 : decode cX6_fairest 62 = .ok (.getfield 264, 3) := by decide +kernel
theorem dX6_fairest_65 : decode cX6_fairest 65 = .ok (.goto 15, 3) := by decide +kernel
theorem dX6_fairest_68 : decode cX6_fairest 68 = .ok (.aload_n 0, 1) := by decide +kernel
theorem dX6_fairest_69 : decode cX6_fairest 69 = .ok (.getfield 62, 3) := by decide +kernel
theorem dX6_fairest_72 : decode cX6_fairest 72 = .ok (.getfield 267, 3) := by decide +kernel
theorem dX6_fairest_75 : decode cX6_fairest 75 = .ok (.iload_n 2, 1) := by decide +kernel
theorem dX6_fairest_76 : decode cX6_fairest 76 = .ok (.bipush 10, 2) := by decide +kernel
theorem dX6_fairest_78 : decode cX6_fairest 78 = .ok (.isub, 1) := by decide +kernel
theorem dX6_fairest_79 : decode cX6_fairest 79 = .ok (.iaload, 1) := by decide +kernel
theorem dX6_fairest_80 : decode cX6_fairest 80 = .ok (.ireturn, 1) := by decide +kernel
theorem dX6_surest_0 : decode cX6_surest 0 = .ok (.iload_n 1, 1) := by decide +kernel
theorem dX6_surest_1 : decode cX6_surest 1 = .ok (.iconst 1, 1) := by decide +kernel
theorem dX6_surest_2 : decode cX6_surest 2 = .ok (.if_icmp .lt 25, 3) := by decide +kernel
theorem dX6_surest_5 : decode cX6_surest 5 = .ok (.iload_n 1, 1) := by decide +kernel
theorem dX6_surest_6 : decode cX6_surest 6 = .ok (.iconst 3, 1) := by decide +kernel
theorem dX6_surest_7 : decode cX6_surest 7 = .ok (.if_icmp .gt 20, 3) := by decide +kernel
theorem dX6_surest_10 : decode cX6_surest 10 = .ok (.iload_n 2, 1) := by decide +kernel
theorem dX6_surest_11 : decode cX6_surest 11 = .ok (.ifCond .eq 18, 3) := by decide +kernel
theorem dX6_surest_14 : decode cX6_surest 14 = .ok (.iload_n 2, 1) := by decide +kernel
theorem dX6_surest_15 : decode cX6_surest 15 = .ok (.iconst 1, 1) := by decide +kernel
theorem dX6_surest_16 : decode cX6_surest 16 = .ok (.if_icmp .eq 13, 3) := by decide +kernel
theorem dX6_surest_19 : decode cX6_surest 19 = .ok (.iload_n 2, 1) := by decide +kernel
theorem dX6_surest_20 : decode cX6_surest 20 = .ok (.iload_n 1, 1) := by decide +kernel
theorem dX6_surest_21 : decode cX6_surest 21 = .ok (.invokestatic 238, 3) := by decide +kernel
theorem dX6_surest_24 : decode cX6_surest 24 = .ok (.ifCond .ne 5, 3) := by decide +kernel
theorem dX6_surest_27 : decode cX6_surest 27 = .ok (.iconst (-1), 1) := by decide +kernel
theorem dX6_surest_28 : decode cX6_surest 28 = .ok (.ireturn, 1) := by decide +kernel
theorem dX6_surest_29 : decode cX6_surest 29 = .ok (.aload_n 0, 1) := by decide +kernel
theorem dX6_surest_30 : decode cX6_surest 30 = .ok (.getfield 62, 3) := by decide +kernel
theorem dX6_surest_33 : decode cX6_surest 33 = .ok (.aload_n 0, 1) := by decide +kernel
theorem dX6_surest_34 : decode cX6_surest 34 = .ok (.getfield 10, 3) := by decide +kernel
theorem dX6_surest_37 : decode cX6_surest 37 = .ok (.aload_n 0, 1) := by decide +kernel
theorem dX6_surest_38 : decode cX6_surest 38 = .ok (.getfield 33, 3) := by decide +kernel
theorem dX6_surest_41 : decode cX6_surest 41 = .ok (.iload_n 1, 1) := by decide +kernel
theorem dX6_surest_42 : decode cX6_surest 42 = .ok (.iconst 1, 1) := by decide +kernel
theorem dX6_surest_43 : decode cX6_surest 43 = .ok (.invokevirtual 242, 3) := by decide +kernel
theorem dX6_surest_46 : decode cX6_surest 46 = .ok (.aload_n 0, 1) := by decide +kernel
theorem dX6_surest_47 : decode cX6_surest 47 = .ok (.getfield 62, 3) := by decide +kernel
theorem dX6_surest_50 : decode cX6_surest 50 = .ok (.getfield 246, 3) := by decide +kernel
theorem dX6_surest_53 : decode cX6_surest 53 = .ok (.ifCond .ne 6, 3) := by decide +kernel
theorem dX6_surest_56 : decode cX6_surest 56 = .ok (.bipush (-4), 2) := by decide +kernel
theorem dX6_surest_58 : decode cX6_surest 58 = .ok (.ireturn, 1) := by decide +kernel
theorem dX6_surest_59 : decode cX6_surest 59 = .ok (.iload_n 2, 1) := by decide +kernel
theorem dX6_surest_60 : decode cX6_surest 60 = .ok (.iconst 1, 1) := by decide +kernel
theorem dX6_surest_61 : decode cX6_surest 61 = .ok (.if_icmp .gt 18, 3) := by decide +kernel
theorem dX6_surest_64 : decode cX6_surest 64 = .ok (.aload_n 0, 1) := by decide +kernel
theorem dX6_surest_65 : decode cX6_surest 65 = .ok (.getfield 62, 3) := by decide +kernel
theorem dX6_surest_68 : decode cX6_surest 68 = .ok (.getfield 270, 3) := by decide +kernel
theorem dX6_surest_71 : decode cX6_surest 71 = .ok (.iload_n 1, 1) := by decide +kernel
theorem dX6_surest_72 : decode cX6_surest 72 = .ok (.iload_n 2, 1) := by decide +kernel
theorem dX6_surest_73 : decode cX6_surest 73 = .ok (.invokestatic 234, 3) := by decide +kernel
theorem dX6_surest_76 : decode cX6_surest 76 = .ok (.goto 15, 3) := by decide +kernel
theorem dX6_surest_79 : decode cX6_surest 79 = .ok (.aload_n 0, 1) := by decide +kernel
theorem dX6_surest_80 : decode cX6_surest 80 = .ok (.getfield 62, 3) := by decide +kernel
theorem dX6_surest_83 : decode cX6_surest 83 = .ok (.getfield 273, 3) := by decide +kernel
theorem dX6_surest_86 : decode cX6_surest 86 = .ok (.iload_n 2, 1) := by decide +kernel
theorem dX6_surest_87 : decode cX6_surest 87 = .ok (.bipush 10, 2) := by decide +kernel
theorem dX6_surest_89 : decode cX6_surest 89 = .ok (.isub, 1) := by decide +kernel
theorem dX6_surest_90 : decode cX6_surest 90 = .ok (.iaload, 1) := by decide +kernel
theorem dX6_surest_91 : decode cX6_surest 91 = .ok (.ireturn, 1) := by decide +kernel
theorem dX6_closes_0 : decode cX6_closes 0 = .ok (.iload_n 2, 1) := by decide +kernel
theorem dX6_closes_1 : decode cX6_closes 1 = .ok (.ifCond .lt 12, 3) := by decide +kernel
theorem dX6_closes_4 : decode cX6_closes 4 = .ok (.iload_n 2, 1) := by decide +kernel
theorem dX6_closes_5 : decode cX6_closes 5 = .ok (.iconst 2, 1) := by decide +kernel
theorem dX6_closes_6 : decode cX6_closes 6 = .ok (.if_icmp .gt 7, 3) := by decide +kernel
theorem dX6_closes_9 : decode cX6_closes 9 = .ok (.iconst 1, 1) := by decide +kernel
theorem dX6_closes_10 : decode cX6_closes 10 = .ok (.goto 4, 3) := by decide +kernel
theorem dX6_closes_13 : decode cX6_closes 13 = .ok (.iconst 0, 1) := by decide +kernel
theorem dX6_closes_14 : decode cX6_closes 14 = .ok (.istore_n 3, 1) := by decide +kernel
theorem dX6_closes_15 : decode cX6_closes 15 = .ok (.iload_n 1, 1) := by decide +kernel
theorem dX6_closes_16 : decode cX6_closes 16 = .ok (.iconst 1, 1) := by decide +kernel
theorem dX6_closes_17 : decode cX6_closes 17 = .ok (.if_icmp .lt 20, 3) := by decide +kernel
theorem dX6_closes_20 : decode cX6_closes 20 = .ok (.iload_n 1, 1) := by decide +kernel
theorem dX6_closes_21 : decode cX6_closes 21 = .ok (.iconst 5, 1) := by decide +kernel
theorem dX6_closes_22 : decode cX6_closes 22 = .ok (.if_icmp .gt 15, 3) := by decide +kernel
theorem dX6_closes_25 : decode cX6_closes 25 = .ok (.iload_n 3, 1) := by decide +kernel
theorem dX6_closes_26 : decode cX6_closes 26 = .ok (.ifCond .ne 13, 3) := by decide +kernel
theorem dX6_closes_29 : decode cX6_closes 29 = .ok (.iload_n 2, 1) := by decide +kernel
theorem dX6_closes_30 : decode cX6_closes 30 = .ok (.iload_n 1, 1) := by decide +kernel
theorem dX6_closes_31 : decode cX6_closes 31 = .ok (.invokestatic 238, 3) := by decide +kernel
theorem dX6_closes_34 : decode cX6_closes 34 = .ok (.ifCond .ne 5, 3) := by decide +kernel
theorem dX6_closes_37 : decode cX6_closes 37 = .ok (.iconst (-1), 1) := by decide +kernel
theorem dX6_closes_38 : decode cX6_closes 38 = .ok (.ireturn, 1) := by decide +kernel
theorem dX6_closes_39 : decode cX6_closes 39 = .ok (.aload_n 0, 1) := by decide +kernel
theorem dX6_closes_40 : decode cX6_closes 40 = .ok (.getfield 62, 3) := by decide +kernel
theorem dX6_closes_43 : decode cX6_closes 43 = .ok (.aload_n 0, 1) := by decide +kernel
theorem dX6_closes_44 : decode cX6_closes 44 = .ok (.getfield 10, 3) := by decide +kernel
theorem dX6_closes_47 : decode cX6_closes 47 = .ok (.aload_n 0, 1) := by decide +kernel
theorem dX6_closes_48 : decode cX6_closes 48 = .ok (.getfield 33, 3) := by decide +kernel
theorem dX6_closes_51 : decode cX6_closes 51 = .ok (.iload_n 1, 1) := by decide +kernel
theorem dX6_closes_52 : decode cX6_closes 52 = .ok (.iconst 0, 1) := by decide +kernel
theorem dX6_closes_53 : decode cX6_closes 53 = .ok (.invokevirtual 242, 3) := by decide +kernel
theorem dX6_closes_56 : decode cX6_closes 56 = .ok (.iload_n 2, 1) := by decide +kernel
theorem dX6_closes_57 : decode cX6_closes 57 = .ok (.tableswitch 65 0 2 #[27, 35, 43], 27) := by decide +kernel
theorem dX6_closes_84 : decode cX6_closes 84 = .ok (.aload_n 0, 1) := by decide +kernel
theorem dX6_closes_85 : decode cX6_closes 85 = .ok (.getfield 62, 3) := by decide +kernel
theorem dX6_closes_88 : decode cX6_closes 88 = .ok (.getfield 276, 3) := by decide +kernel
theorem dX6_closes_91 : decode cX6_closes 91 = .ok (.ireturn, 1) := by decide +kernel
theorem dX6_closes_92 : decode cX6_closes 92 = .ok (.aload_n 0, 1) := by decide +kernel
theorem dX6_closes_93 : decode cX6_closes 93 = .ok (.getfield 62, 3) := by decide +kernel
theorem dX6_closes_96 : decode cX6_closes 96 = .ok (.getfield 279, 3) := by decide +kernel
theorem dX6_closes_99 : decode cX6_closes 99 = .ok (.ireturn, 1) := by decide +kernel
theorem dX6_closes_100 : decode cX6_closes 100 = .ok (.iconst 1, 1) := by decide +kernel
theorem dX6_closes_101 : decode cX6_closes 101 = .ok (.aload_n 0, 1) := by decide +kernel
theorem dX6_closes_102 : decode cX6_closes 102 = .ok (.getfield 10, 3) := by decide +kernel
theorem dX6_closes_105 : decode cX6_closes 105 = .ok (.getfield 282, 3) := by decide +kernel
theorem dX6_closes_108 : decode cX6_closes 108 = .ok (.ishl, 1) := by decide +kernel
theorem dX6_closes_109 : decode cX6_closes 109 = .ok (.iconst 1, 1) := by decide +kernel
theorem dX6_closes_110 : decode cX6_closes 110 = .ok (.isub, 1) := by decide +kernel
theorem dX6_closes_111 : decode cX6_closes 111 = .ok (.aload_n 0, 1) := by decide +kernel
theorem dX6_closes_112 : decode cX6_closes 112 = .ok (.getfield 62, 3) := by decide +kernel
theorem dX6_closes_115 : decode cX6_closes 115 = .ok (.getfield 279, 3) := by decide +kernel
theorem dX6_closes_118 : decode cX6_closes 118 = .ok (.iconst (-1), 1) := by decide +kernel
theorem dX6_closes_119 : decode cX6_closes 119 = .ok (.ixor, 1) := by decide +kernel
theorem dX6_closes_120 : decode cX6_closes 120 = .ok (.iand, 1) := by decide +kernel
theorem dX6_closes_121 : decode cX6_closes 121 = .ok (.ireturn, 1) := by decide +kernel
theorem dX6_closes_122 : decode cX6_closes 122 = .ok (.aload_n 0, 1) := by decide +kernel
theorem dX6_closes_123 : decode cX6_closes 123 = .ok (.getfield 62, 3) := by decide +kernel
theorem dX6_closes_126 : decode cX6_closes 126 = .ok (.getfield 276, 3) := by decide +kernel
theorem dX6_closes_129 : decode cX6_closes 129 = .ok (.ifCond .ne 8, 3) := by decide +kernel
theorem dX6_closes_132 : decode cX6_closes 132 = .ok (.bipush (-4), 2) := by decide +kernel
theorem dX6_closes_134 : decode cX6_closes 134 = .ok (.goto 15, 3) := by decide +kernel
theorem dX6_closes_137 : decode cX6_closes 137 = .ok (.aload_n 0, 1) := by decide +kernel
theorem dX6_closes_138 : decode cX6_closes 138 = .ok (.getfield 62, 3) := by decide +kernel
theorem dX6_closes_141 : decode cX6_closes 141 = .ok (.getfield 285, 3) := by decide +kernel
theorem dX6_closes_144 : decode cX6_closes 144 = .ok (.iload_n 2, 1) := by decide +kernel
theorem dX6_closes_145 : decode cX6_closes 145 = .ok (.bipush 10, 2) := by decide +kernel
theorem dX6_closes_147 : decode cX6_closes 147 = .ok (.isub, 1) := by decide +kernel
theorem dX6_closes_148 : decode cX6_closes 148 = .ok (.iaload, 1) := by decide +kernel
theorem dX6_closes_149 : decode cX6_closes 149 = .ok (.ireturn, 1) := by decide +kernel
theorem dX6_shortest_0 : decode cX6_shortest 0 = .ok (.iconst 1, 1) := by decide +kernel
theorem dX6_shortest_1 : decode cX6_shortest 1 = .ok (.istore_n 1, 1) := by decide +kernel
theorem dX6_shortest_2 : decode cX6_shortest 2 = .ok (.iload_n 1, 1) := by decide +kernel
theorem dX6_shortest_3 : decode cX6_shortest 3 = .ok (.iconst 5, 1) := by decide +kernel
theorem dX6_shortest_4 : decode cX6_shortest 4 = .ok (.if_icmp .gt 38, 3) := by decide +kernel
theorem dX6_shortest_7 : decode cX6_shortest 7 = .ok (.aload_n 0, 1) := by decide +kernel
theorem dX6_shortest_8 : decode cX6_shortest 8 = .ok (.getfield 62, 3) := by decide +kernel
theorem dX6_shortest_11 : decode cX6_shortest 11 = .ok (.aload_n 0, 1) := by decide +kernel
theorem dX6_shortest_12 : decode cX6_shortest 12 = .ok (.getfield 10, 3) := by decide +kernel
theorem dX6_shortest_15 : decode cX6_shortest 15 = .ok (.aload_n 0, 1) := by decide +kernel
theorem dX6_shortest_16 : decode cX6_shortest 16 = .ok (.getfield 33, 3) := by decide +kernel
theorem dX6_shortest_19 : decode cX6_shortest 19 = .ok (.iload_n 1, 1) := by decide +kernel
theorem dX6_shortest_20 : decode cX6_shortest 20 = .ok (.iconst 0, 1) := by decide +kernel
theorem dX6_shortest_21 : decode cX6_shortest 21 = .ok (.invokevirtual 242, 3) := by decide +kernel
theorem dX6_shortest_24 : decode cX6_shortest 24 = .ok (.aload_n 0, 1) := by decide +kernel
theorem dX6_shortest_25 : decode cX6_shortest 25 = .ok (.getfield 62, 3) := by decide +kernel
theorem dX6_shortest_28 : decode cX6_shortest 28 = .ok (.getfield 276, 3) := by decide +kernel
theorem dX6_shortest_31 : decode cX6_shortest 31 = .ok (.ifCond .le 5, 3) := by decide +kernel
theorem dX6_shortest_34 : decode cX6_shortest 34 = .ok (.iload_n 1, 1) := by decide +kernel
theorem dX6_shortest_35 : decode cX6_shortest 35 = .ok (.ireturn, 1) := by decide +kernel
theorem dX6_shortest_36 : decode cX6_shortest 36 = .ok (.iinc 1 1, 3) := by decide +kernel
theorem dX6_shortest_39 : decode cX6_shortest 39 = .ok (.goto (-37), 3) := by decide +kernel
theorem dX6_shortest_42 : decode cX6_shortest 42 = .ok (.bipush (-4), 2) := by decide +kernel
theorem dX6_shortest_44 : decode cX6_shortest 44 = .ok (.ireturn, 1) := by decide +kernel
theorem dX6_small_0 : decode cX6_small 0 = .ok (.aload_n 0, 1) := by decide +kernel
theorem dX6_small_1 : decode cX6_small 1 = .ok (.getfield 10, 3) := by decide +kernel
theorem dX6_small_4 : decode cX6_small 4 = .ok (.iload_n 1, 1) := by decide +kernel
theorem dX6_small_5 : decode cX6_small 5 = .ok (.invokevirtual 103, 3) := by decide +kernel
theorem dX6_small_8 : decode cX6_small 8 = .ok (.ifCond .eq 13, 3) := by decide +kernel
theorem dX6_small_11 : decode cX6_small 11 = .ok (.iload_n 2, 1) := by decide +kernel
theorem dX6_small_12 : decode cX6_small 12 = .ok (.iconst 1, 1) := by decide +kernel
theorem dX6_small_13 : decode cX6_small 13 = .ok (.if_icmp .lt 8, 3) := by decide +kernel
theorem dX6_small_16 : decode cX6_small 16 = .ok (.iload_n 2, 1) := by decide +kernel
theorem dX6_small_17 : decode cX6_small 17 = .ok (.iconst 4, 1) := by decide +kernel
theorem dX6_small_18 : decode cX6_small 18 = .ok (.if_icmp .le 5, 3) := by decide +kernel
theorem dX6_small_21 : decode cX6_small 21 = .ok (.iconst (-1), 1) := by decide +kernel
theorem dX6_small_22 : decode cX6_small 22 = .ok (.ireturn, 1) := by decide +kernel
theorem dX6_small_23 : decode cX6_small 23 = .ok (.aload_n 0, 1) := by decide +kernel
theorem dX6_small_24 : decode cX6_small 24 = .ok (.getfield 16, 3) := by decide +kernel
theorem dX6_small_27 : decode cX6_small 27 = .ok (.aload_n 0, 1) := by decide +kernel
theorem dX6_small_28 : decode cX6_small 28 = .ok (.getfield 10, 3) := by decide +kernel
theorem dX6_small_31 : decode cX6_small 31 = .ok (.iload_n 1, 1) := by decide +kernel
theorem dX6_small_32 : decode cX6_small 32 = .ok (.invokevirtual 288, 3) := by decide +kernel
theorem dX6_small_35 : decode cX6_small 35 = .ok (.aload_n 0, 1) := by decide +kernel
theorem dX6_small_36 : decode cX6_small 36 = .ok (.getfield 62, 3) := by decide +kernel
theorem dX6_small_39 : decode cX6_small 39 = .ok (.aload_n 0, 1) := by decide +kernel
theorem dX6_small_40 : decode cX6_small 40 = .ok (.getfield 16, 3) := by decide +kernel
theorem dX6_small_43 : decode cX6_small 43 = .ok (.aload_n 0, 1) := by decide +kernel
theorem dX6_small_44 : decode cX6_small 44 = .ok (.getfield 33, 3) := by decide +kernel
theorem dX6_small_47 : decode cX6_small 47 = .ok (.iload_n 2, 1) := by decide +kernel
theorem dX6_small_48 : decode cX6_small 48 = .ok (.iconst 0, 1) := by decide +kernel
theorem dX6_small_49 : decode cX6_small 49 = .ok (.invokevirtual 242, 3) := by decide +kernel
theorem dX6_small_52 : decode cX6_small 52 = .ok (.aload_n 0, 1) := by decide +kernel
theorem dX6_small_53 : decode cX6_small 53 = .ok (.getfield 62, 3) := by decide +kernel
theorem dX6_small_56 : decode cX6_small 56 = .ok (.getfield 276, 3) := by decide +kernel
theorem dX6_small_59 : decode cX6_small 59 = .ok (.ireturn, 1) := by decide +kernel
theorem dX6_dish_0 : decode cX6_dish 0 = .ok (.iload_n 1, 1) := by decide +kernel
theorem dX6_dish_1 : decode cX6_dish 1 = .ok (.iconst 1, 1) := by decide +kernel
theorem dX6_dish_2 : decode cX6_dish 2 = .ok (.if_icmp .lt 8, 3) := by decide +kernel
theorem dX6_dish_5 : decode cX6_dish 5 = .ok (.iload_n 1, 1) := by decide +kernel
theorem dX6_dish_6 : decode cX6_dish 6 = .ok (.iconst 4, 1) := by decide +kernel
theorem dX6_dish_7 : decode cX6_dish 7 = .ok (.if_icmp .le 5, 3) := by decide +kernel
theorem dX6_dish_10 : decode cX6_dish 10 = .ok (.iconst (-1), 1) := by decide +kernel
theorem dX6_dish_11 : decode cX6_dish 11 = .ok (.ireturn, 1) := by decide +kernel
theorem dX6_dish_12 : decode cX6_dish 12 = .ok (.bipush (-4), 2) := by decide +kernel
theorem dX6_dish_14 : decode cX6_dish 14 = .ok (.istore_n 2, 1) := by decide +kernel
theorem dX6_dish_15 : decode cX6_dish 15 = .ok (.iconst (-1), 1) := by decide +kernel
theorem dX6_dish_16 : decode cX6_dish 16 = .ok (.istore_n 3, 1) := by decide +kernel
theorem dX6_dish_17 : decode cX6_dish 17 = .ok (.iconst 0, 1) := by decide +kernel
theorem dX6_dish_18 : decode cX6_dish 18 = .ok (.istore 4, 2) := by decide +kernel
theorem dX6_dish_20 : decode cX6_dish 20 = .ok (.iload 4, 2) := by decide +kernel
theorem dX6_dish_22 : decode cX6_dish 22 = .ok (.aload_n 0, 1) := by decide +kernel
theorem dX6_dish_23 : decode cX6_dish 23 = .ok (.getfield 10, 3) := by decide +kernel
theorem dX6_dish_26 : decode cX6_dish 26 = .ok (.getfield 292, 3) := by decide +kernel
theorem dX6_dish_29 : decode cX6_dish 29 = .ok (.if_icmp .ge 61, 3) := by decide +kernel
theorem dX6_dish_32 : decode cX6_dish 32 = .ok (.aload_n 0, 1) := by decide +kernel
theorem dX6_dish_33 : decode cX6_dish 33 = .ok (.getfield 16, 3) := by decide +kernel
theorem dX6_dish_36 : decode cX6_dish 36 = .ok (.aload_n 0, 1) := by decide +kernel
theorem dX6_dish_37 : decode cX6_dish 37 = .ok (.getfield 10, 3) := by decide +kernel
theorem dX6_dish_40 : decode cX6_dish 40 = .ok (.iload 4, 2) := by decide +kernel
theorem dX6_dish_42 : decode cX6_dish 42 = .ok (.invokevirtual 288, 3) := by decide +kernel
theorem dX6_dish_45 : decode cX6_dish 45 = .ok (.aload_n 0, 1) := by decide +kernel
theorem dX6_dish_46 : decode cX6_dish 46 = .ok (.getfield 62, 3) := by decide +kernel
theorem dX6_dish_49 : decode cX6_dish 49 = .ok (.aload_n 0, 1) := by decide +kernel
theorem dX6_dish_50 : decode cX6_dish 50 = .ok (.getfield 16, 3) := by decide +kernel
theorem dX6_dish_53 : decode cX6_dish 53 = .ok (.aload_n 0, 1) := by decide +kernel
theorem dX6_dish_54 : decode cX6_dish 54 = .ok (.getfield 33, 3) := by decide +kernel
theorem dX6_dish_57 : decode cX6_dish 57 = .ok (.iload_n 1, 1) := by decide +kernel
theorem dX6_dish_58 : decode cX6_dish 58 = .ok (.iconst 0, 1) := by decide +kernel
theorem dX6_dish_59 : decode cX6_dish 59 = .ok (.invokevirtual 242, 3) := by decide +kernel
theorem dX6_dish_62 : decode cX6_dish 62 = .ok (.aload_n 0, 1) := by decide +kernel
theorem dX6_dish_63 : decode cX6_dish 63 = .ok (.getfield 62, 3) := by decide +kernel
theorem dX6_dish_66 : decode cX6_dish 66 = .ok (.getfield 276, 3) := by decide +kernel
theorem dX6_dish_69 : decode cX6_dish 69 = .ok (.iload_n 3, 1) := by decide +kernel
theorem dX6_dish_70 : decode cX6_dish 70 = .ok (.if_icmp .le 14, 3) := by decide +kernel
theorem dX6_dish_73 : decode cX6_dish 73 = .ok (.aload_n 0, 1) := by decide +kernel
theorem dX6_dish_74 : decode cX6_dish 74 = .ok (.getfield 62, 3) := by decide +kernel
theorem dX6_dish_77 : decode cX6_dish 77 = .ok (.getfield 276, 3) := by decide +kernel
theorem dX6_dish_80 : decode cX6_dish 80 = .ok (.istore_n 3, 1) := by decide +kernel
theorem dX6_dish_81 : decode cX6_dish 81 = .ok (.iload 4, 2) := by decide +kernel
theorem dX6_dish_83 : decode cX6_dish 83 = .ok (.istore_n 2, 1) := by decide +kernel
theorem dX6_dish_84 : decode cX6_dish 84 = .ok (.iinc 4 1, 3) := by decide +kernel
theorem dX6_dish_87 : decode cX6_dish 87 = .ok (.goto (-67), 3) := by decide +kernel
theorem dX6_dish_90 : decode cX6_dish 90 = .ok (.iload_n 2, 1) := by decide +kernel
theorem dX6_dish_91 : decode cX6_dish 91 = .ok (.ireturn, 1) := by decide +kernel
theorem dX6_cheap_0 : decode cX6_cheap 0 = .ok (.aload_n 0, 1) := by decide +kernel
theorem dX6_cheap_1 : decode cX6_cheap 1 = .ok (.getfield 10, 3) := by decide +kernel
theorem dX6_cheap_4 : decode cX6_cheap 4 = .ok (.iload_n 1, 1) := by decide +kernel
theorem dX6_cheap_5 : decode cX6_cheap 5 = .ok (.invokevirtual 103, 3) := by decide +kernel
theorem dX6_cheap_8 : decode cX6_cheap 8 = .ok (.ifCond .eq 23, 3) := by decide +kernel
theorem dX6_cheap_11 : decode cX6_cheap 11 = .ok (.iload_n 2, 1) := by decide +kernel
theorem dX6_cheap_12 : decode cX6_cheap 12 = .ok (.ifCond .lt 19, 3) := by decide +kernel
theorem dX6_cheap_15 : decode cX6_cheap 15 = .ok (.iload_n 2, 1) := by decide +kernel
theorem dX6_cheap_16 : decode cX6_cheap 16 = .ok (.bipush 60, 2) := by decide +kernel
theorem dX6_cheap_18 : decode cX6_cheap 18 = .ok (.if_icmp .gt 13, 3) := by decide +kernel
theorem dX6_cheap_21 : decode cX6_cheap 21 = .ok (.iload_n 3, 1) := by decide +kernel
theorem dX6_cheap_22 : decode cX6_cheap 22 = .ok (.iconst 1, 1) := by decide +kernel
theorem dX6_cheap_23 : decode cX6_cheap 23 = .ok (.if_icmp .lt 8, 3) := by decide +kernel
theorem dX6_cheap_26 : decode cX6_cheap 26 = .ok (.iload_n 3, 1) := by decide +kernel
theorem dX6_cheap_27 : decode cX6_cheap 27 = .ok (.iconst 5, 1) := by decide +kernel
theorem dX6_cheap_28 : decode cX6_cheap 28 = .ok (.if_icmp .le 5, 3) := by decide +kernel
theorem dX6_cheap_31 : decode cX6_cheap 31 = .ok (.iconst (-1), 1) := by decide +kernel
theorem dX6_cheap_32 : decode cX6_cheap 32 = .ok (.ireturn, 1) := by decide +kernel
theorem dX6_cheap_33 : decode cX6_cheap 33 = .ok (.aload_n 0, 1) := by decide +kernel
theorem dX6_cheap_34 : decode cX6_cheap 34 = .ok (.getfield 16, 3) := by decide +kernel
theorem dX6_cheap_37 : decode cX6_cheap 37 = .ok (.aload_n 0, 1) := by decide +kernel
theorem dX6_cheap_38 : decode cX6_cheap 38 = .ok (.getfield 10, 3) := by decide +kernel
theorem dX6_cheap_41 : decode cX6_cheap 41 = .ok (.invokevirtual 96, 3) := by decide +kernel
theorem dX6_cheap_44 : decode cX6_cheap 44 = .ok (.aload_n 0, 1) := by decide +kernel
theorem dX6_cheap_45 : decode cX6_cheap 45 = .ok (.getfield 16, 3) := by decide +kernel
theorem dX6_cheap_48 : decode cX6_cheap 48 = .ok (.getfield 113, 3) := by decide +kernel
theorem dX6_cheap_51 : decode cX6_cheap 51 = .ok (.iload_n 1, 1) := by decide +kernel
theorem dX6_cheap_52 : decode cX6_cheap 52 = .ok (.iload_n 2, 1) := by decide +kernel
theorem dX6_cheap_53 : decode cX6_cheap 53 = .ok (.iastore, 1) := by decide +kernel
theorem dX6_cheap_54 : decode cX6_cheap 54 = .ok (.aload_n 0, 1) := by decide +kernel
theorem dX6_cheap_55 : decode cX6_cheap 55 = .ok (.getfield 62, 3) := by decide +kernel
theorem dX6_cheap_58 : decode cX6_cheap 58 = .ok (.aload_n 0, 1) := by decide +kernel
theorem dX6_cheap_59 : decode cX6_cheap 59 = .ok (.getfield 16, 3) := by decide +kernel
theorem dX6_cheap_62 : decode cX6_cheap 62 = .ok (.aload_n 0, 1) := by decide +kernel
theorem dX6_cheap_63 : decode cX6_cheap 63 = .ok (.getfield 33, 3) := by decide +kernel
theorem dX6_cheap_66 : decode cX6_cheap 66 = .ok (.iload_n 3, 1) := by decide +kernel
theorem dX6_cheap_67 : decode cX6_cheap 67 = .ok (.iconst 0, 1) := by decide +kernel
theorem dX6_cheap_68 : decode cX6_cheap 68 = .ok (.invokevirtual 242, 3) := by decide +kernel
theorem dX6_cheap_71 : decode cX6_cheap 71 = .ok (.aload_n 0, 1) := by decide +kernel
theorem dX6_cheap_72 : decode cX6_cheap 72 = .ok (.getfield 62, 3) := by decide +kernel
theorem dX6_cheap_75 : decode cX6_cheap 75 = .ok (.getfield 246, 3) := by decide +kernel
theorem dX6_cheap_78 : decode cX6_cheap 78 = .ok (.ifCond .ne 8, 3) := by decide +kernel
theorem dX6_cheap_81 : decode cX6_cheap 81 = .ok (.bipush (-4), 2) := by decide +kernel
theorem dX6_cheap_83 : decode cX6_cheap 83 = .ok (.goto 10, 3) := by decide +kernel
theorem dX6_cheap_86 : decode cX6_cheap 86 = .ok (.aload_n 0, 1) := by decide +kernel
theorem dX6_cheap_87 : decode cX6_cheap 87 = .ok (.getfield 62, 3) := by decide +kernel
theorem dX6_cheap_90 : decode cX6_cheap 90 = .ok (.getfield 252, 3) := by decide +kernel
theorem dX6_cheap_93 : decode cX6_cheap 93 = .ok (.ireturn, 1) := by decide +kernel
theorem dX6_cold_0 : decode cX6_cold 0 = .ok (.aload_n 0, 1) := by decide +kernel
theorem dX6_cold_1 : decode cX6_cold 1 = .ok (.getfield 10, 3) := by decide +kernel
theorem dX6_cold_4 : decode cX6_cold 4 = .ok (.iload_n 1, 1) := by decide +kernel
theorem dX6_cold_5 : decode cX6_cold 5 = .ok (.invokevirtual 103, 3) := by decide +kernel
theorem dX6_cold_8 : decode cX6_cold 8 = .ok (.ifCond .eq 13, 3) := by decide +kernel
theorem dX6_cold_11 : decode cX6_cold 11 = .ok (.iload_n 2, 1) := by decide +kernel
theorem dX6_cold_12 : decode cX6_cold 12 = .ok (.iconst 1, 1) := by decide +kernel
theorem dX6_cold_13 : decode cX6_cold 13 = .ok (.if_icmp .lt 8, 3) := by decide +kernel
theorem dX6_cold_16 : decode cX6_cold 16 = .ok (.iload_n 2, 1) := by decide +kernel
theorem dX6_cold_17 : decode cX6_cold 17 = .ok (.iconst 5, 1) := by decide +kernel
theorem dX6_cold_18 : decode cX6_cold 18 = .ok (.if_icmp .le 5, 3) := by decide +kernel
theorem dX6_cold_21 : decode cX6_cold 21 = .ok (.iconst (-1), 1) := by decide +kernel
theorem dX6_cold_22 : decode cX6_cold 22 = .ok (.ireturn, 1) := by decide +kernel
theorem dX6_cold_23 : decode cX6_cold 23 = .ok (.aload_n 0, 1) := by decide +kernel
theorem dX6_cold_24 : decode cX6_cold 24 = .ok (.getfield 16, 3) := by decide +kernel
theorem dX6_cold_27 : decode cX6_cold 27 = .ok (.aload_n 0, 1) := by decide +kernel
theorem dX6_cold_28 : decode cX6_cold 28 = .ok (.getfield 10, 3) := by decide +kernel
theorem dX6_cold_31 : decode cX6_cold 31 = .ok (.invokevirtual 96, 3) := by decide +kernel
theorem dX6_cold_34 : decode cX6_cold 34 = .ok (.aload_n 0, 1) := by decide +kernel
theorem dX6_cold_35 : decode cX6_cold 35 = .ok (.getfield 16, 3) := by decide +kernel
theorem dX6_cold_38 : decode cX6_cold 38 = .ok (.getfield 107, 3) := by decide +kernel
theorem dX6_cold_41 : decode cX6_cold 41 = .ok (.iload_n 1, 1) := by decide +kernel
theorem dX6_cold_42 : decode cX6_cold 42 = .ok (.iconst 4, 1) := by decide +kernel
theorem dX6_cold_43 : decode cX6_cold 43 = .ok (.aload_n 0, 1) := by decide +kernel
theorem dX6_cold_44 : decode cX6_cold 44 = .ok (.getfield 10, 3) := by decide +kernel
theorem dX6_cold_47 : decode cX6_cold 47 = .ok (.getfield 107, 3) := by decide +kernel
theorem dX6_cold_50 : decode cX6_cold 50 = .ok (.iload_n 1, 1) := by decide +kernel
theorem dX6_cold_51 : decode cX6_cold 51 = .ok (.iaload, 1) := by decide +kernel
theorem dX6_cold_52 : decode cX6_cold 52 = .ok (.iconst 1, 1) := by decide +kernel
theorem dX6_cold_53 : decode cX6_cold 53 = .ok (.iadd, 1) := by decide +kernel
theorem dX6_cold_54 : decode cX6_cold 54 = .ok (.invokestatic 295, 3) := by decide +kernel
theorem dX6_cold_57 : decode cX6_cold 57 = .ok (.iastore, 1) := by decide +kernel
theorem dX6_cold_58 : decode cX6_cold 58 = .ok (.aload_n 0, 1) := by decide +kernel
theorem dX6_cold_59 : decode cX6_cold 59 = .ok (.getfield 62, 3) := by decide +kernel
theorem dX6_cold_62 : decode cX6_cold 62 = .ok (.aload_n 0, 1) := by decide +kernel
theorem dX6_cold_63 : decode cX6_cold 63 = .ok (.getfield 16, 3) := by decide +kernel
theorem dX6_cold_66 : decode cX6_cold 66 = .ok (.aload_n 0, 1) := by decide +kernel
theorem dX6_cold_67 : decode cX6_cold 67 = .ok (.getfield 33, 3) := by decide +kernel
theorem dX6_cold_70 : decode cX6_cold 70 = .ok (.iload_n 2, 1) := by decide +kernel
theorem dX6_cold_71 : decode cX6_cold 71 = .ok (.iconst 0, 1) := by decide +kernel
theorem dX6_cold_72 : decode cX6_cold 72 = .ok (.invokevirtual 242, 3) := by decide +kernel
theorem dX6_cold_75 : decode cX6_cold 75 = .ok (.aload_n 0, 1) := by decide +kernel
theorem dX6_cold_76 : decode cX6_cold 76 = .ok (.getfield 62, 3) := by decide +kernel
theorem dX6_cold_79 : decode cX6_cold 79 = .ok (.getfield 246, 3) := by decide +kernel
theorem dX6_cold_82 : decode cX6_cold 82 = .ok (.ifCond .ne 8, 3) := by decide +kernel
theorem dX6_cold_85 : decode cX6_cold 85 = .ok (.bipush (-4), 2) := by decide +kernel
theorem dX6_cold_87 : decode cX6_cold 87 = .ok (.goto 10, 3) := by decide +kernel
theorem dX6_cold_90 : decode cX6_cold 90 = .ok (.aload_n 0, 1) := by decide +kernel
theorem dX6_cold_91 : decode cX6_cold 91 = .ok (.getfield 62, 3) := by decide +kernel
theorem dX6_cold_94 : decode cX6_cold 94 = .ok (.getfield 249, 3) := by decide +kernel
theorem dX6_cold_97 : decode cX6_cold 97 = .ok (.ireturn, 1) := by decide +kernel
theorem dX6_sheet_0 : decode cX6_sheet 0 = .ok (.iload_n 1, 1) := by decide +kernel
theorem dX6_sheet_1 : decode cX6_sheet 1 = .ok (.ifCond .lt 23, 3) := by decide +kernel
theorem dX6_sheet_4 : decode cX6_sheet 4 = .ok (.iload_n 1, 1) := by decide +kernel
theorem dX6_sheet_5 : decode cX6_sheet 5 = .ok (.iconst 4, 1) := by decide +kernel
theorem dX6_sheet_6 : decode cX6_sheet 6 = .ok (.if_icmp .ge 18, 3) := by decide +kernel
theorem dX6_sheet_9 : decode cX6_sheet 9 = .ok (.iload_n 2, 1) := by decide +kernel
theorem dX6_sheet_10 : decode cX6_sheet 10 = .ok (.ifCond .lt 14, 3) := by decide +kernel
theorem dX6_sheet_13 : decode cX6_sheet 13 = .ok (.iload_n 2, 1) := by decide +kernel
theorem dX6_sheet_14 : decode cX6_sheet 14 = .ok (.iconst 3, 1) := by decide +kernel
theorem dX6_sheet_15 : decode cX6_sheet 15 = .ok (.if_icmp .ge 9, 3) := by decide +kernel
theorem dX6_sheet_18 : decode cX6_sheet 18 = .ok (.iload_n 3, 1) := by decide +kernel
theorem dX6_sheet_19 : decode cX6_sheet 19 = .ok (.bipush 40, 2) := by decide +kernel
theorem dX6_sheet_21 : decode cX6_sheet 21 = .ok (.if_icmp .le 5, 3) := by decide +kernel
theorem dX6_sheet_24 : decode cX6_sheet 24 = .ok (.iconst (-1), 1) := by decide +kernel
theorem dX6_sheet_25 : decode cX6_sheet 25 = .ok (.ireturn, 1) := by decide +kernel
theorem dX6_sheet_26 : decode cX6_sheet 26 = .ok (.iload_n 3, 1) := by decide +kernel
theorem dX6_sheet_27 : decode cX6_sheet 27 = .ok (.ifCond .ge 6, 3) := by decide +kernel
theorem dX6_sheet_30 : decode cX6_sheet 30 = .ok (.bipush (-14), 2) := by decide +kernel
theorem dX6_sheet_32 : decode cX6_sheet 32 = .ok (.ireturn, 1) := by decide +kernel
theorem dX6_sheet_33 : decode cX6_sheet 33 = .ok (.aload_n 0, 1) := by decide +kernel
theorem dX6_sheet_34 : decode cX6_sheet 34 = .ok (.getfield 69, 3) := by decide +kernel
theorem dX6_sheet_37 : decode cX6_sheet 37 = .ok (.iload_n 1, 1) := by decide +kernel
theorem dX6_sheet_38 : decode cX6_sheet 38 = .ok (.iload_n 2, 1) := by decide +kernel
theorem dX6_sheet_39 : decode cX6_sheet 39 = .ok (.iload_n 3, 1) := by decide +kernel
theorem dX6_sheet_40 : decode cX6_sheet 40 = .ok (.invokevirtual 301, 3) := by decide +kernel
theorem dX6_sheet_43 : decode cX6_sheet 43 = .ok (.iconst 1, 1) := by decide +kernel
theorem dX6_sheet_44 : decode cX6_sheet 44 = .ok (.ireturn, 1) := by decide +kernel
theorem dX6_lay_0 : decode cX6_lay 0 = .ok (.iload_n 1, 1) := by decide +kernel
theorem dX6_lay_1 : decode cX6_lay 1 = .ok (.ifCond .lt 8, 3) := by decide +kernel
theorem dX6_lay_4 : decode cX6_lay 4 = .ok (.iload_n 1, 1) := by decide +kernel
theorem dX6_lay_5 : decode cX6_lay 5 = .ok (.iconst 4, 1) := by decide +kernel
theorem dX6_lay_6 : decode cX6_lay 6 = .ok (.if_icmp .lt 5, 3) := by decide +kernel
theorem dX6_lay_9 : decode cX6_lay 9 = .ok (.iconst (-1), 1) := by decide +kernel
theorem dX6_lay_10 : decode cX6_lay 10 = .ok (.ireturn, 1) := by decide +kernel
theorem dX6_lay_11 : decode cX6_lay 11 = .ok (.aload_n 0, 1) := by decide +kernel
theorem dX6_lay_12 : decode cX6_lay 12 = .ok (.getfield 69, 3) := by decide +kernel
theorem dX6_lay_15 : decode cX6_lay 15 = .ok (.iload_n 1, 1) := by decide +kernel
theorem dX6_lay_16 : decode cX6_lay 16 = .ok (.invokevirtual 305, 3) := by decide +kernel
theorem dX6_lay_19 : decode cX6_lay 19 = .ok (.ifCond .eq 6, 3) := by decide +kernel
theorem dX6_lay_22 : decode cX6_lay 22 = .ok (.bipush (-11), 2) := by decide +kernel
theorem dX6_lay_24 : decode cX6_lay 24 = .ok (.ireturn, 1) := by decide +kernel
theorem dX6_lay_25 : decode cX6_lay 25 = .ok (.iload_n 2, 1) := by decide +kernel
theorem dX6_lay_26 : decode cX6_lay 26 = .ok (.ifCond .lt 16, 3) := by decide +kernel
theorem dX6_lay_29 : decode cX6_lay 29 = .ok (.iload_n 2, 1) := by decide +kernel
theorem dX6_lay_30 : decode cX6_lay 30 = .ok (.aload_n 0, 1) := by decide +kernel
theorem dX6_lay_31 : decode cX6_lay 31 = .ok (.getfield 69, 3) := by decide +kernel
theorem dX6_lay_34 : decode cX6_lay 34 = .ok (.getfield 308, 3) := by decide +kernel
theorem dX6_lay_37 : decode cX6_lay 37 = .ok (.iload_n 1, 1) := by decide +kernel
theorem dX6_lay_38 : decode cX6_lay 38 = .ok (.iaload, 1) := by decide +kernel
theorem dX6_lay_39 : decode cX6_lay 39 = .ok (.if_icmp .lt 6, 3) := by decide +kernel
theorem dX6_lay_42 : decode cX6_lay 42 = .ok (.bipush (-12), 2) := by decide +kernel
theorem dX6_lay_44 : decode cX6_lay 44 = .ok (.ireturn, 1) := by decide +kernel
theorem dX6_lay_45 : decode cX6_lay 45 = .ok (.aload_n 0, 1) := by decide +kernel
theorem dX6_lay_46 : decode cX6_lay 46 = .ok (.getfield 69, 3) := by decide +kernel
theorem dX6_lay_49 : decode cX6_lay 49 = .ok (.iload_n 1, 1) := by decide +kernel
theorem dX6_lay_50 : decode cX6_lay 50 = .ok (.iload_n 2, 1) := by decide +kernel
theorem dX6_lay_51 : decode cX6_lay 51 = .ok (.iload_n 3, 1) := by decide +kernel
theorem dX6_lay_52 : decode cX6_lay 52 = .ok (.invokevirtual 311, 3) := by decide +kernel
theorem dX6_lay_55 : decode cX6_lay 55 = .ok (.iconst 1, 1) := by decide +kernel
theorem dX6_lay_56 : decode cX6_lay 56 = .ok (.ireturn, 1) := by decide +kernel
theorem dX6_read_0 : decode cX6_read 0 = .ok (.iload_n 1, 1) := by decide +kernel
theorem dX6_read_1 : decode cX6_read 1 = .ok (.ifCond .lt 29, 3) := by decide +kernel
theorem dX6_read_4 : decode cX6_read 4 = .ok (.iload_n 1, 1) := by decide +kernel
theorem dX6_read_5 : decode cX6_read 5 = .ok (.iconst 4, 1) := by decide +kernel
theorem dX6_read_6 : decode cX6_read 6 = .ok (.if_icmp .ge 24, 3) := by decide +kernel
theorem dX6_read_9 : decode cX6_read 9 = .ok (.iload_n 2, 1) := by decide +kernel
theorem dX6_read_10 : decode cX6_read 10 = .ok (.ifCond .lt 20, 3) := by decide +kernel
theorem dX6_read_13 : decode cX6_read 13 = .ok (.iload_n 2, 1) := by decide +kernel
theorem dX6_read_14 : decode cX6_read 14 = .ok (.iconst 3, 1) := by decide +kernel
theorem dX6_read_15 : decode cX6_read 15 = .ok (.if_icmp .ge 15, 3) := by decide +kernel
theorem dX6_read_18 : decode cX6_read 18 = .ok (.iload 4, 2) := by decide +kernel
theorem dX6_read_20 : decode cX6_read 20 = .ok (.ifCond .lt 10, 3) := by decide +kernel
theorem dX6_read_23 : decode cX6_read 23 = .ok (.iload 4, 2) := by decide +kernel
theorem dX6_read_25 : decode cX6_read 25 = .ok (.bipush 12, 2) := by decide +kernel
theorem dX6_read_27 : decode cX6_read 27 = .ok (.if_icmp .le 5, 3) := by decide +kernel
theorem dX6_read_30 : decode cX6_read 30 = .ok (.iconst (-1), 1) := by decide +kernel
theorem dX6_read_31 : decode cX6_read 31 = .ok (.ireturn, 1) := by decide +kernel
theorem dX6_read_32 : decode cX6_read 32 = .ok (.iload 4, 2) := by decide +kernel
theorem dX6_read_34 : decode cX6_read 34 = .ok (.ifCond .ne 7, 3) := by decide +kernel
theorem dX6_read_37 : decode cX6_read 37 = .ok (.iconst 0, 1) := by decide +kernel
theorem dX6_read_38 : decode cX6_read 38 = .ok (.goto 12, 3) := by decide +kernel
theorem dX6_read_41 : decode cX6_read 41 = .ok (.aload_n 0, 1) := by decide +kernel
theorem dX6_read_42 : decode cX6_read 42 = .ok (.getfield 69, 3) := by decide +kernel
theorem dX6_read_45 : decode cX6_read 45 = .ok (.iload_n 1, 1) := by decide +kernel
theorem dX6_read_46 : decode cX6_read 46 = .ok (.iload_n 2, 1) := by decide +kernel
theorem dX6_read_47 : decode cX6_read 47 = .ok (.invokevirtual 314, 3) := by decide +kernel
theorem dX6_read_50 : decode cX6_read 50 = .ok (.istore 5, 2) := by decide +kernel
theorem dX6_read_52 : decode cX6_read 52 = .ok (.iconst 0, 1) := by decide +kernel
theorem dX6_read_53 : decode cX6_read 53 = .ok (.istore 6, 2) := by decide +kernel
theorem dX6_read_55 : decode cX6_read 55 = .ok (.iconst 0, 1) := by decide +kernel
theorem dX6_read_56 : decode cX6_read 56 = .ok (.istore 7, 2) := by decide +kernel
theorem dX6_read_58 : decode cX6_read 58 = .ok (.iload 7, 2) := by decide +kernel
theorem dX6_read_60 : decode cX6_read 60 = .ok (.iload 4, 2) := by decide +kernel
theorem dX6_read_62 : decode cX6_read 62 = .ok (.if_icmp .ge 64, 3) := by decide +kernel
theorem dX6_read_65 : decode cX6_read 65 = .ok (.iload 5, 2) := by decide +kernel
theorem dX6_read_67 : decode cX6_read 67 = .ok (.ifCond .ne 59, 3) := by decide +kernel
theorem dX6_read_70 : decode cX6_read 70 = .ok (.aload_n 0, 1) := by decide +kernel
theorem dX6_read_71 : decode cX6_read 71 = .ok (.getfield 69, 3) := by decide +kernel
theorem dX6_read_74 : decode cX6_read 74 = .ok (.iload_n 1, 1) := by decide +kernel
theorem dX6_read_75 : decode cX6_read 75 = .ok (.iload_n 3, 1) := by decide +kernel
theorem dX6_read_76 : decode cX6_read 76 = .ok (.i2l, 1) := by decide +kernel
theorem dX6_read_77 : decode cX6_read 77 = .ok (.ldc2_w 317, 3) := by decide +kernel
theorem dX6_read_80 : decode cX6_read 80 = .ok (.iload 7, 2) := by decide +kernel
theorem dX6_read_82 : decode cX6_read 82 = .ok (.i2l, 1) := by decide +kernel
theorem dX6_read_83 : decode cX6_read 83 = .ok (.lmul, 1) := by decide +kernel
theorem dX6_read_84 : decode cX6_read 84 = .ok (.ladd, 1) := by decide +kernel
theorem dX6_read_85 : decode cX6_read 85 = .ok (.invokevirtual 319, 3) := by decide +kernel
theorem dX6_read_88 : decode cX6_read 88 = .ok (.ifCond .ne 9, 3) := by decide +kernel
theorem dX6_read_91 : decode cX6_read 91 = .ok (.iconst 2, 1) := by decide +kernel
theorem dX6_read_92 : decode cX6_read 92 = .ok (.istore 5, 2) := by decide +kernel
theorem dX6_read_94 : decode cX6_read 94 = .ok (.goto 26, 3) := by decide +kernel
theorem dX6_read_97 : decode cX6_read 97 = .ok (.aload_n 0, 1) := by decide +kernel
theorem dX6_read_98 : decode cX6_read 98 = .ok (.iload_n 1, 1) := by decide +kernel
theorem dX6_read_99 : decode cX6_read 99 = .ok (.iload_n 3, 1) := by decide +kernel
theorem dX6_read_100 : decode cX6_read 100 = .ok (.iconst 3, 1) := by decide +kernel
theorem dX6_read_101 : decode cX6_read 101 = .ok (.iload 7, 2) := by decide +kernel
theorem dX6_read_103 : decode cX6_read 103 = .ok (.imul, 1) := by decide +kernel
theorem dX6_read_104 : decode cX6_read 104 = .ok (.iadd, 1) := by decide +kernel
theorem dX6_read_105 : decode cX6_read 105 = .ok (.invokevirtual 323, 3) := by decide +kernel
theorem dX6_read_108 : decode cX6_read 108 = .ok (.ifCond .ne 9, 3) := by decide +kernel
theorem dX6_read_111 : decode cX6_read 111 = .ok (.bipush (-20), 2) := by decide +kernel
theorem dX6_read_113 : decode cX6_read 113 = .ok (.iload 7, 2) := by decide +kernel
theorem dX6_read_115 : decode cX6_read 115 = .ok (.isub, 1) := by decide +kernel
theorem dX6_read_116 : decode cX6_read 116 = .ok (.ireturn, 1) := by decide +kernel
theorem dX6_read_117 : decode cX6_read 117 = .ok (.iinc 6 1, 3) := by decide +kernel
theorem dX6_read_120 : decode cX6_read 120 = .ok (.iinc 7 1, 3) := by decide +kernel
theorem dX6_read_123 : decode cX6_read 123 = .ok (.goto (-65), 3) := by decide +kernel
theorem dX6_read_126 : decode cX6_read 126 = .ok (.iconst 0, 1) := by decide +kernel
theorem dX6_read_127 : decode cX6_read 127 = .ok (.istore 7, 2) := by decide +kernel
theorem dX6_read_129 : decode cX6_read 129 = .ok (.iload 7, 2) := by decide +kernel
theorem dX6_read_131 : decode cX6_read 131 = .ok (.iload 6, 2) := by decide +kernel
theorem dX6_read_133 : decode cX6_read 133 = .ok (.if_icmp .ge 20, 3) := by decide +kernel
theorem dX6_read_136 : decode cX6_read 136 = .ok (.aload_n 0, 1) := by decide +kernel
theorem dX6_read_137 : decode cX6_read 137 = .ok (.iload_n 1, 1) := by decide +kernel
theorem dX6_read_138 : decode cX6_read 138 = .ok (.iload_n 3, 1) := by decide +kernel
theorem dX6_read_139 : decode cX6_read 139 = .ok (.iconst 3, 1) := by decide +kernel
theorem dX6_read_140 : decode cX6_read 140 = .ok (.iload 7, 2) := by decide +kernel
theorem dX6_read_142 : decode cX6_read 142 = .ok (.imul, 1) := by decide +kernel
theorem dX6_read_143 : decode cX6_read 143 = .ok (.iadd, 1) := by decide +kernel
theorem dX6_read_144 : decode cX6_read 144 = .ok (.invokevirtual 326, 3) := by decide +kernel
theorem dX6_read_147 : decode cX6_read 147 = .ok (.iinc 7 1, 3) := by decide +kernel
theorem dX6_read_150 : decode cX6_read 150 = .ok (.goto (-21), 3) := by decide +kernel
theorem dX6_read_153 : decode cX6_read 153 = .ok (.aload_n 0, 1) := by decide +kernel
theorem dX6_read_154 : decode cX6_read 154 = .ok (.iload 5, 2) := by decide +kernel
theorem dX6_read_156 : decode cX6_read 156 = .ok (.putfield 73, 3) := by decide +kernel
theorem dX6_read_159 : decode cX6_read 159 = .ok (.iload 6, 2) := by decide +kernel
theorem dX6_read_161 : decode cX6_read 161 = .ok (.ireturn, 1) := by decide +kernel
theorem dX6_canPutLot_0 : decode cX6_canPutLot 0 = .ok (.aload_n 0, 1) := by decide +kernel
theorem dX6_canPutLot_1 : decode cX6_canPutLot 1 = .ok (.aload_n 0, 1) := by decide +kernel
theorem dX6_canPutLot_2 : decode cX6_canPutLot 2 = .ok (.getfield 69, 3) := by decide +kernel
theorem dX6_canPutLot_5 : decode cX6_canPutLot 5 = .ok (.iload_n 1, 1) := by decide +kernel
theorem dX6_canPutLot_6 : decode cX6_canPutLot 6 = .ok (.iload_n 2, 1) := by decide +kernel
theorem dX6_canPutLot_7 : decode cX6_canPutLot 7 = .ok (.invokevirtual 330, 3) := by decide +kernel
theorem dX6_canPutLot_10 : decode cX6_canPutLot 10 = .ok (.aload_n 0, 1) := by decide +kernel
theorem dX6_canPutLot_11 : decode cX6_canPutLot 11 = .ok (.getfield 69, 3) := by decide +kernel
theorem dX6_canPutLot_14 : decode cX6_canPutLot 14 = .ok (.iload_n 1, 1) := by decide +kernel
theorem dX6_canPutLot_15 : decode cX6_canPutLot 15 = .ok (.iload_n 2, 1) := by decide +kernel
theorem dX6_canPutLot_16 : decode cX6_canPutLot 16 = .ok (.iconst 1, 1) := by decide +kernel
theorem dX6_canPutLot_17 : decode cX6_canPutLot 17 = .ok (.iadd, 1) := by decide +kernel
theorem dX6_canPutLot_18 : decode cX6_canPutLot 18 = .ok (.invokevirtual 330, 3) := by decide +kernel
theorem dX6_canPutLot_21 : decode cX6_canPutLot 21 = .ok (.aload_n 0, 1) := by decide +kernel
theorem dX6_canPutLot_22 : decode cX6_canPutLot 22 = .ok (.getfield 69, 3) := by decide +kernel
theorem dX6_canPutLot_25 : decode cX6_canPutLot 25 = .ok (.iload_n 1, 1) := by decide +kernel
theorem dX6_canPutLot_26 : decode cX6_canPutLot 26 = .ok (.iload_n 2, 1) := by decide +kernel
theorem dX6_canPutLot_27 : decode cX6_canPutLot 27 = .ok (.iconst 2, 1) := by decide +kernel
theorem dX6_canPutLot_28 : decode cX6_canPutLot 28 = .ok (.iadd, 1) := by decide +kernel
theorem dX6_canPutLot_29 : decode cX6_canPutLot 29 = .ok (.invokevirtual 330, 3) := by decide +kernel
theorem dX6_canPutLot_32 : decode cX6_canPutLot 32 = .ok (.invokevirtual 153, 3) := by decide +kernel
theorem dX6_canPutLot_35 : decode cX6_canPutLot 35 = .ok (.ireturn, 1) := by decide +kernel
theorem dX6_putLot_0 : decode cX6_putLot 0 = .ok (.aload_n 0, 1) := by decide +kernel
theorem dX6_putLot_1 : decode cX6_putLot 1 = .ok (.getfield 33, 3) := by decide +kernel
theorem dX6_putLot_4 : decode cX6_putLot 4 = .ok (.getfield 157, 3) := by decide +kernel
theorem dX6_putLot_7 : decode cX6_putLot 7 = .ok (.aload_n 0, 1) := by decide +kernel
theorem dX6_putLot_8 : decode cX6_putLot 8 = .ok (.getfield 69, 3) := by decide +kernel
theorem dX6_putLot_11 : decode cX6_putLot 11 = .ok (.iload_n 1, 1) := by decide +kernel
theorem dX6_putLot_12 : decode cX6_putLot 12 = .ok (.iload_n 2, 1) := by decide +kernel
theorem dX6_putLot_13 : decode cX6_putLot 13 = .ok (.invokevirtual 330, 3) := by decide +kernel
theorem dX6_putLot_16 : decode cX6_putLot 16 = .ok (.iconst 4, 1) := by decide +kernel
theorem dX6_putLot_17 : decode cX6_putLot 17 = .ok (.imul, 1) := by decide +kernel
theorem dX6_putLot_18 : decode cX6_putLot 18 = .ok (.aload_n 0, 1) := by decide +kernel
theorem dX6_putLot_19 : decode cX6_putLot 19 = .ok (.getfield 69, 3) := by decide +kernel
theorem dX6_putLot_22 : decode cX6_putLot 22 = .ok (.iload_n 1, 1) := by decide +kernel
theorem dX6_putLot_23 : decode cX6_putLot 23 = .ok (.iload_n 2, 1) := by decide +kernel
theorem dX6_putLot_24 : decode cX6_putLot 24 = .ok (.iconst 1, 1) := by decide +kernel
theorem dX6_putLot_25 : decode cX6_putLot 25 = .ok (.iadd, 1) := by decide +kernel
theorem dX6_putLot_26 : decode cX6_putLot 26 = .ok (.invokevirtual 330, 3) := by decide +kernel
theorem dX6_putLot_29 : decode cX6_putLot 29 = .ok (.iadd, 1) := by decide +kernel
theorem dX6_putLot_30 : decode cX6_putLot 30 = .ok (.aload_n 0, 1) := by decide +kernel
theorem dX6_putLot_31 : decode cX6_putLot 31 = .ok (.getfield 69, 3) := by decide +kernel
theorem dX6_putLot_34 : decode cX6_putLot 34 = .ok (.iload_n 1, 1) := by decide +kernel
theorem dX6_putLot_35 : decode cX6_putLot 35 = .ok (.iload_n 2, 1) := by decide +kernel
theorem dX6_putLot_36 : decode cX6_putLot 36 = .ok (.iconst 2, 1) := by decide +kernel
theorem dX6_putLot_37 : decode cX6_putLot 37 = .ok (.iadd, 1) := by decide +kernel
theorem dX6_putLot_38 : decode cX6_putLot 38 = .ok (.invokevirtual 330, 3) := by decide +kernel
theorem dX6_putLot_41 : decode cX6_putLot 41 = .ok (.iastore, 1) := by decide +kernel
theorem dX6_putLot_42 : decode cX6_putLot 42 = .ok (.return_, 1) := by decide +kernel
theorem dX6_torn_0 : decode cX6_torn 0 = .ok (.aload_n 0, 1) := by decide +kernel
theorem dX6_torn_1 : decode cX6_torn 1 = .ok (.getfield 73, 3) := by decide +kernel
theorem dX6_torn_4 : decode cX6_torn 4 = .ok (.ireturn, 1) := by decide +kernel
theorem dX6_count_0 : decode cX6_count 0 = .ok (.iload_n 1, 1) := by decide +kernel
theorem dX6_count_1 : decode cX6_count 1 = .ok (.tableswitch 124 0 5 #[39, 47, 55, 60, 90, 98], 39) := by decide +kernel
theorem dX6_count_40 : decode cX6_count 40 = .ok (.aload_n 0, 1) := by decide +kernel
theorem dX6_count_41 : decode cX6_count 41 = .ok (.getfield 10, 3) := by decide +kernel
theorem dX6_count_44 : decode cX6_count 44 = .ok (.getfield 292, 3) := by decide +kernel
theorem dX6_count_47 : decode cX6_count 47 = .ok (.ireturn, 1) := by decide +kernel
theorem dX6_count_48 : decode cX6_count 48 = .ok (.aload_n 0, 1) := by decide +kernel
theorem dX6_count_49 : decode cX6_count 49 = .ok (.getfield 10, 3) := by decide +kernel
theorem dX6_count_52 : decode cX6_count 52 = .ok (.getfield 282, 3) := by decide +kernel
theorem dX6_count_55 : decode cX6_count 55 = .ok (.ireturn, 1) := by decide +kernel
theorem dX6_count_56 : decode cX6_count 56 = .ok (.aload_n 0, 1) := by decide +kernel
theorem dX6_count_57 : decode cX6_count 57 = .ok (.getfield 49, 3) := by decide +kernel
theorem dX6_count_60 : decode cX6_count 60 = .ok (.ireturn, 1) := by decide +kernel
theorem dX6_count_61 : decode cX6_count 61 = .ok (.aload_n 0, 1) := by decide +kernel
theorem dX6_count_62 : decode cX6_count 62 = .ok (.getfield 41, 3) := by decide +kernel
theorem dX6_count_65 : decode cX6_count 65 = .ok (.iconst 0, 1) := by decide +kernel
theorem dX6_count_66 : decode cX6_count 66 = .ok (.baload, 1) := by decide +kernel
theorem dX6_count_67 : decode cX6_count 67 = .ok (.ifCond .eq 7, 3) := by decide +kernel
theorem dX6_count_70 : decode cX6_count 70 = .ok (.iconst 1, 1) := by decide +kernel
theorem dX6_count_71 : decode cX6_count 71 = .ok (.goto 4, 3) := by decide +kernel
theorem dX6_count_74 : decode cX6_count 74 = .ok (.iconst 0, 1) := by decide +kernel
theorem dX6_count_75 : decode cX6_count 75 = .ok (.aload_n 0, 1) := by decide +kernel
theorem dX6_count_76 : decode cX6_count 76 = .ok (.getfield 41, 3) := by decide +kernel
theorem dX6_count_79 : decode cX6_count 79 = .ok (.iconst 1, 1) := by decide +kernel
theorem dX6_count_80 : decode cX6_count 80 = .ok (.baload, 1) := by decide +kernel
theorem dX6_count_81 : decode cX6_count 81 = .ok (.ifCond .eq 7, 3) := by decide +kernel
theorem dX6_count_84 : decode cX6_count 84 = .ok (.iconst 1, 1) := by decide +kernel
theorem dX6_count_85 : decode cX6_count 85 = .ok (.goto 4, 3) := by decide +kernel
theorem dX6_count_88 : decode cX6_count 88 = .ok (.iconst 0, 1) := by decide +kernel
theorem dX6_count_89 : decode cX6_count 89 = .ok (.iadd, 1) := by decide +kernel
theorem dX6_count_90 : decode cX6_count 90 = .ok (.ireturn, 1) := by decide +kernel
theorem dX6_count_91 : decode cX6_count 91 = .ok (.aload_n 0, 1) := by decide +kernel
theorem dX6_count_92 : decode cX6_count 92 = .ok (.getfield 22, 3) := by decide +kernel
theorem dX6_count_95 : decode cX6_count 95 = .ok (.getfield 76, 3) := by decide +kernel
theorem dX6_count_98 : decode cX6_count 98 = .ok (.ireturn, 1) := by decide +kernel
theorem dX6_count_99 : decode cX6_count 99 = .ok (.aload_n 0, 1) := by decide +kernel
theorem dX6_count_100 : decode cX6_count 100 = .ok (.getfield 69, 3) := by decide +kernel
theorem dX6_count_103 : decode cX6_count 103 = .ok (.iconst 0, 1) := by decide +kernel
theorem dX6_count_104 : decode cX6_count 104 = .ok (.invokevirtual 305, 3) := by decide +kernel
theorem dX6_count_107 : decode cX6_count 107 = .ok (.ifCond .eq 8, 3) := by decide +kernel
theorem dX6_count_110 : decode cX6_count 110 = .ok (.bipush (-4), 2) := by decide +kernel
theorem dX6_count_112 : decode cX6_count 112 = .ok (.goto 12, 3) := by decide +kernel
theorem dX6_count_115 : decode cX6_count 115 = .ok (.aload_n 0, 1) := by decide +kernel
theorem dX6_count_116 : decode cX6_count 116 = .ok (.getfield 69, 3) := by decide +kernel
theorem dX6_count_119 : decode cX6_count 119 = .ok (.getfield 308, 3) := by decide +kernel
theorem dX6_count_122 : decode cX6_count 122 = .ok (.iconst 0, 1) := by decide +kernel
theorem dX6_count_123 : decode cX6_count 123 = .ok (.iaload, 1) := by decide +kernel
theorem dX6_count_124 : decode cX6_count 124 = .ok (.ireturn, 1) := by decide +kernel
theorem dX6_count_125 : decode cX6_count 125 = .ok (.iconst (-1), 1) := by decide +kernel
theorem dX6_count_126 : decode cX6_count 126 = .ok (.ireturn, 1) := by decide +kernel
theorem dX7_init_0 : decode cX7_init 0 = .ok (.aload_n 0, 1) := by decide +kernel
theorem dX7_init_1 : decode cX7_init 1 = .ok (.invokespecial 1, 3) := by decide +kernel
theorem dX7_init_4 : decode cX7_init 4 = .ok (.aload_n 0, 1) := by decide +kernel
theorem dX7_init_5 : decode cX7_init 5 = .ok (.bipush 18, 2) := by decide +kernel
theorem dX7_init_7 : decode cX7_init 7 = .ok (.newarray .int, 2) := by decide +kernel
theorem dX7_init_9 : decode cX7_init 9 = .ok (.putfield 7, 3) := by decide +kernel
theorem dX7_init_12 : decode cX7_init 12 = .ok (.aload_n 0, 1) := by decide +kernel
theorem dX7_init_13 : decode cX7_init 13 = .ok (.bipush 45, 2) := by decide +kernel
theorem dX7_init_15 : decode cX7_init 15 = .ok (.newarray .int, 2) := by decide +kernel
theorem dX7_init_17 : decode cX7_init 17 = .ok (.putfield 13, 3) := by decide +kernel
theorem dX7_init_20 : decode cX7_init 20 = .ok (.aload_n 0, 1) := by decide +kernel
theorem dX7_init_21 : decode cX7_init 21 = .ok (.bipush 54, 2) := by decide +kernel
theorem dX7_init_23 : decode cX7_init 23 = .ok (.newarray .int, 2) := by decide +kernel
theorem dX7_init_25 : decode cX7_init 25 = .ok (.putfield 16, 3) := by decide +kernel
theorem dX7_init_28 : decode cX7_init 28 = .ok (.aload_n 0, 1) := by decide +kernel
theorem dX7_init_29 : decode cX7_init 29 = .ok (.bipush 54, 2) := by decide +kernel
theorem dX7_init_31 : decode cX7_init 31 = .ok (.newarray .int, 2) := by decide +kernel
theorem dX7_init_33 : decode cX7_init 33 = .ok (.putfield 19, 3) := by decide +kernel
theorem dX7_init_36 : decode cX7_init 36 = .ok (.aload_n 0, 1) := by decide +kernel
theorem dX7_init_37 : decode cX7_init 37 = .ok (.bipush 7, 2) := by decide +kernel
theorem dX7_init_39 : decode cX7_init 39 = .ok (.newarray .int, 2) := by decide +kernel
theorem dX7_init_41 : decode cX7_init 41 = .ok (.putfield 22, 3) := by decide +kernel
theorem dX7_init_44 : decode cX7_init 44 = .ok (.aload_n 0, 1) := by decide +kernel
theorem dX7_init_45 : decode cX7_init 45 = .ok (.bipush 18, 2) := by decide +kernel
theorem dX7_init_47 : decode cX7_init 47 = .ok (.newarray .int, 2) := by decide +kernel
theorem dX7_init_49 : decode cX7_init 49 = .ok (.putfield 25, 3) := by decide +kernel
theorem dX7_init_52 : decode cX7_init 52 = .ok (.aload_n 0, 1) := by decide +kernel
theorem dX7_init_53 : decode cX7_init 53 = .ok (.bipush 45, 2) := by decide +kernel
theorem dX7_init_55 : decode cX7_init 55 = .ok (.newarray .int, 2) := by decide +kernel
theorem dX7_init_57 : decode cX7_init 57 = .ok (.putfield 28, 3) := by decide +kernel
theorem dX7_init_60 : decode cX7_init 60 = .ok (.aload_n 0, 1) := by decide +kernel
theorem dX7_init_61 : decode cX7_init 61 = .ok (.bipush 54, 2) := by decide +kernel
theorem dX7_init_63 : decode cX7_init 63 = .ok (.newarray .int, 2) := by decide +kernel
theorem dX7_init_65 : decode cX7_init 65 = .ok (.putfield 31, 3) := by decide +kernel
theorem dX7_init_68 : decode cX7_init 68 = .ok (.aload_n 0, 1) := by decide +kernel
theorem dX7_init_69 : decode cX7_init 69 = .ok (.bipush 54, 2) := by decide +kernel
theorem dX7_init_71 : decode cX7_init 71 = .ok (.newarray .int, 2) := by decide +kernel
theorem dX7_init_73 : decode cX7_init 73 = .ok (.putfield 34, 3) := by decide +kernel
theorem dX7_init_76 : decode cX7_init 76 = .ok (.aload_n 0, 1) := by decide +kernel
theorem dX7_init_77 : decode cX7_init 77 = .ok (.bipush 7, 2) := by decide +kernel
theorem dX7_init_79 : decode cX7_init 79 = .ok (.newarray .int, 2) := by decide +kernel
theorem dX7_init_81 : decode cX7_init 81 = .ok (.putfield 37, 3) := by decide +kernel
theorem dX7_init_84 : decode cX7_init 84 = .ok (.aload_n 0, 1) := by decide +kernel
theorem dX7_init_85 : decode cX7_init 85 = .ok (.sipush 400, 3) := by decide +kernel
theorem dX7_init_88 : decode cX7_init 88 = .ok (.newarray .int, 2) := by decide +kernel
theorem dX7_init_90 : decode cX7_init 90 = .ok (.putfield 40, 3) := by decide +kernel
theorem dX7_init_93 : decode cX7_init 93 = .ok (.aload_n 0, 1) := by decide +kernel
theorem dX7_init_94 : decode cX7_init 94 = .ok (.sipush 400, 3) := by decide +kernel
theorem dX7_init_97 : decode cX7_init 97 = .ok (.newarray .int, 2) := by decide +kernel
theorem dX7_init_99 : decode cX7_init 99 = .ok (.putfield 43, 3) := by decide +kernel
theorem dX7_init_102 : decode cX7_init 102 = .ok (.aload_n 0, 1) := by decide +kernel
theorem dX7_init_103 : decode cX7_init 103 = .ok (.sipush 400, 3) := by decide +kernel
theorem dX7_init_106 : decode cX7_init 106 = .ok (.newarray .int, 2) := by decide +kernel
theorem dX7_init_108 : decode cX7_init 108 = .ok (.putfield 46, 3) := by decide +kernel
theorem dX7_init_111 : decode cX7_init 111 = .ok (.aload_n 0, 1) := by decide +kernel
theorem dX7_init_112 : decode cX7_init 112 = .ok (.sipush 400, 3) := by decide +kernel
theorem dX7_init_115 : decode cX7_init 115 = .ok (.newarray .int, 2) := by decide +kernel
theorem dX7_init_117 : decode cX7_init 117 = .ok (.putfield 49, 3) := by decide +kernel
theorem dX7_init_120 : decode cX7_init 120 = .ok (.aload_n 0, 1) := by decide +kernel
theorem dX7_init_121 : decode cX7_init 121 = .ok (.iconst 2, 1) := by decide +kernel
theorem dX7_init_122 : decode cX7_init 122 = .ok (.newarray .boolean, 2) := by decide +kernel
theorem dX7_init_124 : decode cX7_init 124 = .ok (.putfield 52, 3) := by decide +kernel
theorem dX7_init_127 : decode cX7_init 127 = .ok (.aload_n 0, 1) := by decide +kernel
theorem dX7_init_128 : decode cX7_init 128 = .ok (.bipush 24, 2) := by decide +kernel
theorem dX7_init_130 : decode cX7_init 130 = .ok (.newarray .int, 2) := by decide +kernel
theorem dX7_init_132 : decode cX7_init 132 = .ok (.putfield 56, 3) := by decide +kernel
theorem dX7_init_135 : decode cX7_init 135 = .ok (.aload_n 0, 1) := by decide +kernel
theorem dX7_init_136 : decode cX7_init 136 = .ok (.bipush 6, 2) := by decide +kernel
theorem dX7_init_138 : decode cX7_init 138 = .ok (.newarray .int, 2) := by decide +kernel
theorem dX7_init_140 : decode cX7_init 140 = .ok (.putfield 59, 3) := by decide +kernel
theorem dX7_init_143 : decode cX7_init 143 = .ok (.aload_n 0, 1) := by decide +kernel
theorem dX7_init_144 : decode cX7_init 144 = .ok (.bipush 7, 2) := by decide +kernel
theorem dX7_init_146 : decode cX7_init 146 = .ok (.newarray .int, 2) := by decide +kernel
theorem dX7_init_148 : decode cX7_init 148 = .ok (.putfield 62, 3) := by decide +kernel
theorem dX7_init_151 : decode cX7_init 151 = .ok (.aload_n 0, 1) := by decide +kernel
theorem dX7_init_152 : decode cX7_init 152 = .ok (.bipush 7, 2) := by decide +kernel
theorem dX7_init_154 : decode cX7_init 154 = .ok (.newarray .int, 2) := by decide +kernel
theorem dX7_init_156 : decode cX7_init 156 = .ok (.putfield 65, 3) := by decide +kernel
theorem dX7_init_159 : decode cX7_init 159 = .ok (.aload_n 0, 1) := by decide +kernel
theorem dX7_init_160 : decode cX7_init 160 = .ok (.bipush 7, 2) := by decide +kernel
theorem dX7_init_162 : decode cX7_init 162 = .ok (.newarray .int, 2) := by decide +kernel
theorem dX7_init_164 : decode cX7_init 164 = .ok (.putfield 68, 3) := by decide +kernel
theorem dX7_init_167 : decode cX7_init 167 = .ok (.aload_n 0, 1) := by decide +kernel
theorem dX7_init_168 : decode cX7_init 168 = .ok (.bipush 7, 2) := by decide +kernel
theorem dX7_init_170 : decode cX7_init 170 = .ok (.newarray .int, 2) := by decide +kernel
theorem dX7_init_172 : decode cX7_init 172 = .ok (.putfield 71, 3) := by decide +kernel
theorem dX7_init_175 : decode cX7_init 175 = .ok (.aload_n 0, 1) := by decide +kernel
theorem dX7_init_176 : decode cX7_init 176 = .ok (.iconst 4, 1) := by decide +kernel
theorem dX7_init_177 : decode cX7_init 177 = .ok (.newarray .int, 2) := by decide +kernel
theorem dX7_init_179 : decode cX7_init 179 = .ok (.putfield 74, 3) := by decide +kernel
theorem dX7_init_182 : decode cX7_init 182 = .ok (.aload_n 0, 1) := by decide +kernel
theorem dX7_init_183 : decode cX7_init 183 = .ok (.iconst 4, 1) := by decide +kernel
theorem dX7_init_184 : decode cX7_init 184 = .ok (.newarray .int, 2) := by decide +kernel
theorem dX7_init_186 : decode cX7_init 186 = .ok (.putfield 77, 3) := by decide +kernel
theorem dX7_init_189 : decode cX7_init 189 = .ok (.aload_n 0, 1) := by decide +kernel
theorem dX7_init_190 : decode cX7_init 190 = .ok (.sipush 160, 3) := by decide +kernel
theorem dX7_init_193 : decode cX7_init 193 = .ok (.newarray .int, 2) := by decide +kernel
theorem dX7_init_195 : decode cX7_init 195 = .ok (.putfield 80, 3) := by decide +kernel
theorem dX7_init_198 : decode cX7_init 198 = .ok (.iconst 0, 1) := by decide +kernel
theorem dX7_init_199 : decode cX7_init 199 = .ok (.istore_n 1, 1) := by decide +kernel
theorem dX7_init_200 : decode cX7_init 200 = .ok (.iload_n 1, 1) := by decide +kernel
theorem dX7_init_201 : decode cX7_init 201 = .ok (.iconst 4, 1) := by decide +kernel
theorem dX7_init_202 : decode cX7_init 202 = .ok (.if_icmp .ge 17, 3) := by decide +kernel
theorem dX7_init_205 : decode cX7_init 205 = .ok (.aload_n 0, 1) := by decide +kernel
theorem dX7_init_206 : decode cX7_init 206 = .ok (.getfield 74, 3) := by decide +kernel
theorem dX7_init_209 : decode cX7_init 209 = .ok (.iload_n 1, 1) := by decide +kernel
theorem dX7_init_210 : decode cX7_init 210 = .ok (.bipush (-4), 2) := by decide +kernel
theorem dX7_init_212 : decode cX7_init 212 = .ok (.iastore, 1) := by decide +kernel
theorem dX7_init_213 : decode cX7_init 213 = .ok (.iinc 1 1, 3) := by decide +kernel
theorem dX7_init_216 : decode cX7_init 216 = .ok (.goto (-16), 3) := by decide +kernel
theorem dX7_init_219 : decode cX7_init 219 = .ok (.aload_n 0, 1) := by decide +kernel
theorem dX7_init_220 : decode cX7_init 220 = .ok (.invokevirtual 83, 3) := by decide +kernel
theorem dX7_init_223 : decode cX7_init 223 = .ok (.aload_n 0, 1) := by decide +kernel
theorem dX7_init_224 : decode cX7_init 224 = .ok (.invokevirtual 86, 3) := by decide +kernel
theorem dX7_init_227 : decode cX7_init 227 = .ok (.return_, 1) := by decide +kernel
theorem dX7_in_0 : decode cX7_in 0 = .ok (.lload_n 0, 1) := by decide +kernel
theorem dX7_in_1 : decode cX7_in 1 = .ok (.lload_n 2, 1) := by decide +kernel
theorem dX7_in_2 : decode cX7_in 2 = .ok (.lcmp, 1) := by decide +kernel
theorem dX7_in_3 : decode cX7_in 3 = .ok (.ifCond .lt 14, 3) := by decide +kernel
theorem dX7_in_6 : decode cX7_in 6 = .ok (.lload_n 0, 1) := by decide +kernel
theorem dX7_in_7 : decode cX7_in 7 = .ok (.lload 4, 2) := by decide +kernel
theorem dX7_in_9 : decode cX7_in 9 = .ok (.lcmp, 1) := by decide +kernel
theorem dX7_in_10 : decode cX7_in 10 = .ok (.ifCond .gt 7, 3) := by decide +kernel
theorem dX7_in_13 : decode cX7_in 13 = .ok (.iconst 1, 1) := by decide +kernel
theorem dX7_in_14 : decode cX7_in 14 = .ok (.goto 4, 3) := by decide +kernel
theorem dX7_in_17 : decode cX7_in 17 = .ok (.iconst 0, 1) := by decide +kernel
theorem dX7_in_18 : decode cX7_in 18 = .ok (.ireturn, 1) := by decide +kernel
theorem dX7_flag_0 : decode cX7_flag 0 = .ok (.iload_n 0, 1) := by decide +kernel
theorem dX7_flag_1 : decode cX7_flag 1 = .ok (.ifCond .eq 7, 3) := by decide +kernel
theorem dX7_flag_4 : decode cX7_flag 4 = .ok (.iconst 1, 1) := by decide +kernel
theorem dX7_flag_5 : decode cX7_flag 5 = .ok (.goto 4, 3) := by decide +kernel
theorem dX7_flag_8 : decode cX7_flag 8 = .ok (.iconst 0, 1) := by decide +kernel
theorem dX7_flag_9 : decode cX7_flag 9 = .ok (.ireturn, 1) := by decide +kernel
theorem dX7_firstDraft_0 : decode cX7_firstDraft 0 = .ok (.aload_n 0, 1) := by decide +kernel
theorem dX7_firstDraft_1 : decode cX7_firstDraft 1 = .ok (.iconst 0, 1) := by decide +kernel
theorem dX7_firstDraft_2 : decode cX7_firstDraft 2 = .ok (.putfield 89, 3) := by decide +kernel
theorem dX7_firstDraft_5 : decode cX7_firstDraft 5 = .ok (.aload_n 0, 1) := by decide +kernel
theorem dX7_firstDraft_6 : decode cX7_firstDraft 6 = .ok (.iconst 0, 1) := by decide +kernel
theorem dX7_firstDraft_7 : decode cX7_firstDraft 7 = .ok (.putfield 93, 3) := by decide +kernel
theorem dX7_firstDraft_10 : decode cX7_firstDraft 10 = .ok (.aload_n 0, 1) := by decide +kernel
theorem dX7_firstDraft_11 : decode cX7_firstDraft 11 = .ok (.iconst 0, 1) := by decide +kernel
theorem dX7_firstDraft_12 : decode cX7_firstDraft 12 = .ok (.putfield 96, 3) := by decide +kernel
theorem dX7_firstDraft_15 : decode cX7_firstDraft 15 = .ok (.aload_n 0, 1) := by decide +kernel
theorem dX7_firstDraft_16 : decode cX7_firstDraft 16 = .ok (.bipush 127, 2) := by decide +kernel
theorem dX7_firstDraft_18 : decode cX7_firstDraft 18 = .ok (.putfield 99, 3) := by decide +kernel
theorem dX7_firstDraft_21 : decode cX7_firstDraft 21 = .ok (.aload_n 0, 1) := by decide +kernel
theorem dX7_firstDraft_22 : decode cX7_firstDraft 22 = .ok (.iconst 0, 1) := by decide +kernel
theorem dX7_firstDraft_23 : decode cX7_firstDraft 23 = .ok (.putfield 102, 3) := by decide +kernel
theorem dX7_firstDraft_26 : decode cX7_firstDraft 26 = .ok (.aload_n 0, 1) := by decide +kernel
theorem dX7_firstDraft_27 : decode cX7_firstDraft 27 = .ok (.iconst 0, 1) := by decide +kernel
theorem dX7_firstDraft_28 : decode cX7_firstDraft 28 = .ok (.putfield 105, 3) := by decide +kernel
theorem dX7_firstDraft_31 : decode cX7_firstDraft 31 = .ok (.aload_n 0, 1) := by decide +kernel
theorem dX7_firstDraft_32 : decode cX7_firstDraft 32 = .ok (.iconst 0, 1) := by decide +kernel
theorem dX7_firstDraft_33 : decode cX7_firstDraft 33 = .ok (.putfield 109, 3) := by decide +kernel
theorem dX7_firstDraft_36 : decode cX7_firstDraft 36 = .ok (.aload_n 0, 1) := by decide +kernel
theorem dX7_firstDraft_37 : decode cX7_firstDraft 37 = .ok (.iconst 0, 1) := by decide +kernel
theorem dX7_firstDraft_38 : decode cX7_firstDraft 38 = .ok (.putfield 112, 3) := by decide +kernel
theorem dX7_firstDraft_41 : decode cX7_firstDraft 41 = .ok (.iconst 0, 1) := by decide +kernel
theorem dX7_firstDraft_42 : decode cX7_firstDraft 42 = .ok (.istore_n 1, 1) := by decide +kernel
theorem dX7_firstDraft_43 : decode cX7_firstDraft 43 = .ok (.iload_n 1, 1) := by decide +kernel
theorem dX7_firstDraft_44 : decode cX7_firstDraft 44 = .ok (.bipush 7, 2) := by decide +kernel
theorem dX7_firstDraft_46 : decode cX7_firstDraft 46 = .ok (.if_icmp .ge 16, 3) := by decide +kernel
theorem dX7_firstDraft_49 : decode cX7_firstDraft 49 = .ok (.aload_n 0, 1) := by decide +kernel
theorem dX7_firstDraft_50 : decode cX7_firstDraft 50 = .ok (.getfield 37, 3) := by decide +kernel
theorem dX7_firstDraft_53 : decode cX7_firstDraft 53 = .ok (.iload_n 1, 1) := by decide +kernel
theorem dX7_firstDraft_54 : decode cX7_firstDraft 54 = .ok (.iconst 0, 1) := by decide +kernel
theorem dX7_firstDraft_55 : decode cX7_firstDraft 55 = .ok (.iastore, 1) := by decide +kernel
theorem dX7_firstDraft_56 : decode cX7_firstDraft 56 = .ok (.iinc 1 1, 3) := by decide +kernel
theorem dX7_firstDraft_59 : decode cX7_firstDraft 59 = .ok (.goto (-16), 3) := by decide +kernel
theorem dX7_firstDraft_62 : decode cX7_firstDraft 62 = .ok (.return_, 1) := by decide +kernel
theorem dX7_keepDraft_0 : decode cX7_keepDraft 0 = .ok (.aload_n 0, 1) := by decide +kernel
theorem dX7_keepDraft_1 : decode cX7_keepDraft 1 = .ok (.aload_n 0, 1) := by decide +kernel
theorem dX7_keepDraft_2 : decode cX7_keepDraft 2 = .ok (.getfield 89, 3) := by decide +kernel
theorem dX7_keepDraft_5 : decode cX7_keepDraft 5 = .ok (.putfield 115, 3) := by decide +kernel
theorem dX7_keepDraft_8 : decode cX7_keepDraft 8 = .ok (.aload_n 0, 1) := by decide +kernel
theorem dX7_keepDraft_9 : decode cX7_keepDraft 9 = .ok (.aload_n 0, 1) := by decide +kernel
theorem dX7_keepDraft_10 : decode cX7_keepDraft 10 = .ok (.getfield 93, 3) := by decide +kernel
theorem dX7_keepDraft_13 : decode cX7_keepDraft 13 = .ok (.putfield 118, 3) := by decide +kernel
theorem dX7_keepDraft_16 : decode cX7_keepDraft 16 = .ok (.aload_n 0, 1) := by decide +kernel
theorem dX7_keepDraft_17 : decode cX7_keepDraft 17 = .ok (.aload_n 0, 1) := by decide +kernel
theorem dX7_keepDraft_18 : decode cX7_keepDraft 18 = .ok (.getfield 96, 3) := by decide +kernel
theorem dX7_keepDraft_21 : decode cX7_keepDraft 21 = .ok (.putfield 121, 3) := by decide +kernel
theorem dX7_keepDraft_24 : decode cX7_keepDraft 24 = .ok (.aload_n 0, 1) := by decide +kernel
theorem dX7_keepDraft_25 : decode cX7_keepDraft 25 = .ok (.aload_n 0, 1) := by decide +kernel
theorem dX7_keepDraft_26 : decode cX7_keepDraft 26 = .ok (.getfield 99, 3) := by decide +kernel
theorem dX7_keepDraft_29 : decode cX7_keepDraft 29 = .ok (.putfield 124, 3) := by decide +kernel
theorem dX7_keepDraft_32 : decode cX7_keepDraft 32 = .ok (.aload_n 0, 1) := by decide +kernel
theorem dX7_keepDraft_33 : decode cX7_keepDraft 33 = .ok (.aload_n 0, 1) := by decide +kernel
theorem dX7_keepDraft_34 : decode cX7_keepDraft 34 = .ok (.getfield 102, 3) := by decide +kernel
theorem dX7_keepDraft_37 : decode cX7_keepDraft 37 = .ok (.putfield 127, 3) := by decide +kernel
theorem dX7_keepDraft_40 : decode cX7_keepDraft 40 = .ok (.iconst 0, 1) := by decide +kernel
theorem dX7_keepDraft_41 : decode cX7_keepDraft 41 = .ok (.istore_n 1, 1) := by decide +kernel
theorem dX7_keepDraft_42 : decode cX7_keepDraft 42 = .ok (.iload_n 1, 1) := by decide +kernel
theorem dX7_keepDraft_43 : decode cX7_keepDraft 43 = .ok (.bipush 18, 2) := by decide +kernel
theorem dX7_keepDraft_45 : decode cX7_keepDraft 45 = .ok (.if_icmp .ge 21, 3) := by decide +kernel
theorem dX7_keepDraft_48 : decode cX7_keepDraft 48 = .ok (.aload_n 0, 1) := by decide +kernel
theorem dX7_keepDraft_49 : decode cX7_keepDraft 49 = .ok (.getfield 7, 3) := by decide +kernel
theorem dX7_keepDraft_52 : decode cX7_keepDraft 52 = .ok (.iload_n 1, 1) := by decide +kernel
theorem dX7_keepDraft_53 : decode cX7_keepDraft 53 = .ok (.aload_n 0, 1) := by decide +kernel
theorem dX7_keepDraft_54 : decode cX7_keepDraft 54 = .ok (.getfield 25, 3) := by decide +kernel
theorem dX7_keepDraft_57 : decode cX7_keepDraft 57 = .ok (.iload_n 1, 1) := by decide +kernel
theorem dX7_keepDraft_58 : decode cX7_keepDraft 58 = .ok (.iaload, 1) := by decide +kernel
theorem dX7_keepDraft_59 : decode cX7_keepDraft 59 = .ok (.iastore, 1) := by decide +kernel
theorem dX7_keepDraft_60 : decode cX7_keepDraft 60 = .ok (.iinc 1 1, 3) := by decide +kernel
theorem dX7_keepDraft_63 : decode cX7_keepDraft 63 = .ok (.goto (-21), 3) := by decide +kernel
theorem dX7_keepDraft_66 : decode cX7_keepDraft 66 = .ok (.iconst 0, 1) := by decide +kernel
theorem dX7_keepDraft_67 : decode cX7_keepDraft 67 = .ok (.istore_n 1, 1) := by decide +kernel
theorem dX7_keepDraft_68 : decode cX7_keepDraft 68 = .ok (.iload_n 1, 1) := by decide +kernel
theorem dX7_keepDraft_69 : decode cX7_keepDraft 69 = .ok (.bipush 45, 2) := by decide +kernel
theorem dX7_keepDraft_71 : decode cX7_keepDraft 71 = .ok (.if_icmp .ge 21, 3) := by decide +kernel
theorem dX7_keepDraft_74 : decode cX7_keepDraft 74 = .ok (.aload_n 0, 1) := by decide +kernel
theorem dX7_keepDraft_75 : decode cX7_keepDraft 75 = .ok (.getfield 13, 3) := by decide +kernel
theorem dX7_keepDraft_78 : decode cX7_keepDraft 78 = .ok (.iload_n 1, 1) := by decide +kernel
theorem dX7_keepDraft_79 : decode cX7_keepDraft 79 = .ok (.aload_n 0, 1) := by decide +kernel
theorem dX7_keepDraft_80 : decode cX7_keepDraft 80 = .ok (.getfield 28, 3) := by decide +kernel
theorem dX7_keepDraft_83 : decode cX7_keepDraft 83 = .ok (.iload_n 1, 1) := by decide +kernel
theorem dX7_keepDraft_84 : decode cX7_keepDraft 84 = .ok (.iaload, 1) := by decide +kernel
theorem dX7_keepDraft_85 : decode cX7_keepDraft 85 = .ok (.iastore, 1) := by decide +kernel
theorem dX7_keepDraft_86 : decode cX7_keepDraft 86 = .ok (.iinc 1 1, 3) := by decide +kernel
theorem dX7_keepDraft_89 : decode cX7_keepDraft 89 = .ok (.goto (-21), 3) := by decide +kernel
theorem dX7_keepDraft_92 : decode cX7_keepDraft 92 = .ok (.iconst 0, 1) := by decide +kernel
theorem dX7_keepDraft_93 : decode cX7_keepDraft 93 = .ok (.istore_n 1, 1) := by decide +kernel
theorem dX7_keepDraft_94 : decode cX7_keepDraft 94 = .ok (.iload_n 1, 1) := by decide +kernel
theorem dX7_keepDraft_95 : decode cX7_keepDraft 95 = .ok (.bipush 54, 2) := by decide +kernel
theorem dX7_keepDraft_97 : decode cX7_keepDraft 97 = .ok (.if_icmp .ge 33, 3) := by decide +kernel
theorem dX7_keepDraft_100 : decode cX7_keepDraft 100 = .ok (.aload_n 0, 1) := by decide +kernel
theorem dX7_keepDraft_101 : decode cX7_keepDraft 101 = .ok (.getfield 16, 3) := by decide +kernel
theorem dX7_keepDraft_104 : decode cX7_keepDraft 104 = .ok (.iload_n 1, 1) := by decide +kernel
theorem dX7_keepDraft_105 : decode cX7_keepDraft 105 = .ok (.aload_n 0, 1) := by decide +kernel
theorem dX7_keepDraft_106 : decode cX7_keepDraft 106 = .ok (.getfield 31, 3) := by decide +kernel
theorem dX7_keepDraft_109 : decode cX7_keepDraft 109 = .ok (.iload_n 1, 1) := by decide +kernel
theorem dX7_keepDraft_110 : decode cX7_keepDraft 110 = .ok (.iaload, 1) := by decide +kernel
theorem dX7_keepDraft_111 : decode cX7_keepDraft 111 = .ok (.iastore, 1) := by decide +kernel
theorem dX7_keepDraft_112 : decode cX7_keepDraft 112 = .ok (.aload_n 0, 1) := by decide +kernel
theorem dX7_keepDraft_113 : decode cX7_keepDraft 113 = .ok (.getfield 19, 3) := by decide +kernel
theorem dX7_keepDraft_116 : decode cX7_keepDraft 116 = .ok (.iload_n 1, 1) := by decide +kernel
theorem dX7_keepDraft_117 : decode cX7_keepDraft 117 = .ok (.aload_n 0, 1) := by decide +kernel
theorem dX7_keepDraft_118 : decode cX7_keepDraft 118 = .ok (.getfield 34, 3) := by decide +kernel
theorem dX7_keepDraft_121 : decode cX7_keepDraft 121 = .ok (.iload_n 1, 1) := by decide +kernel
theorem dX7_keepDraft_122 : decode cX7_keepDraft 122 = .ok (.iaload, 1) := by decide +kernel
theorem dX7_keepDraft_123 : decode cX7_keepDraft 123 = .ok (.iastore, 1) := by decide +kernel
theorem dX7_keepDraft_124 : decode cX7_keepDraft 124 = .ok (.iinc 1 1, 3) := by decide +kernel
theorem dX7_keepDraft_127 : decode cX7_keepDraft 127 = .ok (.goto (-33), 3) := by decide +kernel
theorem dX7_keepDraft_130 : decode cX7_keepDraft 130 = .ok (.iconst 0, 1) := by decide +kernel
theorem dX7_keepDraft_131 : decode cX7_keepDraft 131 = .ok (.istore_n 1, 1) := by decide +kernel
theorem dX7_keepDraft_132 : decode cX7_keepDraft 132 = .ok (.iload_n 1, 1) := by decide +kernel
theorem dX7_keepDraft_133 : decode cX7_keepDraft 133 = .ok (.bipush 7, 2) := by decide +kernel
theorem dX7_keepDraft_135 : decode cX7_keepDraft 135 = .ok (.if_icmp .ge 21, 3) := by decide +kernel
theorem dX7_keepDraft_138 : decode cX7_keepDraft 138 = .ok (.aload_n 0, 1) := by decide +kernel
theorem dX7_keepDraft_139 : decode cX7_keepDraft 139 = .ok (.getfield 22, 3) := by decide +kernel
theorem dX7_keepDraft_142 : decode cX7_keepDraft 142 = .ok (.iload_n 1, 1) := by decide +kernel
theorem dX7_keepDraft_143 : decode cX7_keepDraft 143 = .ok (.aload_n 0, 1) := by decide +kernel
theorem dX7_keepDraft_144 : decode cX7_keepDraft 144 = .ok (.getfield 37, 3) := by decide +kernel
theorem dX7_keepDraft_147 : decode cX7_keepDraft 147 = .ok (.iload_n 1, 1) := by decide +kernel
theorem dX7_keepDraft_148 : decode cX7_keepDraft 148 = .ok (.iaload, 1) := by decide +kernel
theorem dX7_keepDraft_149 : decode cX7_keepDraft 149 = .ok (.iastore, 1) := by decide +kernel
theorem dX7_keepDraft_150 : decode cX7_keepDraft 150 = .ok (.iinc 1 1, 3) := by decide +kernel
theorem dX7_keepDraft_153 : decode cX7_keepDraft 153 = .ok (.goto (-21), 3) := by decide +kernel
theorem dX7_keepDraft_156 : decode cX7_keepDraft 156 = .ok (.iconst 0, 1) := by decide +kernel
theorem dX7_keepDraft_157 : decode cX7_keepDraft 157 = .ok (.istore_n 1, 1) := by decide +kernel
theorem dX7_keepDraft_158 : decode cX7_keepDraft 158 = .ok (.iload_n 1, 1) := by decide +kernel
theorem dX7_keepDraft_159 : decode cX7_keepDraft 159 = .ok (.bipush 36, 2) := by decide +kernel
theorem dX7_keepDraft_161 : decode cX7_keepDraft 161 = .ok (.if_icmp .ge 39, 3) := by decide +kernel
theorem dX7_keepDraft_164 : decode cX7_keepDraft 164 = .ok (.aload_n 0, 1) := by decide +kernel
theorem dX7_keepDraft_165 : decode cX7_keepDraft 165 = .ok (.getfield 49, 3) := by decide +kernel
theorem dX7_keepDraft_168 : decode cX7_keepDraft 168 = .ok (.sipush 280, 3) := by decide +kernel
theorem dX7_keepDraft_171 : decode cX7_keepDraft 171 = .ok (.iload_n 1, 1) := by decide +kernel
theorem dX7_keepDraft_172 : decode cX7_keepDraft 172 = .ok (.iadd, 1) := by decide +kernel
theorem dX7_keepDraft_173 : decode cX7_keepDraft 173 = .ok (.iload_n 1, 1) := by decide +kernel
theorem dX7_keepDraft_174 : decode cX7_keepDraft 174 = .ok (.i2l, 1) := by decide +kernel
theorem dX7_keepDraft_175 : decode cX7_keepDraft 175 = .ok (.ldc2_w 130, 3) := by decide +kernel
theorem dX7_keepDraft_178 : decode cX7_keepDraft 178 = .ok (.ldc2_w 132, 3) := by decide +kernel
theorem dX7_keepDraft_181 : decode cX7_keepDraft 181 = .ok (.invokestatic 134, 3) := by decide +kernel
theorem dX7_keepDraft_184 : decode cX7_keepDraft 184 = .ok (.ifCond .eq 8, 3) := by decide +kernel
theorem dX7_keepDraft_187 : decode cX7_keepDraft 187 = .ok (.bipush (-4), 2) := by decide +kernel
theorem dX7_keepDraft_189 : decode cX7_keepDraft 189 = .ok (.goto 4, 3) := by decide +kernel
theorem dX7_keepDraft_192 : decode cX7_keepDraft 192 = .ok (.iconst 0, 1) := by decide +kernel
theorem dX7_keepDraft_193 : decode cX7_keepDraft 193 = .ok (.iastore, 1) := by decide +kernel
theorem dX7_keepDraft_194 : decode cX7_keepDraft 194 = .ok (.iinc 1 1, 3) := by decide +kernel
theorem dX7_keepDraft_197 : decode cX7_keepDraft 197 = .ok (.goto (-39), 3) := by decide +kernel
theorem dX7_keepDraft_200 : decode cX7_keepDraft 200 = .ok (.aload_n 0, 1) := by decide +kernel
theorem dX7_keepDraft_201 : decode cX7_keepDraft 201 = .ok (.getfield 49, 3) := by decide +kernel
theorem dX7_keepDraft_204 : decode cX7_keepDraft 204 = .ok (.sipush 316, 3) := by decide +kernel
theorem dX7_keepDraft_207 : decode cX7_keepDraft 207 = .ok (.iconst 0, 1) := by decide +kernel
theorem dX7_keepDraft_208 : decode cX7_keepDraft 208 = .ok (.iastore, 1) := by decide +kernel
theorem dX7_keepDraft_209 : decode cX7_keepDraft 209 = .ok (.aload_n 0, 1) := by decide +kernel
theorem dX7_keepDraft_210 : decode cX7_keepDraft 210 = .ok (.getfield 49, 3) := by decide +kernel
theorem dX7_keepDraft_213 : decode cX7_keepDraft 213 = .ok (.sipush 317, 3) := by decide +kernel
theorem dX7_keepDraft_216 : decode cX7_keepDraft 216 = .ok (.bipush (-4), 2) := by decide +kernel
theorem dX7_keepDraft_218 : decode cX7_keepDraft 218 = .ok (.iastore, 1) := by decide +kernel
theorem dX7_keepDraft_219 : decode cX7_keepDraft 219 = .ok (.aload_n 0, 1) := by decide +kernel
theorem dX7_keepDraft_220 : decode cX7_keepDraft 220 = .ok (.getfield 52, 3) := by decide +kernel
theorem dX7_keepDraft_223 : decode cX7_keepDraft 223 = .ok (.iconst 0, 1) := by decide +kernel
theorem dX7_keepDraft_224 : decode cX7_keepDraft 224 = .ok (.iconst 0, 1) := by decide +kernel
theorem dX7_keepDraft_225 : decode cX7_keepDraft 225 = .ok (.bastore, 1) := by decide +kernel
theorem dX7_keepDraft_226 : decode cX7_keepDraft 226 = .ok (.aload_n 0, 1) := by decide +kernel
theorem dX7_keepDraft_227 : decode cX7_keepDraft 227 = .ok (.getfield 52, 3) := by decide +kernel
theorem dX7_keepDraft_230 : decode cX7_keepDraft 230 = .ok (.iconst 1, 1) := by decide +kernel
theorem dX7_keepDraft_231 : decode cX7_keepDraft 231 = .ok (.iconst 0, 1) := by decide +kernel
theorem dX7_keepDraft_232 : decode cX7_keepDraft 232 = .ok (.bastore, 1) := by decide +kernel
theorem dX7_keepDraft_233 : decode cX7_keepDraft 233 = .ok (.aload_n 0, 1) := by decide +kernel
theorem dX7_keepDraft_234 : decode cX7_keepDraft 234 = .ok (.iconst 0, 1) := by decide +kernel
theorem dX7_keepDraft_235 : decode cX7_keepDraft 235 = .ok (.putfield 138, 3) := by decide +kernel
theorem dX7_keepDraft_238 : decode cX7_keepDraft 238 = .ok (.return_, 1) := by decide +kernel
theorem dX7_feed_0 : decode cX7_feed 0 = .ok (.aload_n 0, 1) := by decide +kernel
theorem dX7_feed_1 : decode cX7_feed 1 = .ok (.getfield 141, 3) := by decide +kernel
theorem dX7_feed_4 : decode cX7_feed 4 = .ok (.bipush 8, 2) := by decide +kernel
theorem dX7_feed_6 : decode cX7_feed 6 = .ok (.iadd, 1) := by decide +kernel
theorem dX7_feed_7 : decode cX7_feed 7 = .ok (.sipush 400, 3) := by decide +kernel
theorem dX7_feed_10 : decode cX7_feed 10 = .ok (.if_icmp .le 6, 3) := by decide +kernel
theorem dX7_feed_13 : decode cX7_feed 13 = .ok (.bipush (-3), 2) := by decide +kernel
theorem dX7_feed_15 : decode cX7_feed 15 = .ok (.ireturn, 1) := by decide +kernel
theorem dX7_feed_16 : decode cX7_feed 16 = .ok (.bipush 56, 2) := by decide +kernel
theorem dX7_feed_18 : decode cX7_feed 18 = .ok (.istore_n 3, 1) := by decide +kernel
theorem dX7_feed_19 : decode cX7_feed 19 = .ok (.iload_n 3, 1) := by decide +kernel
theorem dX7_feed_20 : decode cX7_feed 20 = .ok (.ifCond .lt 36, 3) := by decide +kernel
theorem dX7_feed_23 : decode cX7_feed 23 = .ok (.aload_n 0, 1) := by decide +kernel
theorem dX7_feed_24 : decode cX7_feed 24 = .ok (.getfield 46, 3) := by decide +kernel
theorem dX7_feed_27 : decode cX7_feed 27 = .ok (.aload_n 0, 1) := by decide +kernel
theorem dX7_feed_28 : decode cX7_feed 28 = .ok (.getfield 141, 3) := by decide +kernel
theorem dX7_feed_31 : decode cX7_feed 31 = .ok (.lload_n 1, 1) := by decide +kernel
theorem dX7_feed_32 : decode cX7_feed 32 = .ok (.iload_n 3, 1) := by decide +kernel
theorem dX7_feed_33 : decode cX7_feed 33 = .ok (.lshr, 1) := by decide +kernel
theorem dX7_feed_34 : decode cX7_feed 34 = .ok (.ldc2_w 144, 3) := by decide +kernel
theorem dX7_feed_37 : decode cX7_feed 37 = .ok (.land, 1) := by decide +kernel
theorem dX7_feed_38 : decode cX7_feed 38 = .ok (.l2i, 1) := by decide +kernel
theorem dX7_feed_39 : decode cX7_feed 39 = .ok (.iastore, 1) := by decide +kernel
theorem dX7_feed_40 : decode cX7_feed 40 = .ok (.aload_n 0, 1) := by decide +kernel
theorem dX7_feed_41 : decode cX7_feed 41 = .ok (.dup, 1) := by decide +kernel
theorem dX7_feed_42 : decode cX7_feed 42 = .ok (.getfield 141, 3) := by decide +kernel
theorem dX7_feed_45 : decode cX7_feed 45 = .ok (.iconst 1, 1) := by decide +kernel
theorem dX7_feed_46 : decode cX7_feed 46 = .ok (.iadd, 1) := by decide +kernel
theorem dX7_feed_47 : decode cX7_feed 47 = .ok (.putfield 141, 3) := by decide +kernel
theorem dX7_feed_50 : decode cX7_feed 50 = .ok (.iinc 3 (-8), 3) := by decide +kernel
theorem dX7_feed_53 : decode cX7_feed 53 = .ok (.goto (-34), 3) := by decide +kernel
theorem dX7_feed_56 : decode cX7_feed 56 = .ok (.aload_n 0, 1) := by decide +kernel
theorem dX7_feed_57 : decode cX7_feed 57 = .ok (.getfield 141, 3) := by decide +kernel
theorem dX7_feed_60 : decode cX7_feed 60 = .ok (.ireturn, 1) := by decide +kernel
theorem dX7_end_0 : decode cX7_end 0 = .ok (.iload_n 1, 1) := by decide +kernel
theorem dX7_end_1 : decode cX7_end 1 = .ok (.i2l, 1) := by decide +kernel
theorem dX7_end_2 : decode cX7_end 2 = .ok (.lconst 0, 1) := by decide +kernel
theorem dX7_end_3 : decode cX7_end 3 = .ok (.aload_n 0, 1) := by decide +kernel
theorem dX7_end_4 : decode cX7_end 4 = .ok (.getfield 141, 3) := by decide +kernel
theorem dX7_end_7 : decode cX7_end 7 = .ok (.i2l, 1) := by decide +kernel
theorem dX7_end_8 : decode cX7_end 8 = .ok (.invokestatic 134, 3) := by decide +kernel
theorem dX7_end_11 : decode cX7_end 11 = .ok (.ifCond .ne 5, 3) := by decide +kernel
theorem dX7_end_14 : decode cX7_end 14 = .ok (.iconst (-1), 1) := by decide +kernel
theorem dX7_end_15 : decode cX7_end 15 = .ok (.ireturn, 1) := by decide +kernel
theorem dX7_end_16 : decode cX7_end 16 = .ok (.aload_n 0, 1) := by decide +kernel
theorem dX7_end_17 : decode cX7_end 17 = .ok (.getfield 141, 3) := by decide +kernel
theorem dX7_end_20 : decode cX7_end 20 = .ok (.istore_n 2, 1) := by decide +kernel
theorem dX7_end_21 : decode cX7_end 21 = .ok (.aload_n 0, 1) := by decide +kernel
theorem dX7_end_22 : decode cX7_end 22 = .ok (.iload_n 1, 1) := by decide +kernel
theorem dX7_end_23 : decode cX7_end 23 = .ok (.putfield 141, 3) := by decide +kernel
theorem dX7_end_26 : decode cX7_end 26 = .ok (.iload_n 2, 1) := by decide +kernel
theorem dX7_end_27 : decode cX7_end 27 = .ok (.ireturn, 1) := by decide +kernel
theorem dX7_needs_0 : decode cX7_needs 0 = .ok (.iload_n 1, 1) := by decide +kernel
theorem dX7_needs_1 : decode cX7_needs 1 = .ok (.ifCond .ne 23, 3) := by decide +kernel
theorem dX7_needs_4 : decode cX7_needs 4 = .ok (.aload_n 0, 1) := by decide +kernel
theorem dX7_needs_5 : decode cX7_needs 5 = .ok (.getfield 146, 3) := by decide +kernel
theorem dX7_needs_8 : decode cX7_needs 8 = .ok (.ifCond .ne 16, 3) := by decide +kernel
theorem dX7_needs_11 : decode cX7_needs 11 = .ok (.aload_n 0, 1) := by decide +kernel
theorem dX7_needs_12 : decode cX7_needs 12 = .ok (.iload_n 2, 1) := by decide +kernel
theorem dX7_needs_13 : decode cX7_needs 13 = .ok (.putfield 146, 3) := by decide +kernel
theorem dX7_needs_16 : decode cX7_needs 16 = .ok (.aload_n 0, 1) := by decide +kernel
theorem dX7_needs_17 : decode cX7_needs 17 = .ok (.aload_n 0, 1) := by decide +kernel
theorem dX7_needs_18 : decode cX7_needs 18 = .ok (.getfield 149, 3) := by decide +kernel
theorem dX7_needs_21 : decode cX7_needs 21 = .ok (.putfield 152, 3) := by decide +kernel
theorem dX7_needs_24 : decode cX7_needs 24 = .ok (.return_, 1) := by decide +kernel
theorem dX7_look_0 : decode cX7_look 0 = .ok (.iload_n 1, 1) := by decide +kernel
theorem dX7_look_1 : decode cX7_look 1 = .ok (.aload_n 0, 1) := by decide +kernel
theorem dX7_look_2 : decode cX7_look 2 = .ok (.getfield 141, 3) := by decide +kernel
theorem dX7_look_5 : decode cX7_look 5 = .ok (.if_icmp .ge 12, 3) := by decide +kernel
theorem dX7_look_8 : decode cX7_look 8 = .ok (.aload_n 0, 1) := by decide +kernel
theorem dX7_look_9 : decode cX7_look 9 = .ok (.getfield 46, 3) := by decide +kernel
theorem dX7_look_12 : decode cX7_look 12 = .ok (.iload_n 1, 1) := by decide +kernel
theorem dX7_look_13 : decode cX7_look 13 = .ok (.iaload, 1) := by decide +kernel
theorem dX7_look_14 : decode cX7_look 14 = .ok (.goto 4, 3) := by decide +kernel
theorem dX7_look_17 : decode cX7_look 17 = .ok (.iconst (-1), 1) := by decide +kernel
theorem dX7_look_18 : decode cX7_look 18 = .ok (.ireturn, 1) := by decide +kernel
theorem dX7_is_0 : decode cX7_is 0 = .ok (.aload_n 0, 1) := by decide +kernel
theorem dX7_is_1 : decode cX7_is 1 = .ok (.getfield 155, 3) := by decide +kernel
theorem dX7_is_4 : decode cX7_is 4 = .ok (.aload_n 0, 1) := by decide +kernel
theorem dX7_is_5 : decode cX7_is 5 = .ok (.getfield 149, 3) := by decide +kernel
theorem dX7_is_8 : decode cX7_is 8 = .ok (.isub, 1) := by decide +kernel
theorem dX7_is_9 : decode cX7_is 9 = .ok (.iload_n 1, 1) := by decide +kernel
theorem dX7_is_10 : decode cX7_is 10 = .ok (.if_icmp .ne 68, 3) := by decide +kernel
theorem dX7_is_13 : decode cX7_is 13 = .ok (.aload_n 0, 1) := by decide +kernel
theorem dX7_is_14 : decode cX7_is 14 = .ok (.aload_n 0, 1) := by decide +kernel
theorem dX7_is_15 : decode cX7_is 15 = .ok (.getfield 149, 3) := by decide +kernel
theorem dX7_is_18 : decode cX7_is 18 = .ok (.invokevirtual 158, 3) := by decide +kernel
theorem dX7_is_21 : decode cX7_is 21 = .ok (.iload_n 2, 1) := by decide +kernel
theorem dX7_is_22 : decode cX7_is 22 = .ok (.if_icmp .ne 56, 3) := by decide +kernel
theorem dX7_is_25 : decode cX7_is 25 = .ok (.aload_n 0, 1) := by decide +kernel
theorem dX7_is_26 : decode cX7_is 26 = .ok (.aload_n 0, 1) := by decide +kernel
theorem dX7_is_27 : decode cX7_is 27 = .ok (.getfield 149, 3) := by decide +kernel
theorem dX7_is_30 : decode cX7_is 30 = .ok (.iconst 1, 1) := by decide +kernel
theorem dX7_is_31 : decode cX7_is 31 = .ok (.iadd, 1) := by decide +kernel
theorem dX7_is_32 : decode cX7_is 32 = .ok (.invokevirtual 158, 3) := by decide +kernel
theorem dX7_is_35 : decode cX7_is 35 = .ok (.iload_n 3, 1) := by decide +kernel
theorem dX7_is_36 : decode cX7_is 36 = .ok (.if_icmp .ne 42, 3) := by decide +kernel
theorem dX7_is_39 : decode cX7_is 39 = .ok (.aload_n 0, 1) := by decide +kernel
theorem dX7_is_40 : decode cX7_is 40 = .ok (.aload_n 0, 1) := by decide +kernel
theorem dX7_is_41 : decode cX7_is 41 = .ok (.getfield 149, 3) := by decide +kernel
theorem dX7_is_44 : decode cX7_is 44 = .ok (.iconst 2, 1) := by decide +kernel
theorem dX7_is_45 : decode cX7_is 45 = .ok (.iadd, 1) := by decide +kernel
theorem dX7_is_46 : decode cX7_is 46 = .ok (.invokevirtual 158, 3) := by decide +kernel
theorem dX7_is_49 : decode cX7_is 49 = .ok (.iload 4, 2) := by decide +kernel
theorem dX7_is_51 : decode cX7_is 51 = .ok (.if_icmp .ne 27, 3) := by decide +kernel
theorem dX7_is_54 : decode cX7_is 54 = .ok (.iload_n 1, 1) := by decide +kernel
theorem dX7_is_55 : decode cX7_is 55 = .ok (.iconst 4, 1) := by decide +kernel
theorem dX7_is_56 : decode cX7_is 56 = .ok (.if_icmp .lt 18, 3) := by decide +kernel
theorem dX7_is_59 : decode cX7_is 59 = .ok (.aload_n 0, 1) := by decide +kernel
theorem dX7_is_60 : decode cX7_is 60 = .ok (.aload_n 0, 1) := by decide +kernel
theorem dX7_is_61 : decode cX7_is 61 = .ok (.getfield 149, 3) := by decide +kernel
theorem dX7_is_64 : decode cX7_is 64 = .ok (.iconst 3, 1) := by decide +kernel
theorem dX7_is_65 : decode cX7_is 65 = .ok (.iadd, 1) := by decide +kernel
theorem dX7_is_66 : decode cX7_is 66 = .ok (.invokevirtual 158, 3) := by decide +kernel
theorem dX7_is_69 : decode cX7_is 69 = .ok (.iload 5, 2) := by decide +kernel
theorem dX7_is_71 : decode cX7_is 71 = .ok (.if_icmp .ne 7, 3) := by decide +kernel
theorem dX7_is_74 : decode cX7_is 74 = .ok (.iconst 1, 1) := by decide +kernel
theorem dX7_is_75 : decode cX7_is 75 = .ok (.goto 4, 3) := by decide +kernel
theorem dX7_is_78 : decode cX7_is 78 = .ok (.iconst 0, 1) := by decide +kernel
theorem dX7_is_79 : decode cX7_is 79 = .ok (.ireturn, 1) := by decide +kernel
theorem dX7_goesOn_0 : decode cX7_goesOn 0 = .ok (.aload_n 0, 1) := by decide +kernel
theorem dX7_goesOn_1 : decode cX7_goesOn 1 = .ok (.aload_n 0, 1) := by decide +kernel
theorem dX7_goesOn_2 : decode cX7_goesOn 2 = .ok (.getfield 149, 3) := by decide +kernel
theorem dX7_goesOn_5 : decode cX7_goesOn 5 = .ok (.iconst 4, 1) := by decide +kernel
theorem dX7_goesOn_6 : decode cX7_goesOn 6 = .ok (.iadd, 1) := by decide +kernel
theorem dX7_goesOn_7 : decode cX7_goesOn 7 = .ok (.invokevirtual 158, 3) := by decide +kernel
theorem dX7_goesOn_10 : decode cX7_goesOn 10 = .ok (.iload_n 1, 1) := by decide +kernel
theorem dX7_goesOn_11 : decode cX7_goesOn 11 = .ok (.if_icmp .ne 25, 3) := by decide +kernel
theorem dX7_goesOn_14 : decode cX7_goesOn 14 = .ok (.iload_n 2, 1) := by decide +kernel
theorem dX7_goesOn_15 : decode cX7_goesOn 15 = .ok (.ifCond .eq 17, 3) := by decide +kernel
theorem dX7_goesOn_18 : decode cX7_goesOn 18 = .ok (.aload_n 0, 1) := by decide +kernel
theorem dX7_goesOn_19 : decode cX7_goesOn 19 = .ok (.aload_n 0, 1) := by decide +kernel
theorem dX7_goesOn_20 : decode cX7_goesOn 20 = .ok (.getfield 149, 3) := by decide +kernel
theorem dX7_goesOn_23 : decode cX7_goesOn 23 = .ok (.iconst 5, 1) := by decide +kernel
theorem dX7_goesOn_24 : decode cX7_goesOn 24 = .ok (.iadd, 1) := by decide +kernel
theorem dX7_goesOn_25 : decode cX7_goesOn 25 = .ok (.invokevirtual 158, 3) := by decide +kernel
theorem dX7_goesOn_28 : decode cX7_goesOn 28 = .ok (.iload_n 2, 1) := by decide +kernel
theorem dX7_goesOn_29 : decode cX7_goesOn 29 = .ok (.if_icmp .ne 7, 3) := by decide +kernel
theorem dX7_goesOn_32 : decode cX7_goesOn 32 = .ok (.iconst 1, 1) := by decide +kernel
theorem dX7_goesOn_33 : decode cX7_goesOn 33 = .ok (.goto 4, 3) := by decide +kernel
theorem dX7_goesOn_36 : decode cX7_goesOn 36 = .ok (.iconst 0, 1) := by decide +kernel
theorem dX7_goesOn_37 : decode cX7_goesOn 37 = .ok (.ireturn, 1) := by decide +kernel
theorem dX7_nameNow_0 : decode cX7_nameNow 0 = .ok (.aload_n 0, 1) := by decide +kernel
theorem dX7_nameNow_1 : decode cX7_nameNow 1 = .ok (.iconst 5, 1) := by decide +kernel
theorem dX7_nameNow_2 : decode cX7_nameNow 2 = .ok (.bipush 116, 2) := by decide +kernel
theorem dX7_nameNow_4 : decode cX7_nameNow 4 = .ok (.bipush 104, 2) := by decide +kernel
theorem dX7_nameNow_6 : decode cX7_nameNow 6 = .ok (.bipush 105, 2) := by decide +kernel
theorem dX7_nameNow_8 : decode cX7_nameNow 8 = .ok (.bipush 110, 2) := by decide +kernel
theorem dX7_nameNow_10 : decode cX7_nameNow 10 = .ok (.invokevirtual 162, 3) := by decide +kernel
theorem dX7_nameNow_13 : decode cX7_nameNow 13 = .ok (.ifCond .eq 16, 3) := by decide +kernel
theorem dX7_nameNow_16 : decode cX7_nameNow 16 = .ok (.aload_n 0, 1) := by decide +kernel
theorem dX7_nameNow_17 : decode cX7_nameNow 17 = .ok (.bipush 103, 2) := by decide +kernel
theorem dX7_nameNow_19 : decode cX7_nameNow 19 = .ok (.iconst 0, 1) := by decide +kernel
theorem dX7_nameNow_20 : decode cX7_nameNow 20 = .ok (.invokevirtual 166, 3) := by decide +kernel
theorem dX7_nameNow_23 : decode cX7_nameNow 23 = .ok (.ifCond .eq 6, 3) := by decide +kernel
theorem dX7_nameNow_26 : decode cX7_nameNow 26 = .ok (.bipush 10, 2) := by decide +kernel
theorem dX7_nameNow_28 : decode cX7_nameNow 28 = .ok (.ireturn, 1) := by decide +kernel
theorem dX7_nameNow_29 : decode cX7_nameNow 29 = .ok (.aload_n 0, 1) := by decide +kernel
theorem dX7_nameNow_30 : decode cX7_nameNow 30 = .ok (.iconst 5, 1) := by decide +kernel
theorem dX7_nameNow_31 : decode cX7_nameNow 31 = .ok (.bipush 102, 2) := by decide +kernel
theorem dX7_nameNow_33 : decode cX7_nameNow 33 = .ok (.bipush 105, 2) := by decide +kernel
theorem dX7_nameNow_35 : decode cX7_nameNow 35 = .ok (.bipush 114, 2) := by decide +kernel
theorem dX7_nameNow_37 : decode cX7_nameNow 37 = .ok (.bipush 115, 2) := by decide +kernel
theorem dX7_nameNow_39 : decode cX7_nameNow 39 = .ok (.invokevirtual 162, 3) := by decide +kernel
theorem dX7_nameNow_42 : decode cX7_nameNow 42 = .ok (.ifCond .eq 15, 3) := by decide +kernel
theorem dX7_nameNow_45 : decode cX7_nameNow 45 = .ok (.aload_n 0, 1) := by decide +kernel
theorem dX7_nameNow_46 : decode cX7_nameNow 46 = .ok (.bipush 116, 2) := by decide +kernel
theorem dX7_nameNow_48 : decode cX7_nameNow 48 = .ok (.iconst 0, 1) := by decide +kernel
theorem dX7_nameNow_49 : decode cX7_nameNow 49 = .ok (.invokevirtual 166, 3) := by decide +kernel
theorem dX7_nameNow_52 : decode cX7_nameNow 52 = .ok (.ifCond .eq 5, 3) := by decide +kernel
theorem dX7_nameNow_55 : decode cX7_nameNow 55 = .ok (.iconst 0, 1) := by decide +kernel
theorem dX7_nameNow_56 : decode cX7_nameNow 56 = .ok (.ireturn, 1) := by decide +kernel
theorem dX7_nameNow_57 : decode cX7_nameNow 57 = .ok (.aload_n 0, 1) := by decide +kernel
theorem dX7_nameNow_58 : decode cX7_nameNow 58 = .ok (.bipush 6, 2) := by decide +kernel
theorem dX7_nameNow_60 : decode cX7_nameNow 60 = .ok (.bipush 115, 2) := by decide +kernel
theorem dX7_nameNow_62 : decode cX7_nameNow 62 = .ok (.bipush 101, 2) := by decide +kernel
theorem dX7_nameNow_64 : decode cX7_nameNow 64 = .ok (.bipush 99, 2) := by decide +kernel
theorem dX7_nameNow_66 : decode cX7_nameNow 66 = .ok (.bipush 111, 2) := by decide +kernel
theorem dX7_nameNow_68 : decode cX7_nameNow 68 = .ok (.invokevirtual 162, 3) := by decide +kernel
theorem dX7_nameNow_71 : decode cX7_nameNow 71 = .ok (.ifCond .eq 16, 3) := by decide +kernel
theorem dX7_nameNow_74 : decode cX7_nameNow 74 = .ok (.aload_n 0, 1) := by decide +kernel
theorem dX7_nameNow_75 : decode cX7_nameNow 75 = .ok (.bipush 110, 2) := by decide +kernel
theorem dX7_nameNow_77 : decode cX7_nameNow 77 = .ok (.bipush 100, 2) := by decide +kernel
theorem dX7_nameNow_79 : decode cX7_nameNow 79 = .ok (.invokevirtual 166, 3) := by decide +kernel
theorem dX7_nameNow_82 : decode cX7_nameNow 82 = .ok (.ifCond .eq 5, 3) := by decide +kernel
theorem dX7_nameNow_85 : decode cX7_nameNow 85 = .ok (.iconst 1, 1) := by decide +kernel
theorem dX7_nameNow_86 : decode cX7_nameNow 86 = .ok (.ireturn, 1) := by decide +kernel
theorem dX7_nameNow_87 : decode cX7_nameNow 87 = .ok (.aload_n 0, 1) := by decide +kernel
theorem dX7_nameNow_88 : decode cX7_nameNow 88 = .ok (.iconst 5, 1) := by decide +kernel
theorem dX7_nameNow_89 : decode cX7_nameNow 89 = .ok (.bipush 102, 2) := by decide +kernel
theorem dX7_nameNow_91 : decode cX7_nameNow 91 = .ok (.bipush 101, 2) := by decide +kernel
theorem dX7_nameNow_93 : decode cX7_nameNow 93 = .ok (.bipush 97, 2) := by decide +kernel
theorem dX7_nameNow_95 : decode cX7_nameNow 95 = .ok (.bipush 115, 2) := by decide +kernel
theorem dX7_nameNow_97 : decode cX7_nameNow 97 = .ok (.invokevirtual 162, 3) := by decide +kernel
theorem dX7_nameNow_100 : decode cX7_nameNow 100 = .ok (.ifCond .eq 15, 3) := by decide +kernel
theorem dX7_nameNow_103 : decode cX7_nameNow 103 = .ok (.aload_n 0, 1) := by decide +kernel
theorem dX7_nameNow_104 : decode cX7_nameNow 104 = .ok (.bipush 116, 2) := by decide +kernel
theorem dX7_nameNow_106 : decode cX7_nameNow 106 = .ok (.iconst 0, 1) := by decide +kernel
theorem dX7_nameNow_107 : decode cX7_nameNow 107 = .ok (.invokevirtual 166, 3) := by decide +kernel
theorem dX7_nameNow_110 : decode cX7_nameNow 110 = .ok (.ifCond .eq 5, 3) := by decide +kernel
theorem dX7_nameNow_113 : decode cX7_nameNow 113 = .ok (.iconst 2, 1) := by decide +kernel
theorem dX7_nameNow_114 : decode cX7_nameNow 114 = .ok (.ireturn, 1) := by decide +kernel
theorem dX7_nameNow_115 : decode cX7_nameNow 115 = .ok (.aload_n 0, 1) := by decide +kernel
theorem dX7_nameNow_116 : decode cX7_nameNow 116 = .ok (.iconst 3, 1) := by decide +kernel
theorem dX7_nameNow_117 : decode cX7_nameNow 117 = .ok (.bipush 97, 2) := by decide +kernel
theorem dX7_nameNow_119 : decode cX7_nameNow 119 = .ok (.bipush 110, 2) := by decide +kernel
theorem dX7_nameNow_121 : decode cX7_nameNow 121 = .ok (.bipush 121, 2) := by decide +kernel
theorem dX7_nameNow_123 : decode cX7_nameNow 123 = .ok (.iconst 0, 1) := by decide +kernel
theorem dX7_nameNow_124 : decode cX7_nameNow 124 = .ok (.invokevirtual 162, 3) := by decide +kernel
theorem dX7_nameNow_127 : decode cX7_nameNow 127 = .ok (.ifCond .eq 5, 3) := by decide +kernel
theorem dX7_nameNow_130 : decode cX7_nameNow 130 = .ok (.iconst 3, 1) := by decide +kernel
theorem dX7_nameNow_131 : decode cX7_nameNow 131 = .ok (.ireturn, 1) := by decide +kernel
theorem dX7_nameNow_132 : decode cX7_nameNow 132 = .ok (.aload_n 0, 1) := by decide +kernel
theorem dX7_nameNow_133 : decode cX7_nameNow 133 = .ok (.iconst 5, 1) := by decide +kernel
theorem dX7_nameNow_134 : decode cX7_nameNow 134 = .ok (.bipush 97, 2) := by decide +kernel
theorem dX7_nameNow_136 : decode cX7_nameNow 136 = .ok (.bipush 103, 2) := by decide +kernel
theorem dX7_nameNow_138 : decode cX7_nameNow 138 = .ok (.bipush 97, 2) := by decide +kernel
theorem dX7_nameNow_140 : decode cX7_nameNow 140 = .ok (.bipush 105, 2) := by decide +kernel
theorem dX7_nameNow_142 : decode cX7_nameNow 142 = .ok (.invokevirtual 162, 3) := by decide +kernel
theorem dX7_nameNow_145 : decode cX7_nameNow 145 = .ok (.ifCond .eq 16, 3) := by decide +kernel
theorem dX7_nameNow_148 : decode cX7_nameNow 148 = .ok (.aload_n 0, 1) := by decide +kernel
theorem dX7_nameNow_149 : decode cX7_nameNow 149 = .ok (.bipush 110, 2) := by decide +kernel
theorem dX7_nameNow_151 : decode cX7_nameNow 151 = .ok (.iconst 0, 1) := by decide +kernel
theorem dX7_nameNow_152 : decode cX7_nameNow 152 = .ok (.invokevirtual 166, 3) := by decide +kernel
theorem dX7_nameNow_155 : decode cX7_nameNow 155 = .ok (.ifCond .eq 6, 3) := by decide +kernel
theorem dX7_nameNow_158 : decode cX7_nameNow 158 = .ok (.bipush 11, 2) := by decide +kernel
theorem dX7_nameNow_160 : decode cX7_nameNow 160 = .ok (.ireturn, 1) := by decide +kernel
theorem dX7_nameNow_161 : decode cX7_nameNow 161 = .ok (.aload_n 0, 1) := by decide +kernel
theorem dX7_nameNow_162 : decode cX7_nameNow 162 = .ok (.iconst 4, 1) := by decide +kernel
theorem dX7_nameNow_163 : decode cX7_nameNow 163 = .ok (.bipush 115, 2) := by decide +kernel
theorem dX7_nameNow_165 : decode cX7_nameNow 165 = .ok (.bipush 104, 2) := by decide +kernel
theorem dX7_nameNow_167 : decode cX7_nameNow 167 = .ok (.bipush 111, 2) := by decide +kernel
theorem dX7_nameNow_169 : decode cX7_nameNow 169 = .ok (.bipush 112, 2) := by decide +kernel
theorem dX7_nameNow_171 : decode cX7_nameNow 171 = .ok (.invokevirtual 162, 3) := by decide +kernel
theorem dX7_nameNow_174 : decode cX7_nameNow 174 = .ok (.ifCond .eq 6, 3) := by decide +kernel
theorem dX7_nameNow_177 : decode cX7_nameNow 177 = .ok (.bipush 12, 2) := by decide +kernel
theorem dX7_nameNow_179 : decode cX7_nameNow 179 = .ok (.ireturn, 1) := by decide +kernel
theorem dX7_nameNow_180 : decode cX7_nameNow 180 = .ok (.aload_n 0, 1) := by decide +kernel
theorem dX7_nameNow_181 : decode cX7_nameNow 181 = .ok (.iconst 3, 1) := by decide +kernel
theorem dX7_nameNow_182 : decode cX7_nameNow 182 = .ok (.bipush 111, 2) := by decide +kernel
theorem dX7_nameNow_184 : decode cX7_nameNow 184 = .ok (.bipush 117, 2) := by decide +kernel
theorem dX7_nameNow_186 : decode cX7_nameNow 186 = .ok (.bipush 116, 2) := by decide +kernel
theorem dX7_nameNow_188 : decode cX7_nameNow 188 = .ok (.iconst 0, 1) := by decide +kernel
theorem dX7_nameNow_189 : decode cX7_nameNow 189 = .ok (.invokevirtual 162, 3) := by decide +kernel
theorem dX7_nameNow_192 : decode cX7_nameNow 192 = .ok (.ifCond .eq 6, 3) := by decide +kernel
theorem dX7_nameNow_195 : decode cX7_nameNow 195 = .ok (.bipush 13, 2) := by decide +kernel
theorem dX7_nameNow_197 : decode cX7_nameNow 197 = .ok (.ireturn, 1) := by decide +kernel
theorem dX7_nameNow_198 : decode cX7_nameNow 198 = .ok (.aload_n 0, 1) := by decide +kernel
theorem dX7_nameNow_199 : decode cX7_nameNow 199 = .ok (.iconst 5, 1) := by decide +kernel
theorem dX7_nameNow_200 : decode cX7_nameNow 200 = .ok (.bipush 103, 2) := by decide +kernel
theorem dX7_nameNow_202 : decode cX7_nameNow 202 = .ok (.bipush 117, 2) := by decide +kernel
theorem dX7_nameNow_204 : decode cX7_nameNow 204 = .ok (.bipush 101, 2) := by decide +kernel
theorem dX7_nameNow_206 : decode cX7_nameNow 206 = .ok (.bipush 115, 2) := by decide +kernel
theorem dX7_nameNow_208 : decode cX7_nameNow 208 = .ok (.invokevirtual 162, 3) := by decide +kernel
theorem dX7_nameNow_211 : decode cX7_nameNow 211 = .ok (.ifCond .eq 16, 3) := by decide +kernel
theorem dX7_nameNow_214 : decode cX7_nameNow 214 = .ok (.aload_n 0, 1) := by decide +kernel
theorem dX7_nameNow_215 : decode cX7_nameNow 215 = .ok (.bipush 116, 2) := by decide +kernel
theorem dX7_nameNow_217 : decode cX7_nameNow 217 = .ok (.iconst 0, 1) := by decide +kernel
theorem dX7_nameNow_218 : decode cX7_nameNow 218 = .ok (.invokevirtual 166, 3) := by decide +kernel
theorem dX7_nameNow_221 : decode cX7_nameNow 221 = .ok (.ifCond .eq 6, 3) := by decide +kernel
theorem dX7_nameNow_224 : decode cX7_nameNow 224 = .ok (.bipush 14, 2) := by decide +kernel
theorem dX7_nameNow_226 : decode cX7_nameNow 226 = .ok (.ireturn, 1) := by decide +kernel
theorem dX7_nameNow_227 : decode cX7_nameNow 227 = .ok (.aload_n 0, 1) := by decide +kernel
theorem dX7_nameNow_228 : decode cX7_nameNow 228 = .ok (.bipush 6, 2) := by decide +kernel
theorem dX7_nameNow_230 : decode cX7_nameNow 230 = .ok (.bipush 108, 2) := by decide +kernel
theorem dX7_nameNow_232 : decode cX7_nameNow 232 = .ok (.bipush 101, 2) := by decide +kernel
theorem dX7_nameNow_234 : decode cX7_nameNow 234 = .ok (.bipush 97, 2) := by decide +kernel
theorem dX7_nameNow_236 : decode cX7_nameNow 236 = .ok (.bipush 118, 2) := by decide +kernel
theorem dX7_nameNow_238 : decode cX7_nameNow 238 = .ok (.invokevirtual 162, 3) := by decide +kernel
theorem dX7_nameNow_241 : decode cX7_nameNow 241 = .ok (.ifCond .eq 17, 3) := by decide +kernel
theorem dX7_nameNow_244 : decode cX7_nameNow 244 = .ok (.aload_n 0, 1) := by decide +kernel
theorem dX7_nameNow_245 : decode cX7_nameNow 245 = .ok (.bipush 101, 2) := by decide +kernel
theorem dX7_nameNow_247 : decode cX7_nameNow 247 = .ok (.bipush 115, 2) := by decide +kernel
theorem dX7_nameNow_249 : decode cX7_nameNow 249 = .ok (.invokevirtual 166, 3) := by decide +kernel
theorem dX7_nameNow_252 : decode cX7_nameNow 252 = .ok (.ifCond .eq 6, 3) := by decide +kernel
theorem dX7_nameNow_255 : decode cX7_nameNow 255 = .ok (.bipush 15, 2) := by decide +kernel
theorem dX7_nameNow_257 : decode cX7_nameNow 257 = .ok (.ireturn, 1) := by decide +kernel
theorem dX7_nameNow_258 : decode cX7_nameNow 258 = .ok (.aload_n 0, 1) := by decide +kernel
theorem dX7_nameNow_259 : decode cX7_nameNow 259 = .ok (.iconst 4, 1) := by decide +kernel
theorem dX7_nameNow_260 : decode cX7_nameNow 260 = .ok (.bipush 108, 2) := by decide +kernel
theorem dX7_nameNow_262 : decode cX7_nameNow 262 = .ok (.bipush 105, 2) := by decide +kernel
theorem dX7_nameNow_264 : decode cX7_nameNow 264 = .ok (.bipush 107, 2) := by decide +kernel
theorem dX7_nameNow_266 : decode cX7_nameNow 266 = .ok (.bipush 101, 2) := by decide +kernel
theorem dX7_nameNow_268 : decode cX7_nameNow 268 = .ok (.invokevirtual 162, 3) := by decide +kernel
theorem dX7_nameNow_271 : decode cX7_nameNow 271 = .ok (.ifCond .eq 8, 3) := by decide +kernel
theorem dX7_nameNow_274 : decode cX7_nameNow 274 = .ok (.bipush 16, 2) := by decide +kernel
theorem dX7_nameNow_276 : decode cX7_nameNow 276 = .ok (.goto 26, 3) := by decide +kernel
theorem dX7_nameNow_279 : decode cX7_nameNow 279 = .ok (.aload_n 0, 1) := by decide +kernel
theorem dX7_nameNow_280 : decode cX7_nameNow 280 = .ok (.iconst 4, 1) := by decide +kernel
theorem dX7_nameNow_281 : decode cX7_nameNow 281 = .ok (.bipush 119, 2) := by decide +kernel
theorem dX7_nameNow_283 : decode cX7_nameNow 283 = .ok (.bipush 111, 2) := by decide +kernel
theorem dX7_nameNow_285 : decode cX7_nameNow 285 = .ok (.bipush 110, 2) := by decide +kernel
theorem dX7_nameNow_287 : decode cX7_nameNow 287 = .ok (.bipush 116, 2) := by decide +kernel
theorem dX7_nameNow_289 : decode cX7_nameNow 289 = .ok (.invokevirtual 162, 3) := by decide +kernel
theorem dX7_nameNow_292 : decode cX7_nameNow 292 = .ok (.ifCond .eq 8, 3) := by decide +kernel
theorem dX7_nameNow_295 : decode cX7_nameNow 295 = .ok (.bipush 17, 2) := by decide +kernel
theorem dX7_nameNow_297 : decode cX7_nameNow 297 = .ok (.goto 5, 3) := by decide +kernel
theorem dX7_nameNow_300 : decode cX7_nameNow 300 = .ok (.bipush (-4), 2) := by decide +kernel
theorem dX7_nameNow_302 : decode cX7_nameNow 302 = .ok (.ireturn, 1) := by decide +kernel
theorem dX7_next_0 : decode cX7_next 0 = .ok (.aload_n 0, 1) := by decide +kernel
theorem dX7_next_1 : decode cX7_next 1 = .ok (.getfield 146, 3) := by decide +kernel
theorem dX7_next_4 : decode cX7_next 4 = .ok (.ifCond .le 4, 3) := by decide +kernel
theorem dX7_next_7 : decode cX7_next 7 = .ok (.return_, 1) := by decide +kernel
theorem dX7_next_8 : decode cX7_next 8 = .ok (.aload_n 0, 1) := by decide +kernel
theorem dX7_next_9 : decode cX7_next 9 = .ok (.aload_n 0, 1) := by decide +kernel
theorem dX7_next_10 : decode cX7_next 10 = .ok (.getfield 155, 3) := by decide +kernel
theorem dX7_next_13 : decode cX7_next 13 = .ok (.invokevirtual 158, 3) := by decide +kernel
theorem dX7_next_16 : decode cX7_next 16 = .ok (.bipush 32, 2) := by decide +kernel
theorem dX7_next_18 : decode cX7_next 18 = .ok (.if_icmp .ne 16, 3) := by decide +kernel
theorem dX7_next_21 : decode cX7_next 21 = .ok (.aload_n 0, 1) := by decide +kernel
theorem dX7_next_22 : decode cX7_next 22 = .ok (.dup, 1) := by decide +kernel
theorem dX7_next_23 : decode cX7_next 23 = .ok (.getfield 155, 3) := by decide +kernel
theorem dX7_next_26 : decode cX7_next 26 = .ok (.iconst 1, 1) := by decide +kernel
theorem dX7_next_27 : decode cX7_next 27 = .ok (.iadd, 1) := by decide +kernel
theorem dX7_next_28 : decode cX7_next 28 = .ok (.putfield 155, 3) := by decide +kernel
theorem dX7_next_31 : decode cX7_next 31 = .ok (.goto (-23), 3) := by decide +kernel
theorem dX7_next_34 : decode cX7_next 34 = .ok (.aload_n 0, 1) := by decide +kernel
theorem dX7_next_35 : decode cX7_next 35 = .ok (.aload_n 0, 1) := by decide +kernel
theorem dX7_next_36 : decode cX7_next 36 = .ok (.getfield 155, 3) := by decide +kernel
theorem dX7_next_39 : decode cX7_next 39 = .ok (.putfield 149, 3) := by decide +kernel
theorem dX7_next_42 : decode cX7_next 42 = .ok (.aload_n 0, 1) := by decide +kernel
theorem dX7_next_43 : decode cX7_next 43 = .ok (.aload_n 0, 1) := by decide +kernel
theorem dX7_next_44 : decode cX7_next 44 = .ok (.getfield 155, 3) := by decide +kernel
theorem dX7_next_47 : decode cX7_next 47 = .ok (.invokevirtual 158, 3) := by decide +kernel
theorem dX7_next_50 : decode cX7_next 50 = .ok (.istore_n 1, 1) := by decide +kernel
theorem dX7_next_51 : decode cX7_next 51 = .ok (.iload_n 1, 1) := by decide +kernel
theorem dX7_next_52 : decode cX7_next 52 = .ok (.ifCond .ge 11, 3) := by decide +kernel
theorem dX7_next_55 : decode cX7_next 55 = .ok (.aload_n 0, 1) := by decide +kernel
theorem dX7_next_56 : decode cX7_next 56 = .ok (.iconst 0, 1) := by decide +kernel
theorem dX7_next_57 : decode cX7_next 57 = .ok (.putfield 170, 3) := by decide +kernel
theorem dX7_next_60 : decode cX7_next 60 = .ok (.goto 214, 3) := by decide +kernel
theorem dX7_next_63 : decode cX7_next 63 = .ok (.iload_n 1, 1) := by decide +kernel
theorem dX7_next_64 : decode cX7_next 64 = .ok (.i2l, 1) := by decide +kernel
theorem dX7_next_65 : decode cX7_next 65 = .ok (.ldc2_w 173, 3) := by decide +kernel
theorem dX7_next_68 : decode cX7_next 68 = .ok (.ldc2_w 175, 3) := by decide +kernel
theorem dX7_next_71 : decode cX7_next 71 = .ok (.invokestatic 134, 3) := by decide +kernel
theorem dX7_next_74 : decode cX7_next 74 = .ok (.ifCond .eq 42, 3) := by decide +kernel
theorem dX7_next_77 : decode cX7_next 77 = .ok (.aload_n 0, 1) := by decide +kernel
theorem dX7_next_78 : decode cX7_next 78 = .ok (.iconst 1, 1) := by decide +kernel
theorem dX7_next_79 : decode cX7_next 79 = .ok (.putfield 170, 3) := by decide +kernel
theorem dX7_next_82 : decode cX7_next 82 = .ok (.aload_n 0, 1) := by decide +kernel
theorem dX7_next_83 : decode cX7_next 83 = .ok (.aload_n 0, 1) := by decide +kernel
theorem dX7_next_84 : decode cX7_next 84 = .ok (.getfield 155, 3) := by decide +kernel
theorem dX7_next_87 : decode cX7_next 87 = .ok (.invokevirtual 158, 3) := by decide +kernel
theorem dX7_next_90 : decode cX7_next 90 = .ok (.i2l, 1) := by decide +kernel
theorem dX7_next_91 : decode cX7_next 91 = .ok (.ldc2_w 173, 3) := by decide +kernel
theorem dX7_next_94 : decode cX7_next 94 = .ok (.ldc2_w 175, 3) := by decide +kernel
theorem dX7_next_97 : decode cX7_next 97 = .ok (.invokestatic 134, 3) := by decide +kernel
theorem dX7_next_100 : decode cX7_next 100 = .ok (.ifCond .eq 174, 3) := by decide +kernel
theorem dX7_next_103 : decode cX7_next 103 = .ok (.aload_n 0, 1) := by decide +kernel
theorem dX7_next_104 : decode cX7_next 104 = .ok (.dup, 1) := by decide +kernel
theorem dX7_next_105 : decode cX7_next 105 = .ok (.getfield 155, 3) := by decide +kernel
theorem dX7_next_108 : decode cX7_next 108 = .ok (.iconst 1, 1) := by decide +kernel
theorem dX7_next_109 : decode cX7_next 109 = .ok (.iadd, 1) := by decide +kernel
theorem dX7_next_110 : decode cX7_next 110 = .ok (.putfield 155, 3) := by decide +kernel
theorem dX7_next_113 : decode cX7_next 113 = .ok (.goto (-31), 3) := by decide +kernel
theorem dX7_next_116 : decode cX7_next 116 = .ok (.iload_n 1, 1) := by decide +kernel
theorem dX7_next_117 : decode cX7_next 117 = .ok (.i2l, 1) := by decide +kernel
theorem dX7_next_118 : decode cX7_next 118 = .ok (.ldc2_w 177, 3) := by decide +kernel
theorem dX7_next_121 : decode cX7_next 121 = .ok (.ldc2_w 179, 3) := by decide +kernel
theorem dX7_next_124 : decode cX7_next 124 = .ok (.invokestatic 134, 3) := by decide +kernel
theorem dX7_next_127 : decode cX7_next 127 = .ok (.ifCond .eq 116, 3) := by decide +kernel
theorem dX7_next_130 : decode cX7_next 130 = .ok (.aload_n 0, 1) := by decide +kernel
theorem dX7_next_131 : decode cX7_next 131 = .ok (.iconst 2, 1) := by decide +kernel
theorem dX7_next_132 : decode cX7_next 132 = .ok (.putfield 170, 3) := by decide +kernel
theorem dX7_next_135 : decode cX7_next 135 = .ok (.aload_n 0, 1) := by decide +kernel
theorem dX7_next_136 : decode cX7_next 136 = .ok (.iconst 0, 1) := by decide +kernel
theorem dX7_next_137 : decode cX7_next 137 = .ok (.putfield 181, 3) := by decide +kernel
theorem dX7_next_140 : decode cX7_next 140 = .ok (.aload_n 0, 1) := by decide +kernel
theorem dX7_next_141 : decode cX7_next 141 = .ok (.aload_n 0, 1) := by decide +kernel
theorem dX7_next_142 : decode cX7_next 142 = .ok (.getfield 155, 3) := by decide +kernel
theorem dX7_next_145 : decode cX7_next 145 = .ok (.invokevirtual 158, 3) := by decide +kernel
theorem dX7_next_148 : decode cX7_next 148 = .ok (.i2l, 1) := by decide +kernel
theorem dX7_next_149 : decode cX7_next 149 = .ok (.ldc2_w 177, 3) := by decide +kernel
theorem dX7_next_152 : decode cX7_next 152 = .ok (.ldc2_w 179, 3) := by decide +kernel
theorem dX7_next_155 : decode cX7_next 155 = .ok (.invokestatic 134, 3) := by decide +kernel
theorem dX7_next_158 : decode cX7_next 158 = .ok (.ifCond .eq 59, 3) := by decide +kernel
theorem dX7_next_161 : decode cX7_next 161 = .ok (.aload_n 0, 1) := by decide +kernel
theorem dX7_next_162 : decode cX7_next 162 = .ok (.aload_n 0, 1) := by decide +kernel
theorem dX7_next_163 : decode cX7_next 163 = .ok (.getfield 155, 3) := by decide +kernel
theorem dX7_next_166 : decode cX7_next 166 = .ok (.aload_n 0, 1) := by decide +kernel
theorem dX7_next_167 : decode cX7_next 167 = .ok (.getfield 149, 3) := by decide +kernel
theorem dX7_next_170 : decode cX7_next 170 = .ok (.isub, 1) := by decide +kernel
theorem dX7_next_171 : decode cX7_next 171 = .ok (.iconst 2, 1) := by decide +kernel
theorem dX7_next_172 : decode cX7_next 172 = .ok (.if_icmp .ge 25, 3) := by decide +kernel
theorem dX7_next_175 : decode cX7_next 175 = .ok (.bipush 10, 2) := by decide +kernel
theorem dX7_next_177 : decode cX7_next 177 = .ok (.aload_n 0, 1) := by decide +kernel
theorem dX7_next_178 : decode cX7_next 178 = .ok (.getfield 181, 3) := by decide +kernel
theorem dX7_next_181 : decode cX7_next 181 = .ok (.imul, 1) := by decide +kernel
theorem dX7_next_182 : decode cX7_next 182 = .ok (.aload_n 0, 1) := by decide +kernel
theorem dX7_next_183 : decode cX7_next 183 = .ok (.aload_n 0, 1) := by decide +kernel
theorem dX7_next_184 : decode cX7_next 184 = .ok (.getfield 155, 3) := by decide +kernel
theorem dX7_next_187 : decode cX7_next 187 = .ok (.invokevirtual 158, 3) := by decide +kernel
theorem dX7_next_190 : decode cX7_next 190 = .ok (.iadd, 1) := by decide +kernel
theorem dX7_next_191 : decode cX7_next 191 = .ok (.bipush 48, 2) := by decide +kernel
theorem dX7_next_193 : decode cX7_next 193 = .ok (.isub, 1) := by decide +kernel
theorem dX7_next_194 : decode cX7_next 194 = .ok (.goto 7, 3) := by decide +kernel
theorem dX7_next_197 : decode cX7_next 197 = .ok (.aload_n 0, 1) := by decide +kernel
theorem dX7_next_198 : decode cX7_next 198 = .ok (.getfield 181, 3) := by decide +kernel
theorem dX7_next_201 : decode cX7_next 201 = .ok (.putfield 181, 3) := by decide +kernel
theorem dX7_next_204 : decode cX7_next 204 = .ok (.aload_n 0, 1) := by decide +kernel
theorem dX7_next_205 : decode cX7_next 205 = .ok (.dup, 1) := by decide +kernel
theorem dX7_next_206 : decode cX7_next 206 = .ok (.getfield 155, 3) := by decide +kernel
theorem dX7_next_209 : decode cX7_next 209 = .ok (.iconst 1, 1) := by decide +kernel
theorem dX7_next_210 : decode cX7_next 210 = .ok (.iadd, 1) := by decide +kernel
theorem dX7_next_211 : decode cX7_next 211 = .ok (.putfield 155, 3) := by decide +kernel
theorem dX7_next_214 : decode cX7_next 214 = .ok (.goto (-74), 3) := by decide +kernel
theorem dX7_next_217 : decode cX7_next 217 = .ok (.aload_n 0, 1) := by decide +kernel
theorem dX7_next_218 : decode cX7_next 218 = .ok (.aload_n 0, 1) := by decide +kernel
theorem dX7_next_219 : decode cX7_next 219 = .ok (.getfield 155, 3) := by decide +kernel
theorem dX7_next_222 : decode cX7_next 222 = .ok (.aload_n 0, 1) := by decide +kernel
theorem dX7_next_223 : decode cX7_next 223 = .ok (.getfield 149, 3) := by decide +kernel
theorem dX7_next_226 : decode cX7_next 226 = .ok (.isub, 1) := by decide +kernel
theorem dX7_next_227 : decode cX7_next 227 = .ok (.iconst 2, 1) := by decide +kernel
theorem dX7_next_228 : decode cX7_next 228 = .ok (.if_icmp .gt 7, 3) := by decide +kernel
theorem dX7_next_231 : decode cX7_next 231 = .ok (.iconst 1, 1) := by decide +kernel
theorem dX7_next_232 : decode cX7_next 232 = .ok (.goto 4, 3) := by decide +kernel
theorem dX7_next_235 : decode cX7_next 235 = .ok (.iconst 0, 1) := by decide +kernel
theorem dX7_next_236 : decode cX7_next 236 = .ok (.iconst 1, 1) := by decide +kernel
theorem dX7_next_237 : decode cX7_next 237 = .ok (.invokevirtual 184, 3) := by decide +kernel
theorem dX7_next_240 : decode cX7_next 240 = .ok (.goto 34, 3) := by decide +kernel
theorem dX7_next_243 : decode cX7_next 243 = .ok (.aload_n 0, 1) := by decide +kernel
theorem dX7_next_244 : decode cX7_next 244 = .ok (.iconst 3, 1) := by decide +kernel
theorem dX7_next_245 : decode cX7_next 245 = .ok (.putfield 170, 3) := by decide +kernel
theorem dX7_next_248 : decode cX7_next 248 = .ok (.aload_n 0, 1) := by decide +kernel
theorem dX7_next_249 : decode cX7_next 249 = .ok (.iload_n 1, 1) := by decide +kernel
theorem dX7_next_250 : decode cX7_next 250 = .ok (.bipush 59, 2) := by decide +kernel
theorem dX7_next_252 : decode cX7_next 252 = .ok (.if_icmp .ne 7, 3) := by decide +kernel
theorem dX7_next_255 : decode cX7_next 255 = .ok (.iconst 1, 1) := by decide +kernel
theorem dX7_next_256 : decode cX7_next 256 = .ok (.goto 4, 3) := by decide +kernel
theorem dX7_next_259 : decode cX7_next 259 = .ok (.iconst 0, 1) := by decide +kernel
theorem dX7_next_260 : decode cX7_next 260 = .ok (.iconst 1, 1) := by decide +kernel
theorem dX7_next_261 : decode cX7_next 261 = .ok (.invokevirtual 184, 3) := by decide +kernel
theorem dX7_next_264 : decode cX7_next 264 = .ok (.aload_n 0, 1) := by decide +kernel
theorem dX7_next_265 : decode cX7_next 265 = .ok (.dup, 1) := by decide +kernel
theorem dX7_next_266 : decode cX7_next 266 = .ok (.getfield 155, 3) := by decide +kernel
theorem dX7_next_269 : decode cX7_next 269 = .ok (.iconst 1, 1) := by decide +kernel
theorem dX7_next_270 : decode cX7_next 270 = .ok (.iadd, 1) := by decide +kernel
theorem dX7_next_271 : decode cX7_next 271 = .ok (.putfield 155, 3) := by decide +kernel
theorem dX7_next_274 : decode cX7_next 274 = .ok (.return_, 1) := by decide +kernel
theorem dX7_isNumber_0 : decode cX7_isNumber 0 = .ok (.aload_n 0, 1) := by decide +kernel
theorem dX7_isNumber_1 : decode cX7_isNumber 1 = .ok (.getfield 146, 3) := by decide +kernel
theorem dX7_isNumber_4 : decode cX7_isNumber 4 = .ok (.ifCond .ne 21, 3) := by decide +kernel
theorem dX7_isNumber_7 : decode cX7_isNumber 7 = .ok (.aload_n 0, 1) := by decide +kernel
theorem dX7_isNumber_8 : decode cX7_isNumber 8 = .ok (.aload_n 0, 1) := by decide +kernel
theorem dX7_isNumber_9 : decode cX7_isNumber 9 = .ok (.getfield 170, 3) := by decide +kernel
theorem dX7_isNumber_12 : decode cX7_isNumber 12 = .ok (.iconst 2, 1) := by decide +kernel
theorem dX7_isNumber_13 : decode cX7_isNumber 13 = .ok (.if_icmp .ne 7, 3) := by decide +kernel
theorem dX7_isNumber_16 : decode cX7_isNumber 16 = .ok (.iconst 1, 1) := by decide +kernel
theorem dX7_isNumber_17 : decode cX7_isNumber 17 = .ok (.goto 4, 3) := by decide +kernel
theorem dX7_isNumber_20 : decode cX7_isNumber 20 = .ok (.iconst 0, 1) := by decide +kernel
theorem dX7_isNumber_21 : decode cX7_isNumber 21 = .ok (.iconst 2, 1) := by decide +kernel
theorem dX7_isNumber_22 : decode cX7_isNumber 22 = .ok (.invokevirtual 184, 3) := by decide +kernel
theorem dX7_isNumber_25 : decode cX7_isNumber 25 = .ok (.aload_n 0, 1) := by decide +kernel
theorem dX7_isNumber_26 : decode cX7_isNumber 26 = .ok (.getfield 146, 3) := by decide +kernel
theorem dX7_isNumber_29 : decode cX7_isNumber 29 = .ok (.ifCond .ne 20, 3) := by decide +kernel
theorem dX7_isNumber_32 : decode cX7_isNumber 32 = .ok (.aload_n 0, 1) := by decide +kernel
theorem dX7_isNumber_33 : decode cX7_isNumber 33 = .ok (.aload_n 0, 1) := by decide +kernel
theorem dX7_isNumber_34 : decode cX7_isNumber 34 = .ok (.getfield 181, 3) := by decide +kernel
theorem dX7_isNumber_37 : decode cX7_isNumber 37 = .ok (.i2l, 1) := by decide +kernel
theorem dX7_isNumber_38 : decode cX7_isNumber 38 = .ok (.iload_n 1, 1) := by decide +kernel
theorem dX7_isNumber_39 : decode cX7_isNumber 39 = .ok (.i2l, 1) := by decide +kernel
theorem dX7_isNumber_40 : decode cX7_isNumber 40 = .ok (.iload_n 2, 1) := by decide +kernel
theorem dX7_isNumber_41 : decode cX7_isNumber 41 = .ok (.i2l, 1) := by decide +kernel
theorem dX7_isNumber_42 : decode cX7_isNumber 42 = .ok (.invokestatic 134, 3) := by decide +kernel
theorem dX7_isNumber_45 : decode cX7_isNumber 45 = .ok (.iconst 3, 1) := by decide +kernel
theorem dX7_isNumber_46 : decode cX7_isNumber 46 = .ok (.invokevirtual 184, 3) := by decide +kernel
theorem dX7_isNumber_49 : decode cX7_isNumber 49 = .ok (.return_, 1) := by decide +kernel
theorem dX7_readNumber_0 : decode cX7_readNumber 0 = .ok (.aload_n 0, 1) := by decide +kernel
theorem dX7_readNumber_1 : decode cX7_readNumber 1 = .ok (.iload_n 1, 1) := by decide +kernel
theorem dX7_readNumber_2 : decode cX7_readNumber 2 = .ok (.iload_n 2, 1) := by decide +kernel
theorem dX7_readNumber_3 : decode cX7_readNumber 3 = .ok (.invokevirtual 188, 3) := by decide +kernel
theorem dX7_readNumber_6 : decode cX7_readNumber 6 = .ok (.aload_n 0, 1) := by decide +kernel
theorem dX7_readNumber_7 : decode cX7_readNumber 7 = .ok (.getfield 181, 3) := by decide +kernel
theorem dX7_readNumber_10 : decode cX7_readNumber 10 = .ok (.istore_n 3, 1) := by decide +kernel
theorem dX7_readNumber_11 : decode cX7_readNumber 11 = .ok (.aload_n 0, 1) := by decide +kernel
theorem dX7_readNumber_12 : decode cX7_readNumber 12 = .ok (.invokevirtual 192, 3) := by decide +kernel
theorem dX7_readNumber_15 : decode cX7_readNumber 15 = .ok (.iload_n 3, 1) := by decide +kernel
theorem dX7_readNumber_16 : decode cX7_readNumber 16 = .ok (.ireturn, 1) := by decide +kernel
theorem dX7_letters_0 : decode cX7_letters 0 = .ok (.iconst 0, 1) := by decide +kernel
theorem dX7_letters_1 : decode cX7_letters 1 = .ok (.istore_n 3, 1) := by decide +kernel
theorem dX7_letters_2 : decode cX7_letters 2 = .ok (.aload_n 0, 1) := by decide +kernel
theorem dX7_letters_3 : decode cX7_letters 3 = .ok (.getfield 149, 3) := by decide +kernel
theorem dX7_letters_6 : decode cX7_letters 6 = .ok (.istore 4, 2) := by decide +kernel
theorem dX7_letters_8 : decode cX7_letters 8 = .ok (.iload 4, 2) := by decide +kernel
theorem dX7_letters_10 : decode cX7_letters 10 = .ok (.aload_n 0, 1) := by decide +kernel
theorem dX7_letters_11 : decode cX7_letters 11 = .ok (.getfield 155, 3) := by decide +kernel
theorem dX7_letters_14 : decode cX7_letters 14 = .ok (.if_icmp .ge 53, 3) := by decide +kernel
theorem dX7_letters_17 : decode cX7_letters 17 = .ok (.aload_n 0, 1) := by decide +kernel
theorem dX7_letters_18 : decode cX7_letters 18 = .ok (.iload 4, 2) := by decide +kernel
theorem dX7_letters_20 : decode cX7_letters 20 = .ok (.invokevirtual 158, 3) := by decide +kernel
theorem dX7_letters_23 : decode cX7_letters 23 = .ok (.iload_n 1, 1) := by decide +kernel
theorem dX7_letters_24 : decode cX7_letters 24 = .ok (.isub, 1) := by decide +kernel
theorem dX7_letters_25 : decode cX7_letters 25 = .ok (.istore 5, 2) := by decide +kernel
theorem dX7_letters_27 : decode cX7_letters 27 = .ok (.iload 5, 2) := by decide +kernel
theorem dX7_letters_29 : decode cX7_letters 29 = .ok (.i2l, 1) := by decide +kernel
theorem dX7_letters_30 : decode cX7_letters 30 = .ok (.lconst 0, 1) := by decide +kernel
theorem dX7_letters_31 : decode cX7_letters 31 = .ok (.iload_n 2, 1) := by decide +kernel
theorem dX7_letters_32 : decode cX7_letters 32 = .ok (.iconst 1, 1) := by decide +kernel
theorem dX7_letters_33 : decode cX7_letters 33 = .ok (.isub, 1) := by decide +kernel
theorem dX7_letters_34 : decode cX7_letters 34 = .ok (.i2l, 1) := by decide +kernel
theorem dX7_letters_35 : decode cX7_letters 35 = .ok (.invokestatic 134, 3) := by decide +kernel
theorem dX7_letters_38 : decode cX7_letters 38 = .ok (.ifCond .eq 13, 3) := by decide +kernel
theorem dX7_letters_41 : decode cX7_letters 41 = .ok (.iload_n 3, 1) := by decide +kernel
theorem dX7_letters_42 : decode cX7_letters 42 = .ok (.iload 5, 2) := by decide +kernel
theorem dX7_letters_44 : decode cX7_letters 44 = .ok (.ishr, 1) := by decide +kernel
theorem dX7_letters_45 : decode cX7_letters 45 = .ok (.iconst 1, 1) := by decide +kernel
theorem dX7_letters_46 : decode cX7_letters 46 = .ok (.iand, 1) := by decide +kernel
theorem dX7_letters_47 : decode cX7_letters 47 = .ok (.iconst 1, 1) := by decide +kernel
theorem dX7_letters_48 : decode cX7_letters 48 = .ok (.if_icmp .ne 6, 3) := by decide +kernel
theorem dX7_letters_51 : decode cX7_letters 51 = .ok (.bipush (-4), 2) := by decide +kernel
theorem dX7_letters_53 : decode cX7_letters 53 = .ok (.ireturn, 1) := by decide +kernel
theorem dX7_letters_54 : decode cX7_letters 54 = .ok (.iload_n 3, 1) := by decide +kernel
theorem dX7_letters_55 : decode cX7_letters 55 = .ok (.iconst 1, 1) := by decide +kernel
theorem dX7_letters_56 : decode cX7_letters 56 = .ok (.iload 5, 2) := by decide +kernel
theorem dX7_letters_58 : decode cX7_letters 58 = .ok (.ishl, 1) := by decide +kernel
theorem dX7_letters_59 : decode cX7_letters 59 = .ok (.ior, 1) := by decide +kernel
theorem dX7_letters_60 : decode cX7_letters 60 = .ok (.istore_n 3, 1) := by decide +kernel
theorem dX7_letters_61 : decode cX7_letters 61 = .ok (.iinc 4 1, 3) := by decide +kernel
theorem dX7_letters_64 : decode cX7_letters 64 = .ok (.goto (-56), 3) := by decide +kernel
theorem dX7_letters_67 : decode cX7_letters 67 = .ok (.iload_n 3, 1) := by decide +kernel
theorem dX7_letters_68 : decode cX7_letters 68 = .ok (.ireturn, 1) := by decide +kernel
theorem dX7_uses_0 : decode cX7_uses 0 = .ok (.aload_n 0, 1) := by decide +kernel
theorem dX7_uses_1 : decode cX7_uses 1 = .ok (.getfield 146, 3) := by decide +kernel
theorem dX7_uses_4 : decode cX7_uses 4 = .ok (.ifCond .ne 33, 3) := by decide +kernel
theorem dX7_uses_7 : decode cX7_uses 7 = .ok (.aload_n 0, 1) := by decide +kernel
theorem dX7_uses_8 : decode cX7_uses 8 = .ok (.getfield 40, 3) := by decide +kernel
theorem dX7_uses_11 : decode cX7_uses 11 = .ok (.aload_n 0, 1) := by decide +kernel
theorem dX7_uses_12 : decode cX7_uses 12 = .ok (.getfield 112, 3) := by decide +kernel
theorem dX7_uses_15 : decode cX7_uses 15 = .ok (.iload_n 1, 1) := by decide +kernel
theorem dX7_uses_16 : decode cX7_uses 16 = .ok (.iastore, 1) := by decide +kernel
theorem dX7_uses_17 : decode cX7_uses 17 = .ok (.aload_n 0, 1) := by decide +kernel
theorem dX7_uses_18 : decode cX7_uses 18 = .ok (.getfield 43, 3) := by decide +kernel
theorem dX7_uses_21 : decode cX7_uses 21 = .ok (.aload_n 0, 1) := by decide +kernel
theorem dX7_uses_22 : decode cX7_uses 22 = .ok (.getfield 112, 3) := by decide +kernel
theorem dX7_uses_25 : decode cX7_uses 25 = .ok (.iload_n 2, 1) := by decide +kernel
theorem dX7_uses_26 : decode cX7_uses 26 = .ok (.iastore, 1) := by decide +kernel
theorem dX7_uses_27 : decode cX7_uses 27 = .ok (.aload_n 0, 1) := by decide +kernel
theorem dX7_uses_28 : decode cX7_uses 28 = .ok (.dup, 1) := by decide +kernel
theorem dX7_uses_29 : decode cX7_uses 29 = .ok (.getfield 112, 3) := by decide +kernel
theorem dX7_uses_32 : decode cX7_uses 32 = .ok (.iconst 1, 1) := by decide +kernel
theorem dX7_uses_33 : decode cX7_uses 33 = .ok (.iadd, 1) := by decide +kernel
theorem dX7_uses_34 : decode cX7_uses 34 = .ok (.putfield 112, 3) := by decide +kernel
theorem dX7_uses_37 : decode cX7_uses 37 = .ok (.return_, 1) := by decide +kernel
theorem dX7_readWants_0 : decode cX7_readWants 0 = .ok (.iconst 0, 1) := by decide +kernel
theorem dX7_readWants_1 : decode cX7_readWants 1 = .ok (.istore_n 2, 1) := by decide +kernel
theorem dX7_readWants_2 : decode cX7_readWants 2 = .ok (.aload_n 0, 1) := by decide +kernel
theorem dX7_readWants_3 : decode cX7_readWants 3 = .ok (.getfield 146, 3) := by decide +kernel
theorem dX7_readWants_6 : decode cX7_readWants 6 = .ok (.ifCond .ne 189, 3) := by decide +kernel
theorem dX7_readWants_9 : decode cX7_readWants 9 = .ok (.aload_n 0, 1) := by decide +kernel
theorem dX7_readWants_10 : decode cX7_readWants 10 = .ok (.getfield 170, 3) := by decide +kernel
theorem dX7_readWants_13 : decode cX7_readWants 13 = .ok (.iconst 1, 1) := by decide +kernel
theorem dX7_readWants_14 : decode cX7_readWants 14 = .ok (.if_icmp .ne 181, 3) := by decide +kernel
theorem dX7_readWants_17 : decode cX7_readWants 17 = .ok (.aload_n 0, 1) := by decide +kernel
theorem dX7_readWants_18 : decode cX7_readWants 18 = .ok (.invokevirtual 195, 3) := by decide +kernel
theorem dX7_readWants_21 : decode cX7_readWants 21 = .ok (.i2l, 1) := by decide +kernel
theorem dX7_readWants_22 : decode cX7_readWants 22 = .ok (.ldc2_w 199, 3) := by decide +kernel
theorem dX7_readWants_25 : decode cX7_readWants 25 = .ok (.ldc2_w 201, 3) := by decide +kernel
theorem dX7_readWants_28 : decode cX7_readWants 28 = .ok (.invokestatic 134, 3) := by decide +kernel
theorem dX7_readWants_31 : decode cX7_readWants 31 = .ok (.ifCond .eq 16, 3) := by decide +kernel
theorem dX7_readWants_34 : decode cX7_readWants 34 = .ok (.iload_n 1, 1) := by decide +kernel
theorem dX7_readWants_35 : decode cX7_readWants 35 = .ok (.ifCond .eq 160, 3) := by decide +kernel
theorem dX7_readWants_38 : decode cX7_readWants 38 = .ok (.aload_n 0, 1) := by decide +kernel
theorem dX7_readWants_39 : decode cX7_readWants 39 = .ok (.invokevirtual 195, 3) := by decide +kernel
theorem dX7_readWants_42 : decode cX7_readWants 42 = .ok (.bipush 15, 2) := by decide +kernel
theorem dX7_readWants_44 : decode cX7_readWants 44 = .ok (.if_icmp .ne 151, 3) := by decide +kernel
theorem dX7_readWants_47 : decode cX7_readWants 47 = .ok (.aload_n 0, 1) := by decide +kernel
theorem dX7_readWants_48 : decode cX7_readWants 48 = .ok (.aload_n 0, 1) := by decide +kernel
theorem dX7_readWants_49 : decode cX7_readWants 49 = .ok (.getfield 149, 3) := by decide +kernel
theorem dX7_readWants_52 : decode cX7_readWants 52 = .ok (.invokevirtual 158, 3) := by decide +kernel
theorem dX7_readWants_55 : decode cX7_readWants 55 = .ok (.bipush 97, 2) := by decide +kernel
theorem dX7_readWants_57 : decode cX7_readWants 57 = .ok (.isub, 1) := by decide +kernel
theorem dX7_readWants_58 : decode cX7_readWants 58 = .ok (.istore_n 3, 1) := by decide +kernel
theorem dX7_readWants_59 : decode cX7_readWants 59 = .ok (.aload_n 0, 1) := by decide +kernel
theorem dX7_readWants_60 : decode cX7_readWants 60 = .ok (.aload_n 0, 1) := by decide +kernel
theorem dX7_readWants_61 : decode cX7_readWants 61 = .ok (.getfield 155, 3) := by decide +kernel
theorem dX7_readWants_64 : decode cX7_readWants 64 = .ok (.aload_n 0, 1) := by decide +kernel
theorem dX7_readWants_65 : decode cX7_readWants 65 = .ok (.getfield 149, 3) := by decide +kernel
theorem dX7_readWants_68 : decode cX7_readWants 68 = .ok (.isub, 1) := by decide +kernel
theorem dX7_readWants_69 : decode cX7_readWants 69 = .ok (.iconst 1, 1) := by decide +kernel
theorem dX7_readWants_70 : decode cX7_readWants 70 = .ok (.if_icmp .ne 19, 3) := by decide +kernel
theorem dX7_readWants_73 : decode cX7_readWants 73 = .ok (.iload_n 3, 1) := by decide +kernel
theorem dX7_readWants_74 : decode cX7_readWants 74 = .ok (.i2l, 1) := by decide +kernel
theorem dX7_readWants_75 : decode cX7_readWants 75 = .ok (.lconst 0, 1) := by decide +kernel
theorem dX7_readWants_76 : decode cX7_readWants 76 = .ok (.ldc2_w 203, 3) := by decide +kernel
theorem dX7_readWants_79 : decode cX7_readWants 79 = .ok (.invokestatic 134, 3) := by decide +kernel
theorem dX7_readWants_82 : decode cX7_readWants 82 = .ok (.ifCond .eq 7, 3) := by decide +kernel
theorem dX7_readWants_85 : decode cX7_readWants 85 = .ok (.iconst 1, 1) := by decide +kernel
theorem dX7_readWants_86 : decode cX7_readWants 86 = .ok (.goto 4, 3) := by decide +kernel
theorem dX7_readWants_89 : decode cX7_readWants 89 = .ok (.iconst 0, 1) := by decide +kernel
theorem dX7_readWants_90 : decode cX7_readWants 90 = .ok (.iconst 3, 1) := by decide +kernel
theorem dX7_readWants_91 : decode cX7_readWants 91 = .ok (.invokevirtual 184, 3) := by decide +kernel
theorem dX7_readWants_94 : decode cX7_readWants 94 = .ok (.aload_n 0, 1) := by decide +kernel
theorem dX7_readWants_95 : decode cX7_readWants 95 = .ok (.getfield 146, 3) := by decide +kernel
theorem dX7_readWants_98 : decode cX7_readWants 98 = .ok (.ifCond .ne 21, 3) := by decide +kernel
theorem dX7_readWants_101 : decode cX7_readWants 101 = .ok (.aload_n 0, 1) := by decide +kernel
theorem dX7_readWants_102 : decode cX7_readWants 102 = .ok (.iload_n 2, 1) := by decide +kernel
theorem dX7_readWants_103 : decode cX7_readWants 103 = .ok (.iload_n 3, 1) := by decide +kernel
theorem dX7_readWants_104 : decode cX7_readWants 104 = .ok (.ishr, 1) := by decide +kernel
theorem dX7_readWants_105 : decode cX7_readWants 105 = .ok (.iconst 1, 1) := by decide +kernel
theorem dX7_readWants_106 : decode cX7_readWants 106 = .ok (.iand, 1) := by decide +kernel
theorem dX7_readWants_107 : decode cX7_readWants 107 = .ok (.ifCond .ne 7, 3) := by decide +kernel
theorem dX7_readWants_110 : decode cX7_readWants 110 = .ok (.iconst 1, 1) := by decide +kernel
theorem dX7_readWants_111 : decode cX7_readWants 111 = .ok (.goto 4, 3) := by decide +kernel
theorem dX7_readWants_114 : decode cX7_readWants 114 = .ok (.iconst 0, 1) := by decide +kernel
theorem dX7_readWants_115 : decode cX7_readWants 115 = .ok (.iconst 4, 1) := by decide +kernel
theorem dX7_readWants_116 : decode cX7_readWants 116 = .ok (.invokevirtual 184, 3) := by decide +kernel
theorem dX7_readWants_119 : decode cX7_readWants 119 = .ok (.aload_n 0, 1) := by decide +kernel
theorem dX7_readWants_120 : decode cX7_readWants 120 = .ok (.iload_n 3, 1) := by decide +kernel
theorem dX7_readWants_121 : decode cX7_readWants 121 = .ok (.aload_n 0, 1) := by decide +kernel
theorem dX7_readWants_122 : decode cX7_readWants 122 = .ok (.getfield 149, 3) := by decide +kernel
theorem dX7_readWants_125 : decode cX7_readWants 125 = .ok (.invokevirtual 205, 3) := by decide +kernel
theorem dX7_readWants_128 : decode cX7_readWants 128 = .ok (.aload_n 0, 1) := by decide +kernel
theorem dX7_readWants_129 : decode cX7_readWants 129 = .ok (.invokevirtual 192, 3) := by decide +kernel
theorem dX7_readWants_132 : decode cX7_readWants 132 = .ok (.aload_n 0, 1) := by decide +kernel
theorem dX7_readWants_133 : decode cX7_readWants 133 = .ok (.iconst 1, 1) := by decide +kernel
theorem dX7_readWants_134 : decode cX7_readWants 134 = .ok (.iconst 3, 1) := by decide +kernel
theorem dX7_readWants_135 : decode cX7_readWants 135 = .ok (.invokevirtual 208, 3) := by decide +kernel
theorem dX7_readWants_138 : decode cX7_readWants 138 = .ok (.istore 4, 2) := by decide +kernel
theorem dX7_readWants_140 : decode cX7_readWants 140 = .ok (.aload_n 0, 1) := by decide +kernel
theorem dX7_readWants_141 : decode cX7_readWants 141 = .ok (.getfield 146, 3) := by decide +kernel
theorem dX7_readWants_144 : decode cX7_readWants 144 = .ok (.ifCond .ne 48, 3) := by decide +kernel
theorem dX7_readWants_147 : decode cX7_readWants 147 = .ok (.iload_n 2, 1) := by decide +kernel
theorem dX7_readWants_148 : decode cX7_readWants 148 = .ok (.iconst 1, 1) := by decide +kernel
theorem dX7_readWants_149 : decode cX7_readWants 149 = .ok (.iload_n 3, 1) := by decide +kernel
theorem dX7_readWants_150 : decode cX7_readWants 150 = .ok (.ishl, 1) := by decide +kernel
theorem dX7_readWants_151 : decode cX7_readWants 151 = .ok (.ior, 1) := by decide +kernel
theorem dX7_readWants_152 : decode cX7_readWants 152 = .ok (.istore_n 2, 1) := by decide +kernel
theorem dX7_readWants_153 : decode cX7_readWants 153 = .ok (.iload_n 1, 1) := by decide +kernel
theorem dX7_readWants_154 : decode cX7_readWants 154 = .ok (.ifCond .eq 22, 3) := by decide +kernel
theorem dX7_readWants_157 : decode cX7_readWants 157 = .ok (.aload_n 0, 1) := by decide +kernel
theorem dX7_readWants_158 : decode cX7_readWants 158 = .ok (.getfield 34, 3) := by decide +kernel
theorem dX7_readWants_161 : decode cX7_readWants 161 = .ok (.bipush 6, 2) := by decide +kernel
theorem dX7_readWants_163 : decode cX7_readWants 163 = .ok (.aload_n 0, 1) := by decide +kernel
theorem dX7_readWants_164 : decode cX7_readWants 164 = .ok (.getfield 93, 3) := by decide +kernel
theorem dX7_readWants_167 : decode cX7_readWants 167 = .ok (.imul, 1) := by decide +kernel
theorem dX7_readWants_168 : decode cX7_readWants 168 = .ok (.iload_n 3, 1) := by decide +kernel
theorem dX7_readWants_169 : decode cX7_readWants 169 = .ok (.iadd, 1) := by decide +kernel
theorem dX7_readWants_170 : decode cX7_readWants 170 = .ok (.iload 4, 2) := by decide +kernel
theorem dX7_readWants_172 : decode cX7_readWants 172 = .ok (.iastore, 1) := by decide +kernel
theorem dX7_readWants_173 : decode cX7_readWants 173 = .ok (.goto 19, 3) := by decide +kernel
theorem dX7_readWants_176 : decode cX7_readWants 176 = .ok (.aload_n 0, 1) := by decide +kernel
theorem dX7_readWants_177 : decode cX7_readWants 177 = .ok (.getfield 31, 3) := by decide +kernel
theorem dX7_readWants_180 : decode cX7_readWants 180 = .ok (.bipush 6, 2) := by decide +kernel
theorem dX7_readWants_182 : decode cX7_readWants 182 = .ok (.aload_n 0, 1) := by decide +kernel
theorem dX7_readWants_183 : decode cX7_readWants 183 = .ok (.getfield 93, 3) := by decide +kernel
theorem dX7_readWants_186 : decode cX7_readWants 186 = .ok (.imul, 1) := by decide +kernel
theorem dX7_readWants_187 : decode cX7_readWants 187 = .ok (.iload_n 3, 1) := by decide +kernel
theorem dX7_readWants_188 : decode cX7_readWants 188 = .ok (.iadd, 1) := by decide +kernel
theorem dX7_readWants_189 : decode cX7_readWants 189 = .ok (.iload 4, 2) := by decide +kernel
theorem dX7_readWants_191 : decode cX7_readWants 191 = .ok (.iastore, 1) := by decide +kernel
theorem dX7_readWants_192 : decode cX7_readWants 192 = .ok (.goto (-190), 3) := by decide +kernel
theorem dX7_readWants_195 : decode cX7_readWants 195 = .ok (.iload_n 2, 1) := by decide +kernel
theorem dX7_readWants_196 : decode cX7_readWants 196 = .ok (.ireturn, 1) := by decide +kernel
theorem dX7_readLetters_0 : decode cX7_readLetters 0 = .ok (.aload_n 0, 1) := by decide +kernel
theorem dX7_readLetters_1 : decode cX7_readLetters 1 = .ok (.getfield 146, 3) := by decide +kernel
theorem dX7_readLetters_4 : decode cX7_readLetters 4 = .ok (.ifCond .ne 21, 3) := by decide +kernel
theorem dX7_readLetters_7 : decode cX7_readLetters 7 = .ok (.aload_n 0, 1) := by decide +kernel
theorem dX7_readLetters_8 : decode cX7_readLetters 8 = .ok (.aload_n 0, 1) := by decide +kernel
theorem dX7_readLetters_9 : decode cX7_readLetters 9 = .ok (.getfield 170, 3) := by decide +kernel
theorem dX7_readLetters_12 : decode cX7_readLetters 12 = .ok (.iconst 1, 1) := by decide +kernel
theorem dX7_readLetters_13 : decode cX7_readLetters 13 = .ok (.if_icmp .ne 7, 3) := by decide +kernel
theorem dX7_readLetters_16 : decode cX7_readLetters 16 = .ok (.iconst 1, 1) := by decide +kernel
theorem dX7_readLetters_17 : decode cX7_readLetters 17 = .ok (.goto 4, 3) := by decide +kernel
theorem dX7_readLetters_20 : decode cX7_readLetters 20 = .ok (.iconst 0, 1) := by decide +kernel
theorem dX7_readLetters_21 : decode cX7_readLetters 21 = .ok (.iconst 2, 1) := by decide +kernel
theorem dX7_readLetters_22 : decode cX7_readLetters 22 = .ok (.invokevirtual 184, 3) := by decide +kernel
theorem dX7_readLetters_25 : decode cX7_readLetters 25 = .ok (.aload_n 0, 1) := by decide +kernel
theorem dX7_readLetters_26 : decode cX7_readLetters 26 = .ok (.getfield 146, 3) := by decide +kernel
theorem dX7_readLetters_29 : decode cX7_readLetters 29 = .ok (.ifCond .ne 12, 3) := by decide +kernel
theorem dX7_readLetters_32 : decode cX7_readLetters 32 = .ok (.aload_n 0, 1) := by decide +kernel
theorem dX7_readLetters_33 : decode cX7_readLetters 33 = .ok (.iload_n 1, 1) := by decide +kernel
theorem dX7_readLetters_34 : decode cX7_readLetters 34 = .ok (.iload_n 2, 1) := by decide +kernel
theorem dX7_readLetters_35 : decode cX7_readLetters 35 = .ok (.invokevirtual 212, 3) := by decide +kernel
theorem dX7_readLetters_38 : decode cX7_readLetters 38 = .ok (.goto 4, 3) := by decide +kernel
theorem dX7_readLetters_41 : decode cX7_readLetters 41 = .ok (.iconst 0, 1) := by decide +kernel
theorem dX7_readLetters_42 : decode cX7_readLetters 42 = .ok (.istore_n 3, 1) := by decide +kernel
theorem dX7_readLetters_43 : decode cX7_readLetters 43 = .ok (.aload_n 0, 1) := by decide +kernel
theorem dX7_readLetters_44 : decode cX7_readLetters 44 = .ok (.getfield 146, 3) := by decide +kernel
theorem dX7_readLetters_47 : decode cX7_readLetters 47 = .ok (.ifCond .ne 19, 3) := by decide +kernel
theorem dX7_readLetters_50 : decode cX7_readLetters 50 = .ok (.aload_n 0, 1) := by decide +kernel
theorem dX7_readLetters_51 : decode cX7_readLetters 51 = .ok (.iload_n 3, 1) := by decide +kernel
theorem dX7_readLetters_52 : decode cX7_readLetters 52 = .ok (.bipush (-4), 2) := by decide +kernel
theorem dX7_readLetters_54 : decode cX7_readLetters 54 = .ok (.if_icmp .eq 7, 3) := by decide +kernel
theorem dX7_readLetters_57 : decode cX7_readLetters 57 = .ok (.iconst 1, 1) := by decide +kernel
theorem dX7_readLetters_58 : decode cX7_readLetters 58 = .ok (.goto 4, 3) := by decide +kernel
theorem dX7_readLetters_61 : decode cX7_readLetters 61 = .ok (.iconst 0, 1) := by decide +kernel
theorem dX7_readLetters_62 : decode cX7_readLetters 62 = .ok (.iconst 3, 1) := by decide +kernel
theorem dX7_readLetters_63 : decode cX7_readLetters 63 = .ok (.invokevirtual 184, 3) := by decide +kernel
theorem dX7_readLetters_66 : decode cX7_readLetters 66 = .ok (.iload_n 3, 1) := by decide +kernel
theorem dX7_readLetters_67 : decode cX7_readLetters 67 = .ok (.ireturn, 1) := by decide +kernel
theorem dX7_readSupper_0 : decode cX7_readSupper 0 = .ok (.iconst 5, 1) := by decide +kernel
theorem dX7_readSupper_1 : decode cX7_readSupper 1 = .ok (.aload_n 0, 1) := by decide +kernel
theorem dX7_readSupper_2 : decode cX7_readSupper 2 = .ok (.getfield 93, 3) := by decide +kernel
theorem dX7_readSupper_5 : decode cX7_readSupper 5 = .ok (.imul, 1) := by decide +kernel
theorem dX7_readSupper_6 : decode cX7_readSupper 6 = .ok (.istore_n 2, 1) := by decide +kernel
theorem dX7_readSupper_7 : decode cX7_readSupper 7 = .ok (.iconst 0, 1) := by decide +kernel
theorem dX7_readSupper_8 : decode cX7_readSupper 8 = .ok (.istore_n 3, 1) := by decide +kernel
theorem dX7_readSupper_9 : decode cX7_readSupper 9 = .ok (.iload_n 3, 1) := by decide +kernel
theorem dX7_readSupper_10 : decode cX7_readSupper 10 = .ok (.bipush 6, 2) := by decide +kernel
theorem dX7_readSupper_12 : decode cX7_readSupper 12 = .ok (.if_icmp .ge 39, 3) := by decide +kernel
theorem dX7_readSupper_15 : decode cX7_readSupper 15 = .ok (.aload_n 0, 1) := by decide +kernel
theorem dX7_readSupper_16 : decode cX7_readSupper 16 = .ok (.getfield 31, 3) := by decide +kernel
theorem dX7_readSupper_19 : decode cX7_readSupper 19 = .ok (.bipush 6, 2) := by decide +kernel
theorem dX7_readSupper_21 : decode cX7_readSupper 21 = .ok (.aload_n 0, 1) := by decide +kernel
theorem dX7_readSupper_22 : decode cX7_readSupper 22 = .ok (.getfield 93, 3) := by decide +kernel
theorem dX7_readSupper_25 : decode cX7_readSupper 25 = .ok (.imul, 1) := by decide +kernel
theorem dX7_readSupper_26 : decode cX7_readSupper 26 = .ok (.iload_n 3, 1) := by decide +kernel
theorem dX7_readSupper_27 : decode cX7_readSupper 27 = .ok (.iadd, 1) := by decide +kernel
theorem dX7_readSupper_28 : decode cX7_readSupper 28 = .ok (.iconst 0, 1) := by decide +kernel
theorem dX7_readSupper_29 : decode cX7_readSupper 29 = .ok (.iastore, 1) := by decide +kernel
theorem dX7_readSupper_30 : decode cX7_readSupper 30 = .ok (.aload_n 0, 1) := by decide +kernel
theorem dX7_readSupper_31 : decode cX7_readSupper 31 = .ok (.getfield 34, 3) := by decide +kernel
theorem dX7_readSupper_34 : decode cX7_readSupper 34 = .ok (.bipush 6, 2) := by decide +kernel
theorem dX7_readSupper_36 : decode cX7_readSupper 36 = .ok (.aload_n 0, 1) := by decide +kernel
theorem dX7_readSupper_37 : decode cX7_readSupper 37 = .ok (.getfield 93, 3) := by decide +kernel
theorem dX7_readSupper_40 : decode cX7_readSupper 40 = .ok (.imul, 1) := by decide +kernel
theorem dX7_readSupper_41 : decode cX7_readSupper 41 = .ok (.iload_n 3, 1) := by decide +kernel
theorem dX7_readSupper_42 : decode cX7_readSupper 42 = .ok (.iadd, 1) := by decide +kernel
theorem dX7_readSupper_43 : decode cX7_readSupper 43 = .ok (.iconst 0, 1) := by decide +kernel
theorem dX7_readSupper_44 : decode cX7_readSupper 44 = .ok (.iastore, 1) := by decide +kernel
theorem dX7_readSupper_45 : decode cX7_readSupper 45 = .ok (.iinc 3 1, 3) := by decide +kernel
theorem dX7_readSupper_48 : decode cX7_readSupper 48 = .ok (.goto (-39), 3) := by decide +kernel
theorem dX7_readSupper_51 : decode cX7_readSupper 51 = .ok (.iconst 0, 1) := by decide +kernel
theorem dX7_readSupper_52 : decode cX7_readSupper 52 = .ok (.istore_n 3, 1) := by decide +kernel
theorem dX7_readSupper_53 : decode cX7_readSupper 53 = .ok (.iconst 0, 1) := by decide +kernel
theorem dX7_readSupper_54 : decode cX7_readSupper 54 = .ok (.istore 4, 2) := by decide +kernel
theorem dX7_readSupper_56 : decode cX7_readSupper 56 = .ok (.iload_n 1, 1) := by decide +kernel
theorem dX7_readSupper_57 : decode cX7_readSupper 57 = .ok (.iconst 3, 1) := by decide +kernel
theorem dX7_readSupper_58 : decode cX7_readSupper 58 = .ok (.if_icmp .ne 72, 3) := by decide +kernel
theorem dX7_readSupper_61 : decode cX7_readSupper 61 = .ok (.aload_n 0, 1) := by decide +kernel
theorem dX7_readSupper_62 : decode cX7_readSupper 62 = .ok (.iconst 1, 1) := by decide +kernel
theorem dX7_readSupper_63 : decode cX7_readSupper 63 = .ok (.bipush 9, 2) := by decide +kernel
theorem dX7_readSupper_65 : decode cX7_readSupper 65 = .ok (.invokevirtual 208, 3) := by decide +kernel
theorem dX7_readSupper_68 : decode cX7_readSupper 68 = .ok (.istore_n 3, 1) := by decide +kernel
theorem dX7_readSupper_69 : decode cX7_readSupper 69 = .ok (.aload_n 0, 1) := by decide +kernel
theorem dX7_readSupper_70 : decode cX7_readSupper 70 = .ok (.bipush 97, 2) := by decide +kernel
theorem dX7_readSupper_72 : decode cX7_readSupper 72 = .ok (.bipush 6, 2) := by decide +kernel
theorem dX7_readSupper_74 : decode cX7_readSupper 74 = .ok (.invokevirtual 215, 3) := by decide +kernel
theorem dX7_readSupper_77 : decode cX7_readSupper 77 = .ok (.istore 4, 2) := by decide +kernel
theorem dX7_readSupper_79 : decode cX7_readSupper 79 = .ok (.iconst 0, 1) := by decide +kernel
theorem dX7_readSupper_80 : decode cX7_readSupper 80 = .ok (.istore 5, 2) := by decide +kernel
theorem dX7_readSupper_82 : decode cX7_readSupper 82 = .ok (.iload 5, 2) := by decide +kernel
theorem dX7_readSupper_84 : decode cX7_readSupper 84 = .ok (.bipush 6, 2) := by decide +kernel
theorem dX7_readSupper_86 : decode cX7_readSupper 86 = .ok (.if_icmp .ge 37, 3) := by decide +kernel
theorem dX7_readSupper_89 : decode cX7_readSupper 89 = .ok (.aload_n 0, 1) := by decide +kernel
theorem dX7_readSupper_90 : decode cX7_readSupper 90 = .ok (.getfield 146, 3) := by decide +kernel
theorem dX7_readSupper_93 : decode cX7_readSupper 93 = .ok (.ifCond .ne 24, 3) := by decide +kernel
theorem dX7_readSupper_96 : decode cX7_readSupper 96 = .ok (.iload 4, 2) := by decide +kernel
theorem dX7_readSupper_98 : decode cX7_readSupper 98 = .ok (.iload 5, 2) := by decide +kernel
theorem dX7_readSupper_100 : decode cX7_readSupper 100 = .ok (.ishr, 1) := by decide +kernel
theorem dX7_readSupper_101 : decode cX7_readSupper 101 = .ok (.iconst 1, 1) := by decide +kernel
theorem dX7_readSupper_102 : decode cX7_readSupper 102 = .ok (.iand, 1) := by decide +kernel
theorem dX7_readSupper_103 : decode cX7_readSupper 103 = .ok (.iconst 1, 1) := by decide +kernel
theorem dX7_readSupper_104 : decode cX7_readSupper 104 = .ok (.if_icmp .ne 13, 3) := by decide +kernel
theorem dX7_readSupper_107 : decode cX7_readSupper 107 = .ok (.aload_n 0, 1) := by decide +kernel
theorem dX7_readSupper_108 : decode cX7_readSupper 108 = .ok (.iload 5, 2) := by decide +kernel
theorem dX7_readSupper_110 : decode cX7_readSupper 110 = .ok (.aload_n 0, 1) := by decide +kernel
theorem dX7_readSupper_111 : decode cX7_readSupper 111 = .ok (.getfield 149, 3) := by decide +kernel
theorem dX7_readSupper_114 : decode cX7_readSupper 114 = .ok (.invokevirtual 205, 3) := by decide +kernel
theorem dX7_readSupper_117 : decode cX7_readSupper 117 = .ok (.iinc 5 1, 3) := by decide +kernel
theorem dX7_readSupper_120 : decode cX7_readSupper 120 = .ok (.goto (-38), 3) := by decide +kernel
theorem dX7_readSupper_123 : decode cX7_readSupper 123 = .ok (.aload_n 0, 1) := by decide +kernel
theorem dX7_readSupper_124 : decode cX7_readSupper 124 = .ok (.invokevirtual 192, 3) := by decide +kernel
theorem dX7_readSupper_127 : decode cX7_readSupper 127 = .ok (.goto 10, 3) := by decide +kernel
theorem dX7_readSupper_130 : decode cX7_readSupper 130 = .ok (.aload_n 0, 1) := by decide +kernel
theorem dX7_readSupper_131 : decode cX7_readSupper 131 = .ok (.iconst 0, 1) := by decide +kernel
theorem dX7_readSupper_132 : decode cX7_readSupper 132 = .ok (.invokevirtual 218, 3) := by decide +kernel
theorem dX7_readSupper_135 : decode cX7_readSupper 135 = .ok (.istore 4, 2) := by decide +kernel
theorem dX7_readSupper_137 : decode cX7_readSupper 137 = .ok (.iconst 0, 1) := by decide +kernel
theorem dX7_readSupper_138 : decode cX7_readSupper 138 = .ok (.istore 5, 2) := by decide +kernel
theorem dX7_readSupper_140 : decode cX7_readSupper 140 = .ok (.iconst 0, 1) := by decide +kernel
theorem dX7_readSupper_141 : decode cX7_readSupper 141 = .ok (.istore 6, 2) := by decide +kernel
theorem dX7_readSupper_143 : decode cX7_readSupper 143 = .ok (.aload_n 0, 1) := by decide +kernel
theorem dX7_readSupper_144 : decode cX7_readSupper 144 = .ok (.getfield 146, 3) := by decide +kernel
theorem dX7_readSupper_147 : decode cX7_readSupper 147 = .ok (.ifCond .ne 30, 3) := by decide +kernel
theorem dX7_readSupper_150 : decode cX7_readSupper 150 = .ok (.aload_n 0, 1) := by decide +kernel
theorem dX7_readSupper_151 : decode cX7_readSupper 151 = .ok (.getfield 170, 3) := by decide +kernel
theorem dX7_readSupper_154 : decode cX7_readSupper 154 = .ok (.iconst 1, 1) := by decide +kernel
theorem dX7_readSupper_155 : decode cX7_readSupper 155 = .ok (.if_icmp .ne 22, 3) := by decide +kernel
theorem dX7_readSupper_158 : decode cX7_readSupper 158 = .ok (.aload_n 0, 1) := by decide +kernel
theorem dX7_readSupper_159 : decode cX7_readSupper 159 = .ok (.invokevirtual 195, 3) := by decide +kernel
theorem dX7_readSupper_162 : decode cX7_readSupper 162 = .ok (.bipush 15, 2) := by decide +kernel
theorem dX7_readSupper_164 : decode cX7_readSupper 164 = .ok (.if_icmp .ne 13, 3) := by decide +kernel
theorem dX7_readSupper_167 : decode cX7_readSupper 167 = .ok (.aload_n 0, 1) := by decide +kernel
theorem dX7_readSupper_168 : decode cX7_readSupper 168 = .ok (.invokevirtual 192, 3) := by decide +kernel
theorem dX7_readSupper_171 : decode cX7_readSupper 171 = .ok (.aload_n 0, 1) := by decide +kernel
theorem dX7_readSupper_172 : decode cX7_readSupper 172 = .ok (.iconst 1, 1) := by decide +kernel
theorem dX7_readSupper_173 : decode cX7_readSupper 173 = .ok (.invokevirtual 218, 3) := by decide +kernel
theorem dX7_readSupper_176 : decode cX7_readSupper 176 = .ok (.pop, 1) := by decide +kernel
theorem dX7_readSupper_177 : decode cX7_readSupper 177 = .ok (.aload_n 0, 1) := by decide +kernel
theorem dX7_readSupper_178 : decode cX7_readSupper 178 = .ok (.getfield 146, 3) := by decide +kernel
theorem dX7_readSupper_181 : decode cX7_readSupper 181 = .ok (.ifCond .ne 33, 3) := by decide +kernel
theorem dX7_readSupper_184 : decode cX7_readSupper 184 = .ok (.aload_n 0, 1) := by decide +kernel
theorem dX7_readSupper_185 : decode cX7_readSupper 185 = .ok (.getfield 170, 3) := by decide +kernel
theorem dX7_readSupper_188 : decode cX7_readSupper 188 = .ok (.iconst 1, 1) := by decide +kernel
theorem dX7_readSupper_189 : decode cX7_readSupper 189 = .ok (.if_icmp .ne 25, 3) := by decide +kernel
theorem dX7_readSupper_192 : decode cX7_readSupper 192 = .ok (.aload_n 0, 1) := by decide +kernel
theorem dX7_readSupper_193 : decode cX7_readSupper 193 = .ok (.invokevirtual 195, 3) := by decide +kernel
theorem dX7_readSupper_196 : decode cX7_readSupper 196 = .ok (.bipush 16, 2) := by decide +kernel
theorem dX7_readSupper_198 : decode cX7_readSupper 198 = .ok (.if_icmp .ne 16, 3) := by decide +kernel
theorem dX7_readSupper_201 : decode cX7_readSupper 201 = .ok (.aload_n 0, 1) := by decide +kernel
theorem dX7_readSupper_202 : decode cX7_readSupper 202 = .ok (.invokevirtual 192, 3) := by decide +kernel
theorem dX7_readSupper_205 : decode cX7_readSupper 205 = .ok (.aload_n 0, 1) := by decide +kernel
theorem dX7_readSupper_206 : decode cX7_readSupper 206 = .ok (.iconst 0, 1) := by decide +kernel
theorem dX7_readSupper_207 : decode cX7_readSupper 207 = .ok (.bipush 9, 2) := by decide +kernel
theorem dX7_readSupper_209 : decode cX7_readSupper 209 = .ok (.invokevirtual 208, 3) := by decide +kernel
theorem dX7_readSupper_212 : decode cX7_readSupper 212 = .ok (.istore 5, 2) := by decide +kernel
theorem dX7_readSupper_214 : decode cX7_readSupper 214 = .ok (.aload_n 0, 1) := by decide +kernel
theorem dX7_readSupper_215 : decode cX7_readSupper 215 = .ok (.getfield 146, 3) := by decide +kernel
theorem dX7_readSupper_218 : decode cX7_readSupper 218 = .ok (.ifCond .ne 37, 3) := by decide +kernel
theorem dX7_readSupper_221 : decode cX7_readSupper 221 = .ok (.aload_n 0, 1) := by decide +kernel
theorem dX7_readSupper_222 : decode cX7_readSupper 222 = .ok (.getfield 170, 3) := by decide +kernel
theorem dX7_readSupper_225 : decode cX7_readSupper 225 = .ok (.iconst 1, 1) := by decide +kernel
theorem dX7_readSupper_226 : decode cX7_readSupper 226 = .ok (.if_icmp .ne 29, 3) := by decide +kernel
theorem dX7_readSupper_229 : decode cX7_readSupper 229 = .ok (.aload_n 0, 1) := by decide +kernel
theorem dX7_readSupper_230 : decode cX7_readSupper 230 = .ok (.invokevirtual 195, 3) := by decide +kernel
theorem dX7_readSupper_233 : decode cX7_readSupper 233 = .ok (.bipush 17, 2) := by decide +kernel
theorem dX7_readSupper_235 : decode cX7_readSupper 235 = .ok (.if_icmp .ne 20, 3) := by decide +kernel
theorem dX7_readSupper_238 : decode cX7_readSupper 238 = .ok (.aload_n 0, 1) := by decide +kernel
theorem dX7_readSupper_239 : decode cX7_readSupper 239 = .ok (.invokevirtual 192, 3) := by decide +kernel
theorem dX7_readSupper_242 : decode cX7_readSupper 242 = .ok (.aload_n 0, 1) := by decide +kernel
theorem dX7_readSupper_243 : decode cX7_readSupper 243 = .ok (.bipush 112, 2) := by decide +kernel
theorem dX7_readSupper_245 : decode cX7_readSupper 245 = .ok (.iconst 4, 1) := by decide +kernel
theorem dX7_readSupper_246 : decode cX7_readSupper 246 = .ok (.invokevirtual 215, 3) := by decide +kernel
theorem dX7_readSupper_249 : decode cX7_readSupper 249 = .ok (.istore 6, 2) := by decide +kernel
theorem dX7_readSupper_251 : decode cX7_readSupper 251 = .ok (.aload_n 0, 1) := by decide +kernel
theorem dX7_readSupper_252 : decode cX7_readSupper 252 = .ok (.invokevirtual 192, 3) := by decide +kernel
theorem dX7_readSupper_255 : decode cX7_readSupper 255 = .ok (.aload_n 0, 1) := by decide +kernel
theorem dX7_readSupper_256 : decode cX7_readSupper 256 = .ok (.getfield 146, 3) := by decide +kernel
theorem dX7_readSupper_259 : decode cX7_readSupper 259 = .ok (.ifCond .ne 59, 3) := by decide +kernel
theorem dX7_readSupper_262 : decode cX7_readSupper 262 = .ok (.aload_n 0, 1) := by decide +kernel
theorem dX7_readSupper_263 : decode cX7_readSupper 263 = .ok (.getfield 28, 3) := by decide +kernel
theorem dX7_readSupper_266 : decode cX7_readSupper 266 = .ok (.iload_n 2, 1) := by decide +kernel
theorem dX7_readSupper_267 : decode cX7_readSupper 267 = .ok (.iload_n 1, 1) := by decide +kernel
theorem dX7_readSupper_268 : decode cX7_readSupper 268 = .ok (.iastore, 1) := by decide +kernel
theorem dX7_readSupper_269 : decode cX7_readSupper 269 = .ok (.aload_n 0, 1) := by decide +kernel
theorem dX7_readSupper_270 : decode cX7_readSupper 270 = .ok (.getfield 28, 3) := by decide +kernel
theorem dX7_readSupper_273 : decode cX7_readSupper 273 = .ok (.iload_n 2, 1) := by decide +kernel
theorem dX7_readSupper_274 : decode cX7_readSupper 274 = .ok (.iconst 1, 1) := by decide +kernel
theorem dX7_readSupper_275 : decode cX7_readSupper 275 = .ok (.iadd, 1) := by decide +kernel
theorem dX7_readSupper_276 : decode cX7_readSupper 276 = .ok (.iload 5, 2) := by decide +kernel
theorem dX7_readSupper_278 : decode cX7_readSupper 278 = .ok (.iastore, 1) := by decide +kernel
theorem dX7_readSupper_279 : decode cX7_readSupper 279 = .ok (.aload_n 0, 1) := by decide +kernel
theorem dX7_readSupper_280 : decode cX7_readSupper 280 = .ok (.getfield 28, 3) := by decide +kernel
theorem dX7_readSupper_283 : decode cX7_readSupper 283 = .ok (.iload_n 2, 1) := by decide +kernel
theorem dX7_readSupper_284 : decode cX7_readSupper 284 = .ok (.iconst 2, 1) := by decide +kernel
theorem dX7_readSupper_285 : decode cX7_readSupper 285 = .ok (.iadd, 1) := by decide +kernel
theorem dX7_readSupper_286 : decode cX7_readSupper 286 = .ok (.iload 6, 2) := by decide +kernel
theorem dX7_readSupper_288 : decode cX7_readSupper 288 = .ok (.iastore, 1) := by decide +kernel
theorem dX7_readSupper_289 : decode cX7_readSupper 289 = .ok (.aload_n 0, 1) := by decide +kernel
theorem dX7_readSupper_290 : decode cX7_readSupper 290 = .ok (.getfield 28, 3) := by decide +kernel
theorem dX7_readSupper_293 : decode cX7_readSupper 293 = .ok (.iload_n 2, 1) := by decide +kernel
theorem dX7_readSupper_294 : decode cX7_readSupper 294 = .ok (.iconst 3, 1) := by decide +kernel
theorem dX7_readSupper_295 : decode cX7_readSupper 295 = .ok (.iadd, 1) := by decide +kernel
theorem dX7_readSupper_296 : decode cX7_readSupper 296 = .ok (.iload_n 3, 1) := by decide +kernel
theorem dX7_readSupper_297 : decode cX7_readSupper 297 = .ok (.iastore, 1) := by decide +kernel
theorem dX7_readSupper_298 : decode cX7_readSupper 298 = .ok (.aload_n 0, 1) := by decide +kernel
theorem dX7_readSupper_299 : decode cX7_readSupper 299 = .ok (.getfield 28, 3) := by decide +kernel
theorem dX7_readSupper_302 : decode cX7_readSupper 302 = .ok (.iload_n 2, 1) := by decide +kernel
theorem dX7_readSupper_303 : decode cX7_readSupper 303 = .ok (.iconst 4, 1) := by decide +kernel
theorem dX7_readSupper_304 : decode cX7_readSupper 304 = .ok (.iadd, 1) := by decide +kernel
theorem dX7_readSupper_305 : decode cX7_readSupper 305 = .ok (.iload 4, 2) := by decide +kernel
theorem dX7_readSupper_307 : decode cX7_readSupper 307 = .ok (.iastore, 1) := by decide +kernel
theorem dX7_readSupper_308 : decode cX7_readSupper 308 = .ok (.aload_n 0, 1) := by decide +kernel
theorem dX7_readSupper_309 : decode cX7_readSupper 309 = .ok (.dup, 1) := by decide +kernel
theorem dX7_readSupper_310 : decode cX7_readSupper 310 = .ok (.getfield 93, 3) := by decide +kernel
theorem dX7_readSupper_313 : decode cX7_readSupper 313 = .ok (.iconst 1, 1) := by decide +kernel
theorem dX7_readSupper_314 : decode cX7_readSupper 314 = .ok (.iadd, 1) := by decide +kernel
theorem dX7_readSupper_315 : decode cX7_readSupper 315 = .ok (.putfield 93, 3) := by decide +kernel
theorem dX7_readSupper_318 : decode cX7_readSupper 318 = .ok (.return_, 1) := by decide +kernel
theorem dX7_readThing_0 : decode cX7_readThing 0 = .ok (.iconst 3, 1) := by decide +kernel
theorem dX7_readThing_1 : decode cX7_readThing 1 = .ok (.aload_n 0, 1) := by decide +kernel
theorem dX7_readThing_2 : decode cX7_readThing 2 = .ok (.getfield 89, 3) := by decide +kernel
theorem dX7_readThing_5 : decode cX7_readThing 5 = .ok (.imul, 1) := by decide +kernel
theorem dX7_readThing_6 : decode cX7_readThing 6 = .ok (.istore_n 1, 1) := by decide +kernel
theorem dX7_readThing_7 : decode cX7_readThing 7 = .ok (.aload_n 0, 1) := by decide +kernel
theorem dX7_readThing_8 : decode cX7_readThing 8 = .ok (.iconst 1, 1) := by decide +kernel
theorem dX7_readThing_9 : decode cX7_readThing 9 = .ok (.iconst 4, 1) := by decide +kernel
theorem dX7_readThing_10 : decode cX7_readThing 10 = .ok (.invokevirtual 208, 3) := by decide +kernel
theorem dX7_readThing_13 : decode cX7_readThing 13 = .ok (.istore_n 2, 1) := by decide +kernel
theorem dX7_readThing_14 : decode cX7_readThing 14 = .ok (.aload_n 0, 1) := by decide +kernel
theorem dX7_readThing_15 : decode cX7_readThing 15 = .ok (.iconst 1, 1) := by decide +kernel
theorem dX7_readThing_16 : decode cX7_readThing 16 = .ok (.iconst 4, 1) := by decide +kernel
theorem dX7_readThing_17 : decode cX7_readThing 17 = .ok (.invokevirtual 208, 3) := by decide +kernel
theorem dX7_readThing_20 : decode cX7_readThing 20 = .ok (.istore_n 3, 1) := by decide +kernel
theorem dX7_readThing_21 : decode cX7_readThing 21 = .ok (.aload_n 0, 1) := by decide +kernel
theorem dX7_readThing_22 : decode cX7_readThing 22 = .ok (.iconst 0, 1) := by decide +kernel
theorem dX7_readThing_23 : decode cX7_readThing 23 = .ok (.bipush 60, 2) := by decide +kernel
theorem dX7_readThing_25 : decode cX7_readThing 25 = .ok (.invokevirtual 208, 3) := by decide +kernel
theorem dX7_readThing_28 : decode cX7_readThing 28 = .ok (.istore 4, 2) := by decide +kernel
theorem dX7_readThing_30 : decode cX7_readThing 30 = .ok (.aload_n 0, 1) := by decide +kernel
theorem dX7_readThing_31 : decode cX7_readThing 31 = .ok (.getfield 146, 3) := by decide +kernel
theorem dX7_readThing_34 : decode cX7_readThing 34 = .ok (.ifCond .ne 39, 3) := by decide +kernel
theorem dX7_readThing_37 : decode cX7_readThing 37 = .ok (.aload_n 0, 1) := by decide +kernel
theorem dX7_readThing_38 : decode cX7_readThing 38 = .ok (.getfield 25, 3) := by decide +kernel
theorem dX7_readThing_41 : decode cX7_readThing 41 = .ok (.iload_n 1, 1) := by decide +kernel
theorem dX7_readThing_42 : decode cX7_readThing 42 = .ok (.iload_n 2, 1) := by decide +kernel
theorem dX7_readThing_43 : decode cX7_readThing 43 = .ok (.iastore, 1) := by decide +kernel
theorem dX7_readThing_44 : decode cX7_readThing 44 = .ok (.aload_n 0, 1) := by decide +kernel
theorem dX7_readThing_45 : decode cX7_readThing 45 = .ok (.getfield 25, 3) := by decide +kernel
theorem dX7_readThing_48 : decode cX7_readThing 48 = .ok (.iload_n 1, 1) := by decide +kernel
theorem dX7_readThing_49 : decode cX7_readThing 49 = .ok (.iconst 1, 1) := by decide +kernel
theorem dX7_readThing_50 : decode cX7_readThing 50 = .ok (.iadd, 1) := by decide +kernel
theorem dX7_readThing_51 : decode cX7_readThing 51 = .ok (.iload_n 3, 1) := by decide +kernel
theorem dX7_readThing_52 : decode cX7_readThing 52 = .ok (.iastore, 1) := by decide +kernel
theorem dX7_readThing_53 : decode cX7_readThing 53 = .ok (.aload_n 0, 1) := by decide +kernel
theorem dX7_readThing_54 : decode cX7_readThing 54 = .ok (.getfield 25, 3) := by decide +kernel
theorem dX7_readThing_57 : decode cX7_readThing 57 = .ok (.iload_n 1, 1) := by decide +kernel
theorem dX7_readThing_58 : decode cX7_readThing 58 = .ok (.iconst 2, 1) := by decide +kernel
theorem dX7_readThing_59 : decode cX7_readThing 59 = .ok (.iadd, 1) := by decide +kernel
theorem dX7_readThing_60 : decode cX7_readThing 60 = .ok (.iload 4, 2) := by decide +kernel
theorem dX7_readThing_62 : decode cX7_readThing 62 = .ok (.iastore, 1) := by decide +kernel
theorem dX7_readThing_63 : decode cX7_readThing 63 = .ok (.aload_n 0, 1) := by decide +kernel
theorem dX7_readThing_64 : decode cX7_readThing 64 = .ok (.dup, 1) := by decide +kernel
theorem dX7_readThing_65 : decode cX7_readThing 65 = .ok (.getfield 89, 3) := by decide +kernel
theorem dX7_readThing_68 : decode cX7_readThing 68 = .ok (.iconst 1, 1) := by decide +kernel
theorem dX7_readThing_69 : decode cX7_readThing 69 = .ok (.iadd, 1) := by decide +kernel
theorem dX7_readThing_70 : decode cX7_readThing 70 = .ok (.putfield 89, 3) := by decide +kernel
theorem dX7_readThing_73 : decode cX7_readThing 73 = .ok (.return_, 1) := by decide +kernel
theorem dX7_readShops_0 : decode cX7_readShops 0 = .ok (.iconst 0, 1) := by decide +kernel
theorem dX7_readShops_1 : decode cX7_readShops 1 = .ok (.istore_n 1, 1) := by decide +kernel
theorem dX7_readShops_2 : decode cX7_readShops 2 = .ok (.iconst 0, 1) := by decide +kernel
theorem dX7_readShops_3 : decode cX7_readShops 3 = .ok (.istore_n 2, 1) := by decide +kernel
theorem dX7_readShops_4 : decode cX7_readShops 4 = .ok (.aload_n 0, 1) := by decide +kernel
theorem dX7_readShops_5 : decode cX7_readShops 5 = .ok (.getfield 146, 3) := by decide +kernel
theorem dX7_readShops_8 : decode cX7_readShops 8 = .ok (.ifCond .ne 32, 3) := by decide +kernel
theorem dX7_readShops_11 : decode cX7_readShops 11 = .ok (.aload_n 0, 1) := by decide +kernel
theorem dX7_readShops_12 : decode cX7_readShops 12 = .ok (.getfield 170, 3) := by decide +kernel
theorem dX7_readShops_15 : decode cX7_readShops 15 = .ok (.iconst 2, 1) := by decide +kernel
theorem dX7_readShops_16 : decode cX7_readShops 16 = .ok (.if_icmp .ne 24, 3) := by decide +kernel
theorem dX7_readShops_19 : decode cX7_readShops 19 = .ok (.aload_n 0, 1) := by decide +kernel
theorem dX7_readShops_20 : decode cX7_readShops 20 = .ok (.iload_n 2, 1) := by decide +kernel
theorem dX7_readShops_21 : decode cX7_readShops 21 = .ok (.bipush 6, 2) := by decide +kernel
theorem dX7_readShops_23 : decode cX7_readShops 23 = .ok (.invokevirtual 208, 3) := by decide +kernel
theorem dX7_readShops_26 : decode cX7_readShops 26 = .ok (.istore_n 3, 1) := by decide +kernel
theorem dX7_readShops_27 : decode cX7_readShops 27 = .ok (.iload_n 1, 1) := by decide +kernel
theorem dX7_readShops_28 : decode cX7_readShops 28 = .ok (.iconst 1, 1) := by decide +kernel
theorem dX7_readShops_29 : decode cX7_readShops 29 = .ok (.iload_n 3, 1) := by decide +kernel
theorem dX7_readShops_30 : decode cX7_readShops 30 = .ok (.ishl, 1) := by decide +kernel
theorem dX7_readShops_31 : decode cX7_readShops 31 = .ok (.ior, 1) := by decide +kernel
theorem dX7_readShops_32 : decode cX7_readShops 32 = .ok (.istore_n 1, 1) := by decide +kernel
theorem dX7_readShops_33 : decode cX7_readShops 33 = .ok (.iload_n 3, 1) := by decide +kernel
theorem dX7_readShops_34 : decode cX7_readShops 34 = .ok (.iconst 1, 1) := by decide +kernel
theorem dX7_readShops_35 : decode cX7_readShops 35 = .ok (.iadd, 1) := by decide +kernel
theorem dX7_readShops_36 : decode cX7_readShops 36 = .ok (.istore_n 2, 1) := by decide +kernel
theorem dX7_readShops_37 : decode cX7_readShops 37 = .ok (.goto (-33), 3) := by decide +kernel
theorem dX7_readShops_40 : decode cX7_readShops 40 = .ok (.aload_n 0, 1) := by decide +kernel
theorem dX7_readShops_41 : decode cX7_readShops 41 = .ok (.iload_n 1, 1) := by decide +kernel
theorem dX7_readShops_42 : decode cX7_readShops 42 = .ok (.putfield 99, 3) := by decide +kernel
theorem dX7_readShops_45 : decode cX7_readShops 45 = .ok (.return_, 1) := by decide +kernel
theorem dX7_readWeekDay_0 : decode cX7_readWeekDay 0 = .ok (.aload_n 0, 1) := by decide +kernel
theorem dX7_readWeekDay_1 : decode cX7_readWeekDay 1 = .ok (.iconst 0, 1) := by decide +kernel
theorem dX7_readWeekDay_2 : decode cX7_readWeekDay 2 = .ok (.bipush 6, 2) := by decide +kernel
theorem dX7_readWeekDay_4 : decode cX7_readWeekDay 4 = .ok (.invokevirtual 188, 3) := by decide +kernel
theorem dX7_readWeekDay_7 : decode cX7_readWeekDay 7 = .ok (.aload_n 0, 1) := by decide +kernel
theorem dX7_readWeekDay_8 : decode cX7_readWeekDay 8 = .ok (.getfield 181, 3) := by decide +kernel
theorem dX7_readWeekDay_11 : decode cX7_readWeekDay 11 = .ok (.istore_n 2, 1) := by decide +kernel
theorem dX7_readWeekDay_12 : decode cX7_readWeekDay 12 = .ok (.aload_n 0, 1) := by decide +kernel
theorem dX7_readWeekDay_13 : decode cX7_readWeekDay 13 = .ok (.getfield 146, 3) := by decide +kernel
theorem dX7_readWeekDay_16 : decode cX7_readWeekDay 16 = .ok (.ifCond .ne 21, 3) := by decide +kernel
theorem dX7_readWeekDay_19 : decode cX7_readWeekDay 19 = .ok (.aload_n 0, 1) := by decide +kernel
theorem dX7_readWeekDay_20 : decode cX7_readWeekDay 20 = .ok (.iload_n 1, 1) := by decide +kernel
theorem dX7_readWeekDay_21 : decode cX7_readWeekDay 21 = .ok (.iload_n 2, 1) := by decide +kernel
theorem dX7_readWeekDay_22 : decode cX7_readWeekDay 22 = .ok (.ishr, 1) := by decide +kernel
theorem dX7_readWeekDay_23 : decode cX7_readWeekDay 23 = .ok (.iconst 1, 1) := by decide +kernel
theorem dX7_readWeekDay_24 : decode cX7_readWeekDay 24 = .ok (.iand, 1) := by decide +kernel
theorem dX7_readWeekDay_25 : decode cX7_readWeekDay 25 = .ok (.ifCond .ne 7, 3) := by decide +kernel
theorem dX7_readWeekDay_28 : decode cX7_readWeekDay 28 = .ok (.iconst 1, 1) := by decide +kernel
theorem dX7_readWeekDay_29 : decode cX7_readWeekDay 29 = .ok (.goto 4, 3) := by decide +kernel
theorem dX7_readWeekDay_32 : decode cX7_readWeekDay 32 = .ok (.iconst 0, 1) := by decide +kernel
theorem dX7_readWeekDay_33 : decode cX7_readWeekDay 33 = .ok (.iconst 4, 1) := by decide +kernel
theorem dX7_readWeekDay_34 : decode cX7_readWeekDay 34 = .ok (.invokevirtual 184, 3) := by decide +kernel
theorem dX7_readWeekDay_37 : decode cX7_readWeekDay 37 = .ok (.aload_n 0, 1) := by decide +kernel
theorem dX7_readWeekDay_38 : decode cX7_readWeekDay 38 = .ok (.invokevirtual 192, 3) := by decide +kernel
theorem dX7_readWeekDay_41 : decode cX7_readWeekDay 41 = .ok (.iload_n 2, 1) := by decide +kernel
theorem dX7_readWeekDay_42 : decode cX7_readWeekDay 42 = .ok (.ireturn, 1) := by decide +kernel
theorem dX7_readGuest_0 : decode cX7_readGuest 0 = .ok (.iconst 0, 1) := by decide +kernel
theorem dX7_readGuest_1 : decode cX7_readGuest 1 = .ok (.istore_n 1, 1) := by decide +kernel
theorem dX7_readGuest_2 : decode cX7_readGuest 2 = .ok (.iconst 0, 1) := by decide +kernel
theorem dX7_readGuest_3 : decode cX7_readGuest 3 = .ok (.istore_n 2, 1) := by decide +kernel
theorem dX7_readGuest_4 : decode cX7_readGuest 4 = .ok (.iload_n 2, 1) := by decide +kernel
theorem dX7_readGuest_5 : decode cX7_readGuest 5 = .ok (.bipush 7, 2) := by decide +kernel
theorem dX7_readGuest_7 : decode cX7_readGuest 7 = .ok (.if_icmp .ge 28, 3) := by decide +kernel
theorem dX7_readGuest_10 : decode cX7_readGuest 10 = .ok (.iload_n 1, 1) := by decide +kernel
theorem dX7_readGuest_11 : decode cX7_readGuest 11 = .ok (.aload_n 0, 1) := by decide +kernel
theorem dX7_readGuest_12 : decode cX7_readGuest 12 = .ok (.getfield 37, 3) := by decide +kernel
theorem dX7_readGuest_15 : decode cX7_readGuest 15 = .ok (.iload_n 2, 1) := by decide +kernel
theorem dX7_readGuest_16 : decode cX7_readGuest 16 = .ok (.iaload, 1) := by decide +kernel
theorem dX7_readGuest_17 : decode cX7_readGuest 17 = .ok (.ifCond .le 9, 3) := by decide +kernel
theorem dX7_readGuest_20 : decode cX7_readGuest 20 = .ok (.iconst 1, 1) := by decide +kernel
theorem dX7_readGuest_21 : decode cX7_readGuest 21 = .ok (.iload_n 2, 1) := by decide +kernel
theorem dX7_readGuest_22 : decode cX7_readGuest 22 = .ok (.ishl, 1) := by decide +kernel
theorem dX7_readGuest_23 : decode cX7_readGuest 23 = .ok (.goto 4, 3) := by decide +kernel
theorem dX7_readGuest_26 : decode cX7_readGuest 26 = .ok (.iconst 0, 1) := by decide +kernel
theorem dX7_readGuest_27 : decode cX7_readGuest 27 = .ok (.ior, 1) := by decide +kernel
theorem dX7_readGuest_28 : decode cX7_readGuest 28 = .ok (.istore_n 1, 1) := by decide +kernel
theorem dX7_readGuest_29 : decode cX7_readGuest 29 = .ok (.iinc 2 1, 3) := by decide +kernel
theorem dX7_readGuest_32 : decode cX7_readGuest 32 = .ok (.goto (-28), 3) := by decide +kernel
theorem dX7_readGuest_35 : decode cX7_readGuest 35 = .ok (.aload_n 0, 1) := by decide +kernel
theorem dX7_readGuest_36 : decode cX7_readGuest 36 = .ok (.iload_n 1, 1) := by decide +kernel
theorem dX7_readGuest_37 : decode cX7_readGuest 37 = .ok (.invokevirtual 222, 3) := by decide +kernel
theorem dX7_readGuest_40 : decode cX7_readGuest 40 = .ok (.istore_n 2, 1) := by decide +kernel
theorem dX7_readGuest_41 : decode cX7_readGuest 41 = .ok (.aload_n 0, 1) := by decide +kernel
theorem dX7_readGuest_42 : decode cX7_readGuest 42 = .ok (.iconst 1, 1) := by decide +kernel
theorem dX7_readGuest_43 : decode cX7_readGuest 43 = .ok (.iconst 4, 1) := by decide +kernel
theorem dX7_readGuest_44 : decode cX7_readGuest 44 = .ok (.invokevirtual 208, 3) := by decide +kernel
theorem dX7_readGuest_47 : decode cX7_readGuest 47 = .ok (.istore_n 3, 1) := by decide +kernel
theorem dX7_readGuest_48 : decode cX7_readGuest 48 = .ok (.aload_n 0, 1) := by decide +kernel
theorem dX7_readGuest_49 : decode cX7_readGuest 49 = .ok (.getfield 146, 3) := by decide +kernel
theorem dX7_readGuest_52 : decode cX7_readGuest 52 = .ok (.ifCond .ne 10, 3) := by decide +kernel
theorem dX7_readGuest_55 : decode cX7_readGuest 55 = .ok (.aload_n 0, 1) := by decide +kernel
theorem dX7_readGuest_56 : decode cX7_readGuest 56 = .ok (.getfield 37, 3) := by decide +kernel
theorem dX7_readGuest_59 : decode cX7_readGuest 59 = .ok (.iload_n 2, 1) := by decide +kernel
theorem dX7_readGuest_60 : decode cX7_readGuest 60 = .ok (.iload_n 3, 1) := by decide +kernel
theorem dX7_readGuest_61 : decode cX7_readGuest 61 = .ok (.iastore, 1) := by decide +kernel
theorem dX7_readGuest_62 : decode cX7_readGuest 62 = .ok (.return_, 1) := by decide +kernel
theorem dX7_readOut_0 : decode cX7_readOut 0 = .ok (.aload_n 0, 1) := by decide +kernel
theorem dX7_readOut_1 : decode cX7_readOut 1 = .ok (.aload_n 0, 1) := by decide +kernel
theorem dX7_readOut_2 : decode cX7_readOut 2 = .ok (.getfield 102, 3) := by decide +kernel
theorem dX7_readOut_5 : decode cX7_readOut 5 = .ok (.invokevirtual 222, 3) := by decide +kernel
theorem dX7_readOut_8 : decode cX7_readOut 8 = .ok (.istore_n 1, 1) := by decide +kernel
theorem dX7_readOut_9 : decode cX7_readOut 9 = .ok (.aload_n 0, 1) := by decide +kernel
theorem dX7_readOut_10 : decode cX7_readOut 10 = .ok (.getfield 146, 3) := by decide +kernel
theorem dX7_readOut_13 : decode cX7_readOut 13 = .ok (.ifCond .ne 15, 3) := by decide +kernel
theorem dX7_readOut_16 : decode cX7_readOut 16 = .ok (.aload_n 0, 1) := by decide +kernel
theorem dX7_readOut_17 : decode cX7_readOut 17 = .ok (.dup, 1) := by decide +kernel
theorem dX7_readOut_18 : decode cX7_readOut 18 = .ok (.getfield 102, 3) := by decide +kernel
theorem dX7_readOut_21 : decode cX7_readOut 21 = .ok (.iconst 1, 1) := by decide +kernel
theorem dX7_readOut_22 : decode cX7_readOut 22 = .ok (.iload_n 1, 1) := by decide +kernel
theorem dX7_readOut_23 : decode cX7_readOut 23 = .ok (.ishl, 1) := by decide +kernel
theorem dX7_readOut_24 : decode cX7_readOut 24 = .ok (.ior, 1) := by decide +kernel
theorem dX7_readOut_25 : decode cX7_readOut 25 = .ok (.putfield 102, 3) := by decide +kernel
theorem dX7_readOut_28 : decode cX7_readOut 28 = .ok (.return_, 1) := by decide +kernel
theorem dX7_readLine_0 : decode cX7_readLine 0 = .ok (.aload_n 0, 1) := by decide +kernel
theorem dX7_readLine_1 : decode cX7_readLine 1 = .ok (.getfield 170, 3) := by decide +kernel
theorem dX7_readLine_4 : decode cX7_readLine 4 = .ok (.iconst 1, 1) := by decide +kernel
theorem dX7_readLine_5 : decode cX7_readLine 5 = .ok (.if_icmp .ne 10, 3) := by decide +kernel
theorem dX7_readLine_8 : decode cX7_readLine 8 = .ok (.aload_n 0, 1) := by decide +kernel
theorem dX7_readLine_9 : decode cX7_readLine 9 = .ok (.invokevirtual 195, 3) := by decide +kernel
theorem dX7_readLine_12 : decode cX7_readLine 12 = .ok (.goto 5, 3) := by decide +kernel
theorem dX7_readLine_15 : decode cX7_readLine 15 = .ok (.bipush (-4), 2) := by decide +kernel
theorem dX7_readLine_17 : decode cX7_readLine 17 = .ok (.istore_n 1, 1) := by decide +kernel
theorem dX7_readLine_18 : decode cX7_readLine 18 = .ok (.aload_n 0, 1) := by decide +kernel
theorem dX7_readLine_19 : decode cX7_readLine 19 = .ok (.iload_n 1, 1) := by decide +kernel
theorem dX7_readLine_20 : decode cX7_readLine 20 = .ok (.i2l, 1) := by decide +kernel
theorem dX7_readLine_21 : decode cX7_readLine 21 = .ok (.lconst 0, 1) := by decide +kernel
theorem dX7_readLine_22 : decode cX7_readLine 22 = .ok (.ldc2_w 225, 3) := by decide +kernel
theorem dX7_readLine_25 : decode cX7_readLine 25 = .ok (.invokestatic 134, 3) := by decide +kernel
theorem dX7_readLine_28 : decode cX7_readLine 28 = .ok (.ifCond .ne 17, 3) := by decide +kernel
theorem dX7_readLine_31 : decode cX7_readLine 31 = .ok (.iload_n 1, 1) := by decide +kernel
theorem dX7_readLine_32 : decode cX7_readLine 32 = .ok (.i2l, 1) := by decide +kernel
theorem dX7_readLine_33 : decode cX7_readLine 33 = .ok (.ldc2_w 227, 3) := by decide +kernel
theorem dX7_readLine_36 : decode cX7_readLine 36 = .ok (.ldc2_w 229, 3) := by decide +kernel
theorem dX7_readLine_39 : decode cX7_readLine 39 = .ok (.invokestatic 134, 3) := by decide +kernel
theorem dX7_readLine_42 : decode cX7_readLine 42 = .ok (.ifCond .eq 7, 3) := by decide +kernel
theorem dX7_readLine_45 : decode cX7_readLine 45 = .ok (.iconst 1, 1) := by decide +kernel
theorem dX7_readLine_46 : decode cX7_readLine 46 = .ok (.goto 4, 3) := by decide +kernel
theorem dX7_readLine_49 : decode cX7_readLine 49 = .ok (.iconst 0, 1) := by decide +kernel
theorem dX7_readLine_50 : decode cX7_readLine 50 = .ok (.iconst 2, 1) := by decide +kernel
theorem dX7_readLine_51 : decode cX7_readLine 51 = .ok (.invokevirtual 184, 3) := by decide +kernel
theorem dX7_readLine_54 : decode cX7_readLine 54 = .ok (.aload_n 0, 1) := by decide +kernel
theorem dX7_readLine_55 : decode cX7_readLine 55 = .ok (.iload_n 1, 1) := by decide +kernel
theorem dX7_readLine_56 : decode cX7_readLine 56 = .ok (.bipush 10, 2) := by decide +kernel
theorem dX7_readLine_58 : decode cX7_readLine 58 = .ok (.if_icmp .ne 12, 3) := by decide +kernel
theorem dX7_readLine_61 : decode cX7_readLine 61 = .ok (.aload_n 0, 1) := by decide +kernel
theorem dX7_readLine_62 : decode cX7_readLine 62 = .ok (.getfield 89, 3) := by decide +kernel
theorem dX7_readLine_65 : decode cX7_readLine 65 = .ok (.bipush 6, 2) := by decide +kernel
theorem dX7_readLine_67 : decode cX7_readLine 67 = .ok (.if_icmp .ge 7, 3) := by decide +kernel
theorem dX7_readLine_70 : decode cX7_readLine 70 = .ok (.iconst 1, 1) := by decide +kernel
theorem dX7_readLine_71 : decode cX7_readLine 71 = .ok (.goto 4, 3) := by decide +kernel
theorem dX7_readLine_74 : decode cX7_readLine 74 = .ok (.iconst 0, 1) := by decide +kernel
theorem dX7_readLine_75 : decode cX7_readLine 75 = .ok (.iconst 5, 1) := by decide +kernel
theorem dX7_readLine_76 : decode cX7_readLine 76 = .ok (.invokevirtual 184, 3) := by decide +kernel
theorem dX7_readLine_79 : decode cX7_readLine 79 = .ok (.aload_n 0, 1) := by decide +kernel
theorem dX7_readLine_80 : decode cX7_readLine 80 = .ok (.iload_n 1, 1) := by decide +kernel
theorem dX7_readLine_81 : decode cX7_readLine 81 = .ok (.i2l, 1) := by decide +kernel
theorem dX7_readLine_82 : decode cX7_readLine 82 = .ok (.lconst 0, 1) := by decide +kernel
theorem dX7_readLine_83 : decode cX7_readLine 83 = .ok (.ldc2_w 225, 3) := by decide +kernel
theorem dX7_readLine_86 : decode cX7_readLine 86 = .ok (.invokestatic 134, 3) := by decide +kernel
theorem dX7_readLine_89 : decode cX7_readLine 89 = .ok (.ifCond .eq 12, 3) := by decide +kernel
theorem dX7_readLine_92 : decode cX7_readLine 92 = .ok (.aload_n 0, 1) := by decide +kernel
theorem dX7_readLine_93 : decode cX7_readLine 93 = .ok (.getfield 93, 3) := by decide +kernel
theorem dX7_readLine_96 : decode cX7_readLine 96 = .ok (.bipush 8, 2) := by decide +kernel
theorem dX7_readLine_98 : decode cX7_readLine 98 = .ok (.if_icmp .ge 7, 3) := by decide +kernel
theorem dX7_readLine_101 : decode cX7_readLine 101 = .ok (.iconst 1, 1) := by decide +kernel
theorem dX7_readLine_102 : decode cX7_readLine 102 = .ok (.goto 4, 3) := by decide +kernel
theorem dX7_readLine_105 : decode cX7_readLine 105 = .ok (.iconst 0, 1) := by decide +kernel
theorem dX7_readLine_106 : decode cX7_readLine 106 = .ok (.iconst 5, 1) := by decide +kernel
theorem dX7_readLine_107 : decode cX7_readLine 107 = .ok (.invokevirtual 184, 3) := by decide +kernel
theorem dX7_readLine_110 : decode cX7_readLine 110 = .ok (.aload_n 0, 1) := by decide +kernel
theorem dX7_readLine_111 : decode cX7_readLine 111 = .ok (.iload_n 1, 1) := by decide +kernel
theorem dX7_readLine_112 : decode cX7_readLine 112 = .ok (.bipush 11, 2) := by decide +kernel
theorem dX7_readLine_114 : decode cX7_readLine 114 = .ok (.if_icmp .ne 10, 3) := by decide +kernel
theorem dX7_readLine_117 : decode cX7_readLine 117 = .ok (.aload_n 0, 1) := by decide +kernel
theorem dX7_readLine_118 : decode cX7_readLine 118 = .ok (.getfield 105, 3) := by decide +kernel
theorem dX7_readLine_121 : decode cX7_readLine 121 = .ok (.ifCond .ne 20, 3) := by decide +kernel
theorem dX7_readLine_124 : decode cX7_readLine 124 = .ok (.iload_n 1, 1) := by decide +kernel
theorem dX7_readLine_125 : decode cX7_readLine 125 = .ok (.bipush 12, 2) := by decide +kernel
theorem dX7_readLine_127 : decode cX7_readLine 127 = .ok (.if_icmp .ne 10, 3) := by decide +kernel
theorem dX7_readLine_130 : decode cX7_readLine 130 = .ok (.aload_n 0, 1) := by decide +kernel
theorem dX7_readLine_131 : decode cX7_readLine 131 = .ok (.getfield 109, 3) := by decide +kernel
theorem dX7_readLine_134 : decode cX7_readLine 134 = .ok (.ifCond .ne 7, 3) := by decide +kernel
theorem dX7_readLine_137 : decode cX7_readLine 137 = .ok (.iconst 1, 1) := by decide +kernel
theorem dX7_readLine_138 : decode cX7_readLine 138 = .ok (.goto 4, 3) := by decide +kernel
theorem dX7_readLine_141 : decode cX7_readLine 141 = .ok (.iconst 0, 1) := by decide +kernel
theorem dX7_readLine_142 : decode cX7_readLine 142 = .ok (.iconst 4, 1) := by decide +kernel
theorem dX7_readLine_143 : decode cX7_readLine 143 = .ok (.invokevirtual 184, 3) := by decide +kernel
theorem dX7_readLine_146 : decode cX7_readLine 146 = .ok (.aload_n 0, 1) := by decide +kernel
theorem dX7_readLine_147 : decode cX7_readLine 147 = .ok (.aload_n 0, 1) := by decide +kernel
theorem dX7_readLine_148 : decode cX7_readLine 148 = .ok (.getfield 105, 3) := by decide +kernel
theorem dX7_readLine_151 : decode cX7_readLine 151 = .ok (.ifCond .ne 9, 3) := by decide +kernel
theorem dX7_readLine_154 : decode cX7_readLine 154 = .ok (.iload_n 1, 1) := by decide +kernel
theorem dX7_readLine_155 : decode cX7_readLine 155 = .ok (.bipush 11, 2) := by decide +kernel
theorem dX7_readLine_157 : decode cX7_readLine 157 = .ok (.if_icmp .ne 7, 3) := by decide +kernel
theorem dX7_readLine_160 : decode cX7_readLine 160 = .ok (.iconst 1, 1) := by decide +kernel
theorem dX7_readLine_161 : decode cX7_readLine 161 = .ok (.goto 4, 3) := by decide +kernel
theorem dX7_readLine_164 : decode cX7_readLine 164 = .ok (.iconst 0, 1) := by decide +kernel
theorem dX7_readLine_165 : decode cX7_readLine 165 = .ok (.putfield 105, 3) := by decide +kernel
theorem dX7_readLine_168 : decode cX7_readLine 168 = .ok (.aload_n 0, 1) := by decide +kernel
theorem dX7_readLine_169 : decode cX7_readLine 169 = .ok (.aload_n 0, 1) := by decide +kernel
theorem dX7_readLine_170 : decode cX7_readLine 170 = .ok (.getfield 109, 3) := by decide +kernel
theorem dX7_readLine_173 : decode cX7_readLine 173 = .ok (.ifCond .ne 9, 3) := by decide +kernel
theorem dX7_readLine_176 : decode cX7_readLine 176 = .ok (.iload_n 1, 1) := by decide +kernel
theorem dX7_readLine_177 : decode cX7_readLine 177 = .ok (.bipush 12, 2) := by decide +kernel
theorem dX7_readLine_179 : decode cX7_readLine 179 = .ok (.if_icmp .ne 7, 3) := by decide +kernel
theorem dX7_readLine_182 : decode cX7_readLine 182 = .ok (.iconst 1, 1) := by decide +kernel
theorem dX7_readLine_183 : decode cX7_readLine 183 = .ok (.goto 4, 3) := by decide +kernel
theorem dX7_readLine_186 : decode cX7_readLine 186 = .ok (.iconst 0, 1) := by decide +kernel
theorem dX7_readLine_187 : decode cX7_readLine 187 = .ok (.putfield 109, 3) := by decide +kernel
theorem dX7_readLine_190 : decode cX7_readLine 190 = .ok (.aload_n 0, 1) := by decide +kernel
theorem dX7_readLine_191 : decode cX7_readLine 191 = .ok (.invokevirtual 192, 3) := by decide +kernel
theorem dX7_readLine_194 : decode cX7_readLine 194 = .ok (.aload_n 0, 1) := by decide +kernel
theorem dX7_readLine_195 : decode cX7_readLine 195 = .ok (.getfield 146, 3) := by decide +kernel
theorem dX7_readLine_198 : decode cX7_readLine 198 = .ok (.ifCond .le 4, 3) := by decide +kernel
theorem dX7_readLine_201 : decode cX7_readLine 201 = .ok (.return_, 1) := by decide +kernel
theorem dX7_readLine_202 : decode cX7_readLine 202 = .ok (.iload_n 1, 1) := by decide +kernel
theorem dX7_readLine_203 : decode cX7_readLine 203 = .ok (.bipush 10, 2) := by decide +kernel
theorem dX7_readLine_205 : decode cX7_readLine 205 = .ok (.if_icmp .ne 10, 3) := by decide +kernel
theorem dX7_readLine_208 : decode cX7_readLine 208 = .ok (.aload_n 0, 1) := by decide +kernel
theorem dX7_readLine_209 : decode cX7_readLine 209 = .ok (.invokevirtual 231, 3) := by decide +kernel
theorem dX7_readLine_212 : decode cX7_readLine 212 = .ok (.goto 67, 3) := by decide +kernel
theorem dX7_readLine_215 : decode cX7_readLine 215 = .ok (.iload_n 1, 1) := by decide +kernel
theorem dX7_readLine_216 : decode cX7_readLine 216 = .ok (.bipush 11, 2) := by decide +kernel
theorem dX7_readLine_218 : decode cX7_readLine 218 = .ok (.if_icmp .ne 17, 3) := by decide +kernel
theorem dX7_readLine_221 : decode cX7_readLine 221 = .ok (.aload_n 0, 1) := by decide +kernel
theorem dX7_readLine_222 : decode cX7_readLine 222 = .ok (.aload_n 0, 1) := by decide +kernel
theorem dX7_readLine_223 : decode cX7_readLine 223 = .ok (.iconst 0, 1) := by decide +kernel
theorem dX7_readLine_224 : decode cX7_readLine 224 = .ok (.bipush 7, 2) := by decide +kernel
theorem dX7_readLine_226 : decode cX7_readLine 226 = .ok (.invokevirtual 208, 3) := by decide +kernel
theorem dX7_readLine_229 : decode cX7_readLine 229 = .ok (.putfield 96, 3) := by decide +kernel
theorem dX7_readLine_232 : decode cX7_readLine 232 = .ok (.goto 47, 3) := by decide +kernel
theorem dX7_readLine_235 : decode cX7_readLine 235 = .ok (.iload_n 1, 1) := by decide +kernel
theorem dX7_readLine_236 : decode cX7_readLine 236 = .ok (.bipush 12, 2) := by decide +kernel
theorem dX7_readLine_238 : decode cX7_readLine 238 = .ok (.if_icmp .ne 10, 3) := by decide +kernel
theorem dX7_readLine_241 : decode cX7_readLine 241 = .ok (.aload_n 0, 1) := by decide +kernel
theorem dX7_readLine_242 : decode cX7_readLine 242 = .ok (.invokevirtual 234, 3) := by decide +kernel
theorem dX7_readLine_245 : decode cX7_readLine 245 = .ok (.goto 34, 3) := by decide +kernel
theorem dX7_readLine_248 : decode cX7_readLine 248 = .ok (.iload_n 1, 1) := by decide +kernel
theorem dX7_readLine_249 : decode cX7_readLine 249 = .ok (.bipush 13, 2) := by decide +kernel
theorem dX7_readLine_251 : decode cX7_readLine 251 = .ok (.if_icmp .ne 10, 3) := by decide +kernel
theorem dX7_readLine_254 : decode cX7_readLine 254 = .ok (.aload_n 0, 1) := by decide +kernel
theorem dX7_readLine_255 : decode cX7_readLine 255 = .ok (.invokevirtual 237, 3) := by decide +kernel
theorem dX7_readLine_258 : decode cX7_readLine 258 = .ok (.goto 21, 3) := by decide +kernel
theorem dX7_readLine_261 : decode cX7_readLine 261 = .ok (.iload_n 1, 1) := by decide +kernel
theorem dX7_readLine_262 : decode cX7_readLine 262 = .ok (.bipush 14, 2) := by decide +kernel
theorem dX7_readLine_264 : decode cX7_readLine 264 = .ok (.if_icmp .ne 10, 3) := by decide +kernel
theorem dX7_readLine_267 : decode cX7_readLine 267 = .ok (.aload_n 0, 1) := by decide +kernel
theorem dX7_readLine_268 : decode cX7_readLine 268 = .ok (.invokevirtual 240, 3) := by decide +kernel
theorem dX7_readLine_271 : decode cX7_readLine 271 = .ok (.goto 8, 3) := by decide +kernel
theorem dX7_readLine_274 : decode cX7_readLine 274 = .ok (.aload_n 0, 1) := by decide +kernel
theorem dX7_readLine_275 : decode cX7_readLine 275 = .ok (.iload_n 1, 1) := by decide +kernel
theorem dX7_readLine_276 : decode cX7_readLine 276 = .ok (.invokevirtual 243, 3) := by decide +kernel
theorem dX7_readLine_279 : decode cX7_readLine 279 = .ok (.aload_n 0, 1) := by decide +kernel
theorem dX7_readLine_280 : decode cX7_readLine 280 = .ok (.getfield 146, 3) := by decide +kernel
theorem dX7_readLine_283 : decode cX7_readLine 283 = .ok (.ifCond .ne 21, 3) := by decide +kernel
theorem dX7_readLine_286 : decode cX7_readLine 286 = .ok (.aload_n 0, 1) := by decide +kernel
theorem dX7_readLine_287 : decode cX7_readLine 287 = .ok (.aload_n 0, 1) := by decide +kernel
theorem dX7_readLine_288 : decode cX7_readLine 288 = .ok (.getfield 170, 3) := by decide +kernel
theorem dX7_readLine_291 : decode cX7_readLine 291 = .ok (.iconst 3, 1) := by decide +kernel
theorem dX7_readLine_292 : decode cX7_readLine 292 = .ok (.if_icmp .ne 7, 3) := by decide +kernel
theorem dX7_readLine_295 : decode cX7_readLine 295 = .ok (.iconst 1, 1) := by decide +kernel
theorem dX7_readLine_296 : decode cX7_readLine 296 = .ok (.goto 4, 3) := by decide +kernel
theorem dX7_readLine_299 : decode cX7_readLine 299 = .ok (.iconst 0, 1) := by decide +kernel
theorem dX7_readLine_300 : decode cX7_readLine 300 = .ok (.iconst 2, 1) := by decide +kernel
theorem dX7_readLine_301 : decode cX7_readLine 301 = .ok (.invokevirtual 184, 3) := by decide +kernel
theorem dX7_readLine_304 : decode cX7_readLine 304 = .ok (.aload_n 0, 1) := by decide +kernel
theorem dX7_readLine_305 : decode cX7_readLine 305 = .ok (.invokevirtual 192, 3) := by decide +kernel
theorem dX7_readLine_308 : decode cX7_readLine 308 = .ok (.return_, 1) := by decide +kernel
theorem dX7_text_0 : decode cX7_text 0 = .ok (.iconst 0, 1) := by decide +kernel
theorem dX7_text_1 : decode cX7_text 1 = .ok (.istore_n 1, 1) := by decide +kernel
theorem dX7_text_2 : decode cX7_text 2 = .ok (.aload_n 0, 1) := by decide +kernel
theorem dX7_text_3 : decode cX7_text 3 = .ok (.iconst 0, 1) := by decide +kernel
theorem dX7_text_4 : decode cX7_text 4 = .ok (.putfield 146, 3) := by decide +kernel
theorem dX7_text_7 : decode cX7_text 7 = .ok (.aload_n 0, 1) := by decide +kernel
theorem dX7_text_8 : decode cX7_text 8 = .ok (.iconst 0, 1) := by decide +kernel
theorem dX7_text_9 : decode cX7_text 9 = .ok (.putfield 155, 3) := by decide +kernel
theorem dX7_text_12 : decode cX7_text 12 = .ok (.aload_n 0, 1) := by decide +kernel
theorem dX7_text_13 : decode cX7_text 13 = .ok (.invokevirtual 83, 3) := by decide +kernel
theorem dX7_text_16 : decode cX7_text 16 = .ok (.aload_n 0, 1) := by decide +kernel
theorem dX7_text_17 : decode cX7_text 17 = .ok (.invokevirtual 192, 3) := by decide +kernel
theorem dX7_text_20 : decode cX7_text 20 = .ok (.aload_n 0, 1) := by decide +kernel
theorem dX7_text_21 : decode cX7_text 21 = .ok (.getfield 146, 3) := by decide +kernel
theorem dX7_text_24 : decode cX7_text 24 = .ok (.ifCond .ne 20, 3) := by decide +kernel
theorem dX7_text_27 : decode cX7_text 27 = .ok (.aload_n 0, 1) := by decide +kernel
theorem dX7_text_28 : decode cX7_text 28 = .ok (.getfield 170, 3) := by decide +kernel
theorem dX7_text_31 : decode cX7_text 31 = .ok (.ifCond .eq 13, 3) := by decide +kernel
theorem dX7_text_34 : decode cX7_text 34 = .ok (.aload_n 0, 1) := by decide +kernel
theorem dX7_text_35 : decode cX7_text 35 = .ok (.invokevirtual 247, 3) := by decide +kernel
theorem dX7_text_38 : decode cX7_text 38 = .ok (.iinc 1 1, 3) := by decide +kernel
theorem dX7_text_41 : decode cX7_text 41 = .ok (.goto (-21), 3) := by decide +kernel
theorem dX7_text_44 : decode cX7_text 44 = .ok (.iconst 0, 1) := by decide +kernel
theorem dX7_text_45 : decode cX7_text 45 = .ok (.istore_n 2, 1) := by decide +kernel
theorem dX7_text_46 : decode cX7_text 46 = .ok (.iload_n 2, 1) := by decide +kernel
theorem dX7_text_47 : decode cX7_text 47 = .ok (.aload_n 0, 1) := by decide +kernel
theorem dX7_text_48 : decode cX7_text 48 = .ok (.getfield 112, 3) := by decide +kernel
theorem dX7_text_51 : decode cX7_text 51 = .ok (.if_icmp .ge 45, 3) := by decide +kernel
theorem dX7_text_54 : decode cX7_text 54 = .ok (.aload_n 0, 1) := by decide +kernel
theorem dX7_text_55 : decode cX7_text 55 = .ok (.getfield 146, 3) := by decide +kernel
theorem dX7_text_58 : decode cX7_text 58 = .ok (.ifCond .ne 38, 3) := by decide +kernel
theorem dX7_text_61 : decode cX7_text 61 = .ok (.aload_n 0, 1) := by decide +kernel
theorem dX7_text_62 : decode cX7_text 62 = .ok (.getfield 40, 3) := by decide +kernel
theorem dX7_text_65 : decode cX7_text 65 = .ok (.iload_n 2, 1) := by decide +kernel
theorem dX7_text_66 : decode cX7_text 66 = .ok (.iaload, 1) := by decide +kernel
theorem dX7_text_67 : decode cX7_text 67 = .ok (.aload_n 0, 1) := by decide +kernel
theorem dX7_text_68 : decode cX7_text 68 = .ok (.getfield 89, 3) := by decide +kernel
theorem dX7_text_71 : decode cX7_text 71 = .ok (.if_icmp .lt 19, 3) := by decide +kernel
theorem dX7_text_74 : decode cX7_text 74 = .ok (.aload_n 0, 1) := by decide +kernel
theorem dX7_text_75 : decode cX7_text 75 = .ok (.bipush 6, 2) := by decide +kernel
theorem dX7_text_77 : decode cX7_text 77 = .ok (.putfield 146, 3) := by decide +kernel
theorem dX7_text_80 : decode cX7_text 80 = .ok (.aload_n 0, 1) := by decide +kernel
theorem dX7_text_81 : decode cX7_text 81 = .ok (.aload_n 0, 1) := by decide +kernel
theorem dX7_text_82 : decode cX7_text 82 = .ok (.getfield 43, 3) := by decide +kernel
theorem dX7_text_85 : decode cX7_text 85 = .ok (.iload_n 2, 1) := by decide +kernel
theorem dX7_text_86 : decode cX7_text 86 = .ok (.iaload, 1) := by decide +kernel
theorem dX7_text_87 : decode cX7_text 87 = .ok (.putfield 152, 3) := by decide +kernel
theorem dX7_text_90 : decode cX7_text 90 = .ok (.iinc 2 1, 3) := by decide +kernel
theorem dX7_text_93 : decode cX7_text 93 = .ok (.goto (-47), 3) := by decide +kernel
theorem dX7_text_96 : decode cX7_text 96 = .ok (.aload_n 0, 1) := by decide +kernel
theorem dX7_text_97 : decode cX7_text 97 = .ok (.iconst 0, 1) := by decide +kernel
theorem dX7_text_98 : decode cX7_text 98 = .ok (.putfield 141, 3) := by decide +kernel
theorem dX7_text_101 : decode cX7_text 101 = .ok (.aload_n 0, 1) := by decide +kernel
theorem dX7_text_102 : decode cX7_text 102 = .ok (.getfield 146, 3) := by decide +kernel
theorem dX7_text_105 : decode cX7_text 105 = .ok (.ifCond .le 11, 3) := by decide +kernel
theorem dX7_text_108 : decode cX7_text 108 = .ok (.bipush (-10), 2) := by decide +kernel
theorem dX7_text_110 : decode cX7_text 110 = .ok (.aload_n 0, 1) := by decide +kernel
theorem dX7_text_111 : decode cX7_text 111 = .ok (.getfield 152, 3) := by decide +kernel
theorem dX7_text_114 : decode cX7_text 114 = .ok (.isub, 1) := by decide +kernel
theorem dX7_text_115 : decode cX7_text 115 = .ok (.ireturn, 1) := by decide +kernel
theorem dX7_text_116 : decode cX7_text 116 = .ok (.aload_n 0, 1) := by decide +kernel
theorem dX7_text_117 : decode cX7_text 117 = .ok (.invokevirtual 86, 3) := by decide +kernel
theorem dX7_text_120 : decode cX7_text 120 = .ok (.iload_n 1, 1) := by decide +kernel
theorem dX7_text_121 : decode cX7_text 121 = .ok (.ireturn, 1) := by decide +kernel
theorem dX7_fault_0 : decode cX7_fault 0 = .ok (.aload_n 0, 1) := by decide +kernel
theorem dX7_fault_1 : decode cX7_fault 1 = .ok (.getfield 146, 3) := by decide +kernel
theorem dX7_fault_4 : decode cX7_fault 4 = .ok (.ireturn, 1) := by decide +kernel
theorem dX7_isThing_0 : decode cX7_isThing 0 = .ok (.iload_n 1, 1) := by decide +kernel
theorem dX7_isThing_1 : decode cX7_isThing 1 = .ok (.i2l, 1) := by decide +kernel
theorem dX7_isThing_2 : decode cX7_isThing 2 = .ok (.lconst 0, 1) := by decide +kernel
theorem dX7_isThing_3 : decode cX7_isThing 3 = .ok (.aload_n 0, 1) := by decide +kernel
theorem dX7_isThing_4 : decode cX7_isThing 4 = .ok (.getfield 115, 3) := by decide +kernel
theorem dX7_isThing_7 : decode cX7_isThing 7 = .ok (.iconst 1, 1) := by decide +kernel
theorem dX7_isThing_8 : decode cX7_isThing 8 = .ok (.isub, 1) := by decide +kernel
theorem dX7_isThing_9 : decode cX7_isThing 9 = .ok (.i2l, 1) := by decide +kernel
theorem dX7_isThing_10 : decode cX7_isThing 10 = .ok (.invokestatic 134, 3) := by decide +kernel
theorem dX7_isThing_13 : decode cX7_isThing 13 = .ok (.ireturn, 1) := by decide +kernel
theorem dX7_isSupper_0 : decode cX7_isSupper 0 = .ok (.iload_n 1, 1) := by decide +kernel
theorem dX7_isSupper_1 : decode cX7_isSupper 1 = .ok (.i2l, 1) := by decide +kernel
theorem dX7_isSupper_2 : decode cX7_isSupper 2 = .ok (.lconst 0, 1) := by decide +kernel
theorem dX7_isSupper_3 : decode cX7_isSupper 3 = .ok (.aload_n 0, 1) := by decide +kernel
theorem dX7_isSupper_4 : decode cX7_isSupper 4 = .ok (.getfield 118, 3) := by decide +kernel
theorem dX7_isSupper_7 : decode cX7_isSupper 7 = .ok (.iconst 1, 1) := by decide +kernel
theorem dX7_isSupper_8 : decode cX7_isSupper 8 = .ok (.isub, 1) := by decide +kernel
theorem dX7_isSupper_9 : decode cX7_isSupper 9 = .ok (.i2l, 1) := by decide +kernel
theorem dX7_isSupper_10 : decode cX7_isSupper 10 = .ok (.invokestatic 134, 3) := by decide +kernel
theorem dX7_isSupper_13 : decode cX7_isSupper 13 = .ok (.ireturn, 1) := by decide +kernel
theorem dX7_keeps_0 : decode cX7_keeps 0 = .ok (.aload_n 0, 1) := by decide +kernel
theorem dX7_keeps_1 : decode cX7_keeps 1 = .ok (.getfield 7, 3) := by decide +kernel
theorem dX7_keeps_4 : decode cX7_keeps 4 = .ok (.iconst 3, 1) := by decide +kernel
theorem dX7_keeps_5 : decode cX7_keeps 5 = .ok (.iload_n 1, 1) := by decide +kernel
theorem dX7_keeps_6 : decode cX7_keeps 6 = .ok (.imul, 1) := by decide +kernel
theorem dX7_keeps_7 : decode cX7_keeps 7 = .ok (.iaload, 1) := by decide +kernel
theorem dX7_keeps_8 : decode cX7_keeps 8 = .ok (.ireturn, 1) := by decide +kernel
theorem dX7_kind_0 : decode cX7_kind 0 = .ok (.aload_n 0, 1) := by decide +kernel
theorem dX7_kind_1 : decode cX7_kind 1 = .ok (.getfield 13, 3) := by decide +kernel
theorem dX7_kind_4 : decode cX7_kind 4 = .ok (.iconst 5, 1) := by decide +kernel
theorem dX7_kind_5 : decode cX7_kind 5 = .ok (.iload_n 1, 1) := by decide +kernel
theorem dX7_kind_6 : decode cX7_kind 6 = .ok (.imul, 1) := by decide +kernel
theorem dX7_kind_7 : decode cX7_kind 7 = .ok (.iaload, 1) := by decide +kernel
theorem dX7_kind_8 : decode cX7_kind 8 = .ok (.ireturn, 1) := by decide +kernel
theorem dX7_thing_0 : decode cX7_thing 0 = .ok (.aload_n 0, 1) := by decide +kernel
theorem dX7_thing_1 : decode cX7_thing 1 = .ok (.iload_n 1, 1) := by decide +kernel
theorem dX7_thing_2 : decode cX7_thing 2 = .ok (.invokevirtual 250, 3) := by decide +kernel
theorem dX7_thing_5 : decode cX7_thing 5 = .ok (.ifCond .eq 28, 3) := by decide +kernel
theorem dX7_thing_8 : decode cX7_thing 8 = .ok (.iload_n 2, 1) := by decide +kernel
theorem dX7_thing_9 : decode cX7_thing 9 = .ok (.i2l, 1) := by decide +kernel
theorem dX7_thing_10 : decode cX7_thing 10 = .ok (.lconst 0, 1) := by decide +kernel
theorem dX7_thing_11 : decode cX7_thing 11 = .ok (.ldc2_w 254, 3) := by decide +kernel
theorem dX7_thing_14 : decode cX7_thing 14 = .ok (.invokestatic 134, 3) := by decide +kernel
theorem dX7_thing_17 : decode cX7_thing 17 = .ok (.ifCond .eq 16, 3) := by decide +kernel
theorem dX7_thing_20 : decode cX7_thing 20 = .ok (.aload_n 0, 1) := by decide +kernel
theorem dX7_thing_21 : decode cX7_thing 21 = .ok (.getfield 7, 3) := by decide +kernel
theorem dX7_thing_24 : decode cX7_thing 24 = .ok (.iconst 3, 1) := by decide +kernel
theorem dX7_thing_25 : decode cX7_thing 25 = .ok (.iload_n 1, 1) := by decide +kernel
theorem dX7_thing_26 : decode cX7_thing 26 = .ok (.imul, 1) := by decide +kernel
theorem dX7_thing_27 : decode cX7_thing 27 = .ok (.iload_n 2, 1) := by decide +kernel
theorem dX7_thing_28 : decode cX7_thing 28 = .ok (.iadd, 1) := by decide +kernel
theorem dX7_thing_29 : decode cX7_thing 29 = .ok (.iaload, 1) := by decide +kernel
theorem dX7_thing_30 : decode cX7_thing 30 = .ok (.goto 4, 3) := by decide +kernel
theorem dX7_thing_33 : decode cX7_thing 33 = .ok (.iconst (-1), 1) := by decide +kernel
theorem dX7_thing_34 : decode cX7_thing 34 = .ok (.ireturn, 1) := by decide +kernel
theorem dX7_supper_0 : decode cX7_supper 0 = .ok (.aload_n 0, 1) := by decide +kernel
theorem dX7_supper_1 : decode cX7_supper 1 = .ok (.iload_n 1, 1) := by decide +kernel
theorem dX7_supper_2 : decode cX7_supper 2 = .ok (.invokevirtual 256, 3) := by decide +kernel
theorem dX7_supper_5 : decode cX7_supper 5 = .ok (.ifCond .ne 5, 3) := by decide +kernel
theorem dX7_supper_8 : decode cX7_supper 8 = .ok (.iconst (-1), 1) := by decide +kernel
theorem dX7_supper_9 : decode cX7_supper 9 = .ok (.ireturn, 1) := by decide +kernel
theorem dX7_supper_10 : decode cX7_supper 10 = .ok (.iload_n 2, 1) := by decide +kernel
theorem dX7_supper_11 : decode cX7_supper 11 = .ok (.i2l, 1) := by decide +kernel
theorem dX7_supper_12 : decode cX7_supper 12 = .ok (.ldc2_w 227, 3) := by decide +kernel
theorem dX7_supper_15 : decode cX7_supper 15 = .ok (.ldc2_w 199, 3) := by decide +kernel
theorem dX7_supper_18 : decode cX7_supper 18 = .ok (.invokestatic 134, 3) := by decide +kernel
theorem dX7_supper_21 : decode cX7_supper 21 = .ok (.ifCond .eq 33, 3) := by decide +kernel
theorem dX7_supper_24 : decode cX7_supper 24 = .ok (.aload_n 0, 1) := by decide +kernel
theorem dX7_supper_25 : decode cX7_supper 25 = .ok (.iload_n 2, 1) := by decide +kernel
theorem dX7_supper_26 : decode cX7_supper 26 = .ok (.bipush 10, 2) := by decide +kernel
theorem dX7_supper_28 : decode cX7_supper 28 = .ok (.isub, 1) := by decide +kernel
theorem dX7_supper_29 : decode cX7_supper 29 = .ok (.invokevirtual 250, 3) := by decide +kernel
theorem dX7_supper_32 : decode cX7_supper 32 = .ok (.ifCond .eq 20, 3) := by decide +kernel
theorem dX7_supper_35 : decode cX7_supper 35 = .ok (.aload_n 0, 1) := by decide +kernel
theorem dX7_supper_36 : decode cX7_supper 36 = .ok (.getfield 16, 3) := by decide +kernel
theorem dX7_supper_39 : decode cX7_supper 39 = .ok (.bipush 6, 2) := by decide +kernel
theorem dX7_supper_41 : decode cX7_supper 41 = .ok (.iload_n 1, 1) := by decide +kernel
theorem dX7_supper_42 : decode cX7_supper 42 = .ok (.imul, 1) := by decide +kernel
theorem dX7_supper_43 : decode cX7_supper 43 = .ok (.iload_n 2, 1) := by decide +kernel
theorem dX7_supper_44 : decode cX7_supper 44 = .ok (.iadd, 1) := by decide +kernel
theorem dX7_supper_45 : decode cX7_supper 45 = .ok (.bipush 10, 2) := by decide +kernel
theorem dX7_supper_47 : decode cX7_supper 47 = .ok (.isub, 1) := by decide +kernel
theorem dX7_supper_48 : decode cX7_supper 48 = .ok (.iaload, 1) := by decide +kernel
theorem dX7_supper_49 : decode cX7_supper 49 = .ok (.goto 4, 3) := by decide +kernel
theorem dX7_supper_52 : decode cX7_supper 52 = .ok (.iconst (-1), 1) := by decide +kernel
theorem dX7_supper_53 : decode cX7_supper 53 = .ok (.ireturn, 1) := by decide +kernel
theorem dX7_supper_54 : decode cX7_supper 54 = .ok (.iload_n 2, 1) := by decide +kernel
theorem dX7_supper_55 : decode cX7_supper 55 = .ok (.i2l, 1) := by decide +kernel
theorem dX7_supper_56 : decode cX7_supper 56 = .ok (.ldc2_w 259, 3) := by decide +kernel
theorem dX7_supper_59 : decode cX7_supper 59 = .ok (.ldc2_w 261, 3) := by decide +kernel
theorem dX7_supper_62 : decode cX7_supper 62 = .ok (.invokestatic 134, 3) := by decide +kernel
theorem dX7_supper_65 : decode cX7_supper 65 = .ok (.ifCond .eq 33, 3) := by decide +kernel
theorem dX7_supper_68 : decode cX7_supper 68 = .ok (.aload_n 0, 1) := by decide +kernel
theorem dX7_supper_69 : decode cX7_supper 69 = .ok (.iload_n 2, 1) := by decide +kernel
theorem dX7_supper_70 : decode cX7_supper 70 = .ok (.bipush 20, 2) := by decide +kernel
theorem dX7_supper_72 : decode cX7_supper 72 = .ok (.isub, 1) := by decide +kernel
theorem dX7_supper_73 : decode cX7_supper 73 = .ok (.invokevirtual 250, 3) := by decide +kernel
theorem dX7_supper_76 : decode cX7_supper 76 = .ok (.ifCond .eq 20, 3) := by decide +kernel
theorem dX7_supper_79 : decode cX7_supper 79 = .ok (.aload_n 0, 1) := by decide +kernel
theorem dX7_supper_80 : decode cX7_supper 80 = .ok (.getfield 19, 3) := by decide +kernel
theorem dX7_supper_83 : decode cX7_supper 83 = .ok (.bipush 6, 2) := by decide +kernel
theorem dX7_supper_85 : decode cX7_supper 85 = .ok (.iload_n 1, 1) := by decide +kernel
theorem dX7_supper_86 : decode cX7_supper 86 = .ok (.imul, 1) := by decide +kernel
theorem dX7_supper_87 : decode cX7_supper 87 = .ok (.iload_n 2, 1) := by decide +kernel
theorem dX7_supper_88 : decode cX7_supper 88 = .ok (.iadd, 1) := by decide +kernel
theorem dX7_supper_89 : decode cX7_supper 89 = .ok (.bipush 20, 2) := by decide +kernel
theorem dX7_supper_91 : decode cX7_supper 91 = .ok (.isub, 1) := by decide +kernel
theorem dX7_supper_92 : decode cX7_supper 92 = .ok (.iaload, 1) := by decide +kernel
theorem dX7_supper_93 : decode cX7_supper 93 = .ok (.goto 4, 3) := by decide +kernel
theorem dX7_supper_96 : decode cX7_supper 96 = .ok (.iconst (-1), 1) := by decide +kernel
theorem dX7_supper_97 : decode cX7_supper 97 = .ok (.ireturn, 1) := by decide +kernel
theorem dX7_supper_98 : decode cX7_supper 98 = .ok (.iload_n 2, 1) := by decide +kernel
theorem dX7_supper_99 : decode cX7_supper 99 = .ok (.i2l, 1) := by decide +kernel
theorem dX7_supper_100 : decode cX7_supper 100 = .ok (.lconst 0, 1) := by decide +kernel
theorem dX7_supper_101 : decode cX7_supper 101 = .ok (.ldc2_w 263, 3) := by decide +kernel
theorem dX7_supper_104 : decode cX7_supper 104 = .ok (.invokestatic 134, 3) := by decide +kernel
theorem dX7_supper_107 : decode cX7_supper 107 = .ok (.ifCond .eq 16, 3) := by decide +kernel
theorem dX7_supper_110 : decode cX7_supper 110 = .ok (.aload_n 0, 1) := by decide +kernel
theorem dX7_supper_111 : decode cX7_supper 111 = .ok (.getfield 13, 3) := by decide +kernel
theorem dX7_supper_114 : decode cX7_supper 114 = .ok (.iconst 5, 1) := by decide +kernel
theorem dX7_supper_115 : decode cX7_supper 115 = .ok (.iload_n 1, 1) := by decide +kernel
theorem dX7_supper_116 : decode cX7_supper 116 = .ok (.imul, 1) := by decide +kernel
theorem dX7_supper_117 : decode cX7_supper 117 = .ok (.iload_n 2, 1) := by decide +kernel
theorem dX7_supper_118 : decode cX7_supper 118 = .ok (.iadd, 1) := by decide +kernel
theorem dX7_supper_119 : decode cX7_supper 119 = .ok (.iaload, 1) := by decide +kernel
theorem dX7_supper_120 : decode cX7_supper 120 = .ok (.goto 4, 3) := by decide +kernel
theorem dX7_supper_123 : decode cX7_supper 123 = .ok (.iconst (-1), 1) := by decide +kernel
theorem dX7_supper_124 : decode cX7_supper 124 = .ok (.ireturn, 1) := by decide +kernel
theorem dX7_rule_0 : decode cX7_rule 0 = .ok (.iload_n 1, 1) := by decide +kernel
theorem dX7_rule_1 : decode cX7_rule 1 = .ok (.i2l, 1) := by decide +kernel
theorem dX7_rule_2 : decode cX7_rule 2 = .ok (.ldc2_w 227, 3) := by decide +kernel
theorem dX7_rule_5 : decode cX7_rule 5 = .ok (.ldc2_w 265, 3) := by decide +kernel
theorem dX7_rule_8 : decode cX7_rule 8 = .ok (.invokestatic 134, 3) := by decide +kernel
theorem dX7_rule_11 : decode cX7_rule 11 = .ok (.ifCond .eq 15, 3) := by decide +kernel
theorem dX7_rule_14 : decode cX7_rule 14 = .ok (.aload_n 0, 1) := by decide +kernel
theorem dX7_rule_15 : decode cX7_rule 15 = .ok (.getfield 22, 3) := by decide +kernel
theorem dX7_rule_18 : decode cX7_rule 18 = .ok (.iload_n 1, 1) := by decide +kernel
theorem dX7_rule_19 : decode cX7_rule 19 = .ok (.bipush 10, 2) := by decide +kernel
theorem dX7_rule_21 : decode cX7_rule 21 = .ok (.isub, 1) := by decide +kernel
theorem dX7_rule_22 : decode cX7_rule 22 = .ok (.iaload, 1) := by decide +kernel
theorem dX7_rule_23 : decode cX7_rule 23 = .ok (.goto 39, 3) := by decide +kernel
theorem dX7_rule_26 : decode cX7_rule 26 = .ok (.iload_n 1, 1) := by decide +kernel
theorem dX7_rule_27 : decode cX7_rule 27 = .ok (.ifCond .ne 10, 3) := by decide +kernel
theorem dX7_rule_30 : decode cX7_rule 30 = .ok (.aload_n 0, 1) := by decide +kernel
theorem dX7_rule_31 : decode cX7_rule 31 = .ok (.getfield 121, 3) := by decide +kernel
theorem dX7_rule_34 : decode cX7_rule 34 = .ok (.goto 28, 3) := by decide +kernel
theorem dX7_rule_37 : decode cX7_rule 37 = .ok (.iload_n 1, 1) := by decide +kernel
theorem dX7_rule_38 : decode cX7_rule 38 = .ok (.iconst 1, 1) := by decide +kernel
theorem dX7_rule_39 : decode cX7_rule 39 = .ok (.if_icmp .ne 10, 3) := by decide +kernel
theorem dX7_rule_42 : decode cX7_rule 42 = .ok (.aload_n 0, 1) := by decide +kernel
theorem dX7_rule_43 : decode cX7_rule 43 = .ok (.getfield 124, 3) := by decide +kernel
theorem dX7_rule_46 : decode cX7_rule 46 = .ok (.goto 16, 3) := by decide +kernel
theorem dX7_rule_49 : decode cX7_rule 49 = .ok (.iload_n 1, 1) := by decide +kernel
theorem dX7_rule_50 : decode cX7_rule 50 = .ok (.iconst 2, 1) := by decide +kernel
theorem dX7_rule_51 : decode cX7_rule 51 = .ok (.if_icmp .ne 10, 3) := by decide +kernel
theorem dX7_rule_54 : decode cX7_rule 54 = .ok (.aload_n 0, 1) := by decide +kernel
theorem dX7_rule_55 : decode cX7_rule 55 = .ok (.getfield 127, 3) := by decide +kernel
theorem dX7_rule_58 : decode cX7_rule 58 = .ok (.goto 4, 3) := by decide +kernel
theorem dX7_rule_61 : decode cX7_rule 61 = .ok (.iconst (-1), 1) := by decide +kernel
theorem dX7_rule_62 : decode cX7_rule 62 = .ok (.ireturn, 1) := by decide +kernel
theorem dX7_copies_0 : decode cX7_copies 0 = .ok (.iconst 0, 1) := by decide +kernel
theorem dX7_copies_1 : decode cX7_copies 1 = .ok (.istore_n 3, 1) := by decide +kernel
theorem dX7_copies_2 : decode cX7_copies 2 = .ok (.iload_n 3, 1) := by decide +kernel
theorem dX7_copies_3 : decode cX7_copies 3 = .ok (.bipush 40, 2) := by decide +kernel
theorem dX7_copies_5 : decode cX7_copies 5 = .ok (.if_icmp .ge 25, 3) := by decide +kernel
theorem dX7_copies_8 : decode cX7_copies 8 = .ok (.aload_n 0, 1) := by decide +kernel
theorem dX7_copies_9 : decode cX7_copies 9 = .ok (.getfield 49, 3) := by decide +kernel
theorem dX7_copies_12 : decode cX7_copies 12 = .ok (.iload_n 1, 1) := by decide +kernel
theorem dX7_copies_13 : decode cX7_copies 13 = .ok (.iload_n 3, 1) := by decide +kernel
theorem dX7_copies_14 : decode cX7_copies 14 = .ok (.iadd, 1) := by decide +kernel
theorem dX7_copies_15 : decode cX7_copies 15 = .ok (.aload_n 0, 1) := by decide +kernel
theorem dX7_copies_16 : decode cX7_copies 16 = .ok (.getfield 49, 3) := by decide +kernel
theorem dX7_copies_19 : decode cX7_copies 19 = .ok (.iload_n 2, 1) := by decide +kernel
theorem dX7_copies_20 : decode cX7_copies 20 = .ok (.iload_n 3, 1) := by decide +kernel
theorem dX7_copies_21 : decode cX7_copies 21 = .ok (.iadd, 1) := by decide +kernel
theorem dX7_copies_22 : decode cX7_copies 22 = .ok (.iaload, 1) := by decide +kernel
theorem dX7_copies_23 : decode cX7_copies 23 = .ok (.iastore, 1) := by decide +kernel
theorem dX7_copies_24 : decode cX7_copies 24 = .ok (.iinc 3 1, 3) := by decide +kernel
theorem dX7_copies_27 : decode cX7_copies 27 = .ok (.goto (-25), 3) := by decide +kernel
theorem dX7_copies_30 : decode cX7_copies 30 = .ok (.return_, 1) := by decide +kernel
theorem dX7_have_0 : decode cX7_have 0 = .ok (.iconst 0, 1) := by decide +kernel
theorem dX7_have_1 : decode cX7_have 1 = .ok (.istore_n 3, 1) := by decide +kernel
theorem dX7_have_2 : decode cX7_have 2 = .ok (.iconst 0, 1) := by decide +kernel
theorem dX7_have_3 : decode cX7_have 3 = .ok (.istore 4, 2) := by decide +kernel
theorem dX7_have_5 : decode cX7_have 5 = .ok (.iload 4, 2) := by decide +kernel
theorem dX7_have_7 : decode cX7_have 7 = .ok (.iconst 4, 1) := by decide +kernel
theorem dX7_have_8 : decode cX7_have 8 = .ok (.if_icmp .ge 25, 3) := by decide +kernel
theorem dX7_have_11 : decode cX7_have 11 = .ok (.iload_n 3, 1) := by decide +kernel
theorem dX7_have_12 : decode cX7_have 12 = .ok (.aload_n 0, 1) := by decide +kernel
theorem dX7_have_13 : decode cX7_have 13 = .ok (.getfield 49, 3) := by decide +kernel
theorem dX7_have_16 : decode cX7_have 16 = .ok (.iload_n 1, 1) := by decide +kernel
theorem dX7_have_17 : decode cX7_have 17 = .ok (.iconst 4, 1) := by decide +kernel
theorem dX7_have_18 : decode cX7_have 18 = .ok (.iload_n 2, 1) := by decide +kernel
theorem dX7_have_19 : decode cX7_have 19 = .ok (.imul, 1) := by decide +kernel
theorem dX7_have_20 : decode cX7_have 20 = .ok (.iadd, 1) := by decide +kernel
theorem dX7_have_21 : decode cX7_have 21 = .ok (.iload 4, 2) := by decide +kernel
theorem dX7_have_23 : decode cX7_have 23 = .ok (.iadd, 1) := by decide +kernel
theorem dX7_have_24 : decode cX7_have 24 = .ok (.iaload, 1) := by decide +kernel
theorem dX7_have_25 : decode cX7_have 25 = .ok (.iadd, 1) := by decide +kernel
theorem dX7_have_26 : decode cX7_have 26 = .ok (.istore_n 3, 1) := by decide +kernel
theorem dX7_have_27 : decode cX7_have 27 = .ok (.iinc 4 1, 3) := by decide +kernel
theorem dX7_have_30 : decode cX7_have 30 = .ok (.goto (-25), 3) := by decide +kernel
theorem dX7_have_33 : decode cX7_have 33 = .ok (.iload_n 3, 1) := by decide +kernel
theorem dX7_have_34 : decode cX7_have 34 = .ok (.ireturn, 1) := by decide +kernel
theorem dX7_wantOf_0 : decode cX7_wantOf 0 = .ok (.aload_n 0, 1) := by decide +kernel
theorem dX7_wantOf_1 : decode cX7_wantOf 1 = .ok (.getfield 16, 3) := by decide +kernel
theorem dX7_wantOf_4 : decode cX7_wantOf 4 = .ok (.bipush 6, 2) := by decide +kernel
theorem dX7_wantOf_6 : decode cX7_wantOf 6 = .ok (.iload_n 1, 1) := by decide +kernel
theorem dX7_wantOf_7 : decode cX7_wantOf 7 = .ok (.imul, 1) := by decide +kernel
theorem dX7_wantOf_8 : decode cX7_wantOf 8 = .ok (.iload_n 3, 1) := by decide +kernel
theorem dX7_wantOf_9 : decode cX7_wantOf 9 = .ok (.iadd, 1) := by decide +kernel
theorem dX7_wantOf_10 : decode cX7_wantOf 10 = .ok (.iaload, 1) := by decide +kernel
theorem dX7_wantOf_11 : decode cX7_wantOf 11 = .ok (.istore 4, 2) := by decide +kernel
theorem dX7_wantOf_13 : decode cX7_wantOf 13 = .ok (.iload 4, 2) := by decide +kernel
theorem dX7_wantOf_15 : decode cX7_wantOf 15 = .ok (.ifCond .le 23, 3) := by decide +kernel
theorem dX7_wantOf_18 : decode cX7_wantOf 18 = .ok (.iload_n 2, 1) := by decide +kernel
theorem dX7_wantOf_19 : decode cX7_wantOf 19 = .ok (.ifCond .eq 19, 3) := by decide +kernel
theorem dX7_wantOf_22 : decode cX7_wantOf 22 = .ok (.aload_n 0, 1) := by decide +kernel
theorem dX7_wantOf_23 : decode cX7_wantOf 23 = .ok (.iload_n 1, 1) := by decide +kernel
theorem dX7_wantOf_24 : decode cX7_wantOf 24 = .ok (.invokevirtual 267, 3) := by decide +kernel
theorem dX7_wantOf_27 : decode cX7_wantOf 27 = .ok (.iconst 2, 1) := by decide +kernel
theorem dX7_wantOf_28 : decode cX7_wantOf 28 = .ok (.if_icmp .eq 10, 3) := by decide +kernel
theorem dX7_wantOf_31 : decode cX7_wantOf 31 = .ok (.iload 4, 2) := by decide +kernel
theorem dX7_wantOf_33 : decode cX7_wantOf 33 = .ok (.iconst 1, 1) := by decide +kernel
theorem dX7_wantOf_34 : decode cX7_wantOf 34 = .ok (.iadd, 1) := by decide +kernel
theorem dX7_wantOf_35 : decode cX7_wantOf 35 = .ok (.goto 5, 3) := by decide +kernel
theorem dX7_wantOf_38 : decode cX7_wantOf 38 = .ok (.iload 4, 2) := by decide +kernel
theorem dX7_wantOf_40 : decode cX7_wantOf 40 = .ok (.ireturn, 1) := by decide +kernel
theorem dX7_anyOf_0 : decode cX7_anyOf 0 = .ok (.aload_n 0, 1) := by decide +kernel
theorem dX7_anyOf_1 : decode cX7_anyOf 1 = .ok (.getfield 13, 3) := by decide +kernel
theorem dX7_anyOf_4 : decode cX7_anyOf 4 = .ok (.iconst 5, 1) := by decide +kernel
theorem dX7_anyOf_5 : decode cX7_anyOf 5 = .ok (.iload_n 1, 1) := by decide +kernel
theorem dX7_anyOf_6 : decode cX7_anyOf 6 = .ok (.imul, 1) := by decide +kernel
theorem dX7_anyOf_7 : decode cX7_anyOf 7 = .ok (.iconst 3, 1) := by decide +kernel
theorem dX7_anyOf_8 : decode cX7_anyOf 8 = .ok (.iadd, 1) := by decide +kernel
theorem dX7_anyOf_9 : decode cX7_anyOf 9 = .ok (.iaload, 1) := by decide +kernel
theorem dX7_anyOf_10 : decode cX7_anyOf 10 = .ok (.iload_n 2, 1) := by decide +kernel
theorem dX7_anyOf_11 : decode cX7_anyOf 11 = .ok (.invokestatic 270, 3) := by decide +kernel
theorem dX7_anyOf_14 : decode cX7_anyOf 14 = .ok (.iadd, 1) := by decide +kernel
theorem dX7_anyOf_15 : decode cX7_anyOf 15 = .ok (.ireturn, 1) := by decide +kernel
theorem dX7_isAmong_0 : decode cX7_isAmong 0 = .ok (.aload_n 0, 1) := by decide +kernel
theorem dX7_isAmong_1 : decode cX7_isAmong 1 = .ok (.getfield 13, 3) := by decide +kernel
theorem dX7_isAmong_4 : decode cX7_isAmong 4 = .ok (.iconst 5, 1) := by decide +kernel
theorem dX7_isAmong_5 : decode cX7_isAmong 5 = .ok (.iload_n 1, 1) := by decide +kernel
theorem dX7_isAmong_6 : decode cX7_isAmong 6 = .ok (.imul, 1) := by decide +kernel
theorem dX7_isAmong_7 : decode cX7_isAmong 7 = .ok (.iconst 4, 1) := by decide +kernel
theorem dX7_isAmong_8 : decode cX7_isAmong 8 = .ok (.iadd, 1) := by decide +kernel
theorem dX7_isAmong_9 : decode cX7_isAmong 9 = .ok (.iaload, 1) := by decide +kernel
theorem dX7_isAmong_10 : decode cX7_isAmong 10 = .ok (.iload_n 2, 1) := by decide +kernel
theorem dX7_isAmong_11 : decode cX7_isAmong 11 = .ok (.ishr, 1) := by decide +kernel
theorem dX7_isAmong_12 : decode cX7_isAmong 12 = .ok (.iconst 1, 1) := by decide +kernel
theorem dX7_isAmong_13 : decode cX7_isAmong 13 = .ok (.iand, 1) := by decide +kernel
theorem dX7_isAmong_14 : decode cX7_isAmong 14 = .ok (.iconst 1, 1) := by decide +kernel
theorem dX7_isAmong_15 : decode cX7_isAmong 15 = .ok (.if_icmp .ne 7, 3) := by decide +kernel
theorem dX7_isAmong_18 : decode cX7_isAmong 18 = .ok (.iconst 1, 1) := by decide +kernel
theorem dX7_isAmong_19 : decode cX7_isAmong 19 = .ok (.goto 4, 3) := by decide +kernel
theorem dX7_isAmong_22 : decode cX7_isAmong 22 = .ok (.iconst 0, 1) := by decide +kernel
theorem dX7_isAmong_23 : decode cX7_isAmong 23 = .ok (.ireturn, 1) := by decide +kernel
theorem dX7_haveAll_0 : decode cX7_haveAll 0 = .ok (.iconst 0, 1) := by decide +kernel
theorem dX7_haveAll_1 : decode cX7_haveAll 1 = .ok (.istore_n 3, 1) := by decide +kernel
theorem dX7_haveAll_2 : decode cX7_haveAll 2 = .ok (.iconst 0, 1) := by decide +kernel
theorem dX7_haveAll_3 : decode cX7_haveAll 3 = .ok (.istore 4, 2) := by decide +kernel
theorem dX7_haveAll_5 : decode cX7_haveAll 5 = .ok (.iload 4, 2) := by decide +kernel
theorem dX7_haveAll_7 : decode cX7_haveAll 7 = .ok (.aload_n 0, 1) := by decide +kernel
theorem dX7_haveAll_8 : decode cX7_haveAll 8 = .ok (.getfield 115, 3) := by decide +kernel
theorem dX7_haveAll_11 : decode cX7_haveAll 11 = .ok (.if_icmp .ge 33, 3) := by decide +kernel
theorem dX7_haveAll_14 : decode cX7_haveAll 14 = .ok (.iload_n 3, 1) := by decide +kernel
theorem dX7_haveAll_15 : decode cX7_haveAll 15 = .ok (.aload_n 0, 1) := by decide +kernel
theorem dX7_haveAll_16 : decode cX7_haveAll 16 = .ok (.iload_n 2, 1) := by decide +kernel
theorem dX7_haveAll_17 : decode cX7_haveAll 17 = .ok (.iload 4, 2) := by decide +kernel
theorem dX7_haveAll_19 : decode cX7_haveAll 19 = .ok (.invokevirtual 273, 3) := by decide +kernel
theorem dX7_haveAll_22 : decode cX7_haveAll 22 = .ok (.ifCond .eq 13, 3) := by decide +kernel
theorem dX7_haveAll_25 : decode cX7_haveAll 25 = .ok (.aload_n 0, 1) := by decide +kernel
theorem dX7_haveAll_26 : decode cX7_haveAll 26 = .ok (.iload_n 1, 1) := by decide +kernel
theorem dX7_haveAll_27 : decode cX7_haveAll 27 = .ok (.iload 4, 2) := by decide +kernel
theorem dX7_haveAll_29 : decode cX7_haveAll 29 = .ok (.invokevirtual 276, 3) := by decide +kernel
theorem dX7_haveAll_32 : decode cX7_haveAll 32 = .ok (.goto 4, 3) := by decide +kernel
theorem dX7_haveAll_35 : decode cX7_haveAll 35 = .ok (.iconst 0, 1) := by decide +kernel
theorem dX7_haveAll_36 : decode cX7_haveAll 36 = .ok (.iadd, 1) := by decide +kernel
theorem dX7_haveAll_37 : decode cX7_haveAll 37 = .ok (.istore_n 3, 1) := by decide +kernel
theorem dX7_haveAll_38 : decode cX7_haveAll 38 = .ok (.iinc 4 1, 3) := by decide +kernel
theorem dX7_haveAll_41 : decode cX7_haveAll 41 = .ok (.goto (-36), 3) := by decide +kernel
theorem dX7_haveAll_44 : decode cX7_haveAll 44 = .ok (.iload_n 3, 1) := by decide +kernel
theorem dX7_haveAll_45 : decode cX7_haveAll 45 = .ok (.ireturn, 1) := by decide +kernel
theorem dX7_lackOf_0 : decode cX7_lackOf 0 = .ok (.aload_n 0, 1) := by decide +kernel
theorem dX7_lackOf_1 : decode cX7_lackOf 1 = .ok (.iload_n 2, 1) := by decide +kernel
theorem dX7_lackOf_2 : decode cX7_lackOf 2 = .ok (.invokevirtual 267, 3) := by decide +kernel
theorem dX7_lackOf_5 : decode cX7_lackOf 5 = .ok (.iconst 3, 1) := by decide +kernel
theorem dX7_lackOf_6 : decode cX7_lackOf 6 = .ok (.if_icmp .ne 33, 3) := by decide +kernel
theorem dX7_lackOf_9 : decode cX7_lackOf 9 = .ok (.aload_n 0, 1) := by decide +kernel
theorem dX7_lackOf_10 : decode cX7_lackOf 10 = .ok (.iload_n 2, 1) := by decide +kernel
theorem dX7_lackOf_11 : decode cX7_lackOf 11 = .ok (.iload 4, 2) := by decide +kernel
theorem dX7_lackOf_13 : decode cX7_lackOf 13 = .ok (.invokevirtual 273, 3) := by decide +kernel
theorem dX7_lackOf_16 : decode cX7_lackOf 16 = .ok (.ifCond .eq 19, 3) := by decide +kernel
theorem dX7_lackOf_19 : decode cX7_lackOf 19 = .ok (.aload_n 0, 1) := by decide +kernel
theorem dX7_lackOf_20 : decode cX7_lackOf 20 = .ok (.iload_n 2, 1) := by decide +kernel
theorem dX7_lackOf_21 : decode cX7_lackOf 21 = .ok (.iload_n 3, 1) := by decide +kernel
theorem dX7_lackOf_22 : decode cX7_lackOf 22 = .ok (.invokevirtual 279, 3) := by decide +kernel
theorem dX7_lackOf_25 : decode cX7_lackOf 25 = .ok (.aload_n 0, 1) := by decide +kernel
theorem dX7_lackOf_26 : decode cX7_lackOf 26 = .ok (.iload_n 1, 1) := by decide +kernel
theorem dX7_lackOf_27 : decode cX7_lackOf 27 = .ok (.iload_n 2, 1) := by decide +kernel
theorem dX7_lackOf_28 : decode cX7_lackOf 28 = .ok (.invokevirtual 283, 3) := by decide +kernel
theorem dX7_lackOf_31 : decode cX7_lackOf 31 = .ok (.isub, 1) := by decide +kernel
theorem dX7_lackOf_32 : decode cX7_lackOf 32 = .ok (.goto 23, 3) := by decide +kernel
theorem dX7_lackOf_35 : decode cX7_lackOf 35 = .ok (.iconst 0, 1) := by decide +kernel
theorem dX7_lackOf_36 : decode cX7_lackOf 36 = .ok (.goto 19, 3) := by decide +kernel
theorem dX7_lackOf_39 : decode cX7_lackOf 39 = .ok (.aload_n 0, 1) := by decide +kernel
theorem dX7_lackOf_40 : decode cX7_lackOf 40 = .ok (.iload_n 2, 1) := by decide +kernel
theorem dX7_lackOf_41 : decode cX7_lackOf 41 = .ok (.iload_n 3, 1) := by decide +kernel
theorem dX7_lackOf_42 : decode cX7_lackOf 42 = .ok (.iload 4, 2) := by decide +kernel
theorem dX7_lackOf_44 : decode cX7_lackOf 44 = .ok (.invokevirtual 286, 3) := by decide +kernel
theorem dX7_lackOf_47 : decode cX7_lackOf 47 = .ok (.aload_n 0, 1) := by decide +kernel
theorem dX7_lackOf_48 : decode cX7_lackOf 48 = .ok (.iload_n 1, 1) := by decide +kernel
theorem dX7_lackOf_49 : decode cX7_lackOf 49 = .ok (.iload 4, 2) := by decide +kernel
theorem dX7_lackOf_51 : decode cX7_lackOf 51 = .ok (.invokevirtual 276, 3) := by decide +kernel
theorem dX7_lackOf_54 : decode cX7_lackOf 54 = .ok (.isub, 1) := by decide +kernel
theorem dX7_lackOf_55 : decode cX7_lackOf 55 = .ok (.istore 5, 2) := by decide +kernel
theorem dX7_lackOf_57 : decode cX7_lackOf 57 = .ok (.iload 5, 2) := by decide +kernel
theorem dX7_lackOf_59 : decode cX7_lackOf 59 = .ok (.ifCond .ge 7, 3) := by decide +kernel
theorem dX7_lackOf_62 : decode cX7_lackOf 62 = .ok (.iconst 0, 1) := by decide +kernel
theorem dX7_lackOf_63 : decode cX7_lackOf 63 = .ok (.goto 5, 3) := by decide +kernel
theorem dX7_lackOf_66 : decode cX7_lackOf 66 = .ok (.iload 5, 2) := by decide +kernel
theorem dX7_lackOf_68 : decode cX7_lackOf 68 = .ok (.ireturn, 1) := by decide +kernel
theorem dX7_weekDay_0 : decode cX7_weekDay 0 = .ok (.aload_n 0, 1) := by decide +kernel
theorem dX7_weekDay_1 : decode cX7_weekDay 1 = .ok (.getfield 49, 3) := by decide +kernel
theorem dX7_weekDay_4 : decode cX7_weekDay 4 = .ok (.iload_n 1, 1) := by decide +kernel
theorem dX7_weekDay_5 : decode cX7_weekDay 5 = .ok (.bipush 36, 2) := by decide +kernel
theorem dX7_weekDay_7 : decode cX7_weekDay 7 = .ok (.iadd, 1) := by decide +kernel
theorem dX7_weekDay_8 : decode cX7_weekDay 8 = .ok (.iaload, 1) := by decide +kernel
theorem dX7_weekDay_9 : decode cX7_weekDay 9 = .ok (.bipush 7, 2) := by decide +kernel
theorem dX7_weekDay_11 : decode cX7_weekDay 11 = .ok (.irem, 1) := by decide +kernel
theorem dX7_weekDay_12 : decode cX7_weekDay 12 = .ok (.ireturn, 1) := by decide +kernel
theorem dX7_isBought_0 : decode cX7_isBought 0 = .ok (.aload_n 0, 1) := by decide +kernel
theorem dX7_isBought_1 : decode cX7_isBought 1 = .ok (.iload_n 2, 1) := by decide +kernel
theorem dX7_isBought_2 : decode cX7_isBought 2 = .ok (.invokevirtual 267, 3) := by decide +kernel
theorem dX7_isBought_5 : decode cX7_isBought 5 = .ok (.ifCond .eq 12, 3) := by decide +kernel
theorem dX7_isBought_8 : decode cX7_isBought 8 = .ok (.aload_n 0, 1) := by decide +kernel
theorem dX7_isBought_9 : decode cX7_isBought 9 = .ok (.iload_n 2, 1) := by decide +kernel
theorem dX7_isBought_10 : decode cX7_isBought 10 = .ok (.invokevirtual 267, 3) := by decide +kernel
theorem dX7_isBought_13 : decode cX7_isBought 13 = .ok (.iconst 2, 1) := by decide +kernel
theorem dX7_isBought_14 : decode cX7_isBought 14 = .ok (.if_icmp .ne 36, 3) := by decide +kernel
theorem dX7_isBought_17 : decode cX7_isBought 17 = .ok (.aload_n 0, 1) := by decide +kernel
theorem dX7_isBought_18 : decode cX7_isBought 18 = .ok (.getfield 7, 3) := by decide +kernel
theorem dX7_isBought_21 : decode cX7_isBought 21 = .ok (.iconst 3, 1) := by decide +kernel
theorem dX7_isBought_22 : decode cX7_isBought 22 = .ok (.iload_n 3, 1) := by decide +kernel
theorem dX7_isBought_23 : decode cX7_isBought 23 = .ok (.imul, 1) := by decide +kernel
theorem dX7_isBought_24 : decode cX7_isBought 24 = .ok (.iconst 2, 1) := by decide +kernel
theorem dX7_isBought_25 : decode cX7_isBought 25 = .ok (.iadd, 1) := by decide +kernel
theorem dX7_isBought_26 : decode cX7_isBought 26 = .ok (.iaload, 1) := by decide +kernel
theorem dX7_isBought_27 : decode cX7_isBought 27 = .ok (.ifCond .le 23, 3) := by decide +kernel
theorem dX7_isBought_30 : decode cX7_isBought 30 = .ok (.aload_n 0, 1) := by decide +kernel
theorem dX7_isBought_31 : decode cX7_isBought 31 = .ok (.getfield 124, 3) := by decide +kernel
theorem dX7_isBought_34 : decode cX7_isBought 34 = .ok (.aload_n 0, 1) := by decide +kernel
theorem dX7_isBought_35 : decode cX7_isBought 35 = .ok (.iload_n 1, 1) := by decide +kernel
theorem dX7_isBought_36 : decode cX7_isBought 36 = .ok (.invokevirtual 290, 3) := by decide +kernel
theorem dX7_isBought_39 : decode cX7_isBought 39 = .ok (.ishr, 1) := by decide +kernel
theorem dX7_isBought_40 : decode cX7_isBought 40 = .ok (.iconst 1, 1) := by decide +kernel
theorem dX7_isBought_41 : decode cX7_isBought 41 = .ok (.iand, 1) := by decide +kernel
theorem dX7_isBought_42 : decode cX7_isBought 42 = .ok (.iconst 1, 1) := by decide +kernel
theorem dX7_isBought_43 : decode cX7_isBought 43 = .ok (.if_icmp .ne 7, 3) := by decide +kernel
theorem dX7_isBought_46 : decode cX7_isBought 46 = .ok (.iconst 1, 1) := by decide +kernel
theorem dX7_isBought_47 : decode cX7_isBought 47 = .ok (.goto 4, 3) := by decide +kernel
theorem dX7_isBought_50 : decode cX7_isBought 50 = .ok (.iconst 0, 1) := by decide +kernel
theorem dX7_isBought_51 : decode cX7_isBought 51 = .ok (.ireturn, 1) := by decide +kernel
theorem dX7_packsOf_0 : decode cX7_packsOf 0 = .ok (.aload_n 0, 1) := by decide +kernel
theorem dX7_packsOf_1 : decode cX7_packsOf 1 = .ok (.getfield 7, 3) := by decide +kernel
theorem dX7_packsOf_4 : decode cX7_packsOf 4 = .ok (.iconst 3, 1) := by decide +kernel
theorem dX7_packsOf_5 : decode cX7_packsOf 5 = .ok (.iload 4, 2) := by decide +kernel
theorem dX7_packsOf_7 : decode cX7_packsOf 7 = .ok (.imul, 1) := by decide +kernel
theorem dX7_packsOf_8 : decode cX7_packsOf 8 = .ok (.iconst 1, 1) := by decide +kernel
theorem dX7_packsOf_9 : decode cX7_packsOf 9 = .ok (.iadd, 1) := by decide +kernel
theorem dX7_packsOf_10 : decode cX7_packsOf 10 = .ok (.iaload, 1) := by decide +kernel
theorem dX7_packsOf_11 : decode cX7_packsOf 11 = .ok (.istore 5, 2) := by decide +kernel
theorem dX7_packsOf_13 : decode cX7_packsOf 13 = .ok (.aload_n 0, 1) := by decide +kernel
theorem dX7_packsOf_14 : decode cX7_packsOf 14 = .ok (.iload_n 1, 1) := by decide +kernel
theorem dX7_packsOf_15 : decode cX7_packsOf 15 = .ok (.iload_n 2, 1) := by decide +kernel
theorem dX7_packsOf_16 : decode cX7_packsOf 16 = .ok (.iload 4, 2) := by decide +kernel
theorem dX7_packsOf_18 : decode cX7_packsOf 18 = .ok (.invokevirtual 293, 3) := by decide +kernel
theorem dX7_packsOf_21 : decode cX7_packsOf 21 = .ok (.ifCond .eq 23, 3) := by decide +kernel
theorem dX7_packsOf_24 : decode cX7_packsOf 24 = .ok (.aload_n 0, 1) := by decide +kernel
theorem dX7_packsOf_25 : decode cX7_packsOf 25 = .ok (.iload_n 1, 1) := by decide +kernel
theorem dX7_packsOf_26 : decode cX7_packsOf 26 = .ok (.iload_n 2, 1) := by decide +kernel
theorem dX7_packsOf_27 : decode cX7_packsOf 27 = .ok (.iload_n 3, 1) := by decide +kernel
theorem dX7_packsOf_28 : decode cX7_packsOf 28 = .ok (.iload 4, 2) := by decide +kernel
theorem dX7_packsOf_30 : decode cX7_packsOf 30 = .ok (.invokevirtual 297, 3) := by decide +kernel
theorem dX7_packsOf_33 : decode cX7_packsOf 33 = .ok (.iload 5, 2) := by decide +kernel
theorem dX7_packsOf_35 : decode cX7_packsOf 35 = .ok (.iadd, 1) := by decide +kernel
theorem dX7_packsOf_36 : decode cX7_packsOf 36 = .ok (.iconst 1, 1) := by decide +kernel
theorem dX7_packsOf_37 : decode cX7_packsOf 37 = .ok (.isub, 1) := by decide +kernel
theorem dX7_packsOf_38 : decode cX7_packsOf 38 = .ok (.iload 5, 2) := by decide +kernel
theorem dX7_packsOf_40 : decode cX7_packsOf 40 = .ok (.idiv, 1) := by decide +kernel
theorem dX7_packsOf_41 : decode cX7_packsOf 41 = .ok (.goto 4, 3) := by decide +kernel
theorem dX7_packsOf_44 : decode cX7_packsOf 44 = .ok (.iconst 0, 1) := by decide +kernel
theorem dX7_packsOf_45 : decode cX7_packsOf 45 = .ok (.ireturn, 1) := by decide +kernel
theorem dX7_whyNot_0 : decode cX7_whyNot 0 = .ok (.aload_n 0, 1) := by decide +kernel
theorem dX7_whyNot_1 : decode cX7_whyNot 1 = .ok (.getfield 127, 3) := by decide +kernel
theorem dX7_whyNot_4 : decode cX7_whyNot 4 = .ok (.aload_n 0, 1) := by decide +kernel
theorem dX7_whyNot_5 : decode cX7_whyNot 5 = .ok (.iload_n 1, 1) := by decide +kernel
theorem dX7_whyNot_6 : decode cX7_whyNot 6 = .ok (.invokevirtual 290, 3) := by decide +kernel
theorem dX7_whyNot_9 : decode cX7_whyNot 9 = .ok (.ishr, 1) := by decide +kernel
theorem dX7_whyNot_10 : decode cX7_whyNot 10 = .ok (.iconst 1, 1) := by decide +kernel
theorem dX7_whyNot_11 : decode cX7_whyNot 11 = .ok (.iand, 1) := by decide +kernel
theorem dX7_whyNot_12 : decode cX7_whyNot 12 = .ok (.iconst 1, 1) := by decide +kernel
theorem dX7_whyNot_13 : decode cX7_whyNot 13 = .ok (.if_icmp .ne 5, 3) := by decide +kernel
theorem dX7_whyNot_16 : decode cX7_whyNot 16 = .ok (.iconst 1, 1) := by decide +kernel
theorem dX7_whyNot_17 : decode cX7_whyNot 17 = .ok (.ireturn, 1) := by decide +kernel
theorem dX7_whyNot_18 : decode cX7_whyNot 18 = .ok (.aload_n 0, 1) := by decide +kernel
theorem dX7_whyNot_19 : decode cX7_whyNot 19 = .ok (.getfield 49, 3) := by decide +kernel
theorem dX7_whyNot_22 : decode cX7_whyNot 22 = .ok (.iload_n 1, 1) := by decide +kernel
theorem dX7_whyNot_23 : decode cX7_whyNot 23 = .ok (.bipush 24, 2) := by decide +kernel
theorem dX7_whyNot_25 : decode cX7_whyNot 25 = .ok (.iadd, 1) := by decide +kernel
theorem dX7_whyNot_26 : decode cX7_whyNot 26 = .ok (.iload_n 2, 1) := by decide +kernel
theorem dX7_whyNot_27 : decode cX7_whyNot 27 = .ok (.iadd, 1) := by decide +kernel
theorem dX7_whyNot_28 : decode cX7_whyNot 28 = .ok (.iaload, 1) := by decide +kernel
theorem dX7_whyNot_29 : decode cX7_whyNot 29 = .ok (.istore 4, 2) := by decide +kernel
theorem dX7_whyNot_31 : decode cX7_whyNot 31 = .ok (.iload 4, 2) := by decide +kernel
theorem dX7_whyNot_33 : decode cX7_whyNot 33 = .ok (.bipush (-4), 2) := by decide +kernel
theorem dX7_whyNot_35 : decode cX7_whyNot 35 = .ok (.if_icmp .eq 24, 3) := by decide +kernel
theorem dX7_whyNot_38 : decode cX7_whyNot 38 = .ok (.aload_n 0, 1) := by decide +kernel
theorem dX7_whyNot_39 : decode cX7_whyNot 39 = .ok (.getfield 49, 3) := by decide +kernel
theorem dX7_whyNot_42 : decode cX7_whyNot 42 = .ok (.iload_n 1, 1) := by decide +kernel
theorem dX7_whyNot_43 : decode cX7_whyNot 43 = .ok (.bipush 36, 2) := by decide +kernel
theorem dX7_whyNot_45 : decode cX7_whyNot 45 = .ok (.iadd, 1) := by decide +kernel
theorem dX7_whyNot_46 : decode cX7_whyNot 46 = .ok (.iaload, 1) := by decide +kernel
theorem dX7_whyNot_47 : decode cX7_whyNot 47 = .ok (.iload 4, 2) := by decide +kernel
theorem dX7_whyNot_49 : decode cX7_whyNot 49 = .ok (.isub, 1) := by decide +kernel
theorem dX7_whyNot_50 : decode cX7_whyNot 50 = .ok (.aload_n 0, 1) := by decide +kernel
theorem dX7_whyNot_51 : decode cX7_whyNot 51 = .ok (.getfield 121, 3) := by decide +kernel
theorem dX7_whyNot_54 : decode cX7_whyNot 54 = .ok (.if_icmp .ge 5, 3) := by decide +kernel
theorem dX7_whyNot_57 : decode cX7_whyNot 57 = .ok (.iconst 2, 1) := by decide +kernel
theorem dX7_whyNot_58 : decode cX7_whyNot 58 = .ok (.ireturn, 1) := by decide +kernel
theorem dX7_whyNot_59 : decode cX7_whyNot 59 = .ok (.iconst 0, 1) := by decide +kernel
theorem dX7_whyNot_60 : decode cX7_whyNot 60 = .ok (.istore 5, 2) := by decide +kernel
theorem dX7_whyNot_62 : decode cX7_whyNot 62 = .ok (.iload 5, 2) := by decide +kernel
theorem dX7_whyNot_64 : decode cX7_whyNot 64 = .ok (.aload_n 0, 1) := by decide +kernel
theorem dX7_whyNot_65 : decode cX7_whyNot 65 = .ok (.getfield 115, 3) := by decide +kernel
theorem dX7_whyNot_68 : decode cX7_whyNot 68 = .ok (.if_icmp .ge 34, 3) := by decide +kernel
theorem dX7_whyNot_71 : decode cX7_whyNot 71 = .ok (.aload_n 0, 1) := by decide +kernel
theorem dX7_whyNot_72 : decode cX7_whyNot 72 = .ok (.iload_n 1, 1) := by decide +kernel
theorem dX7_whyNot_73 : decode cX7_whyNot 73 = .ok (.iload_n 2, 1) := by decide +kernel
theorem dX7_whyNot_74 : decode cX7_whyNot 74 = .ok (.iload_n 3, 1) := by decide +kernel
theorem dX7_whyNot_75 : decode cX7_whyNot 75 = .ok (.iload 5, 2) := by decide +kernel
theorem dX7_whyNot_77 : decode cX7_whyNot 77 = .ok (.invokevirtual 297, 3) := by decide +kernel
theorem dX7_whyNot_80 : decode cX7_whyNot 80 = .ok (.ifCond .le 16, 3) := by decide +kernel
theorem dX7_whyNot_83 : decode cX7_whyNot 83 = .ok (.aload_n 0, 1) := by decide +kernel
theorem dX7_whyNot_84 : decode cX7_whyNot 84 = .ok (.iload_n 1, 1) := by decide +kernel
theorem dX7_whyNot_85 : decode cX7_whyNot 85 = .ok (.iload_n 2, 1) := by decide +kernel
theorem dX7_whyNot_86 : decode cX7_whyNot 86 = .ok (.iload 5, 2) := by decide +kernel
theorem dX7_whyNot_88 : decode cX7_whyNot 88 = .ok (.invokevirtual 293, 3) := by decide +kernel
theorem dX7_whyNot_91 : decode cX7_whyNot 91 = .ok (.ifCond .ne 5, 3) := by decide +kernel
theorem dX7_whyNot_94 : decode cX7_whyNot 94 = .ok (.iconst 3, 1) := by decide +kernel
theorem dX7_whyNot_95 : decode cX7_whyNot 95 = .ok (.ireturn, 1) := by decide +kernel
theorem dX7_whyNot_96 : decode cX7_whyNot 96 = .ok (.iinc 5 1, 3) := by decide +kernel
theorem dX7_whyNot_99 : decode cX7_whyNot 99 = .ok (.goto (-37), 3) := by decide +kernel
theorem dX7_whyNot_102 : decode cX7_whyNot 102 = .ok (.iconst 0, 1) := by decide +kernel
theorem dX7_whyNot_103 : decode cX7_whyNot 103 = .ok (.ireturn, 1) := by decide +kernel
theorem dX7_findTaken_0 : decode cX7_findTaken 0 = .ok (.aload_n 0, 1) := by decide +kernel
theorem dX7_findTaken_1 : decode cX7_findTaken 1 = .ok (.iload_n 2, 1) := by decide +kernel
theorem dX7_findTaken_2 : decode cX7_findTaken 2 = .ok (.iload_n 3, 1) := by decide +kernel
theorem dX7_findTaken_3 : decode cX7_findTaken 3 = .ok (.invokevirtual 279, 3) := by decide +kernel
theorem dX7_findTaken_6 : decode cX7_findTaken 6 = .ok (.istore 4, 2) := by decide +kernel
theorem dX7_findTaken_8 : decode cX7_findTaken 8 = .ok (.iconst 0, 1) := by decide +kernel
theorem dX7_findTaken_9 : decode cX7_findTaken 9 = .ok (.istore 5, 2) := by decide +kernel
theorem dX7_findTaken_11 : decode cX7_findTaken 11 = .ok (.iload 5, 2) := by decide +kernel
theorem dX7_findTaken_13 : decode cX7_findTaken 13 = .ok (.bipush 24, 2) := by decide +kernel
theorem dX7_findTaken_15 : decode cX7_findTaken 15 = .ok (.if_icmp .ge 17, 3) := by decide +kernel
theorem dX7_findTaken_18 : decode cX7_findTaken 18 = .ok (.aload_n 0, 1) := by decide +kernel
theorem dX7_findTaken_19 : decode cX7_findTaken 19 = .ok (.getfield 56, 3) := by decide +kernel
theorem dX7_findTaken_22 : decode cX7_findTaken 22 = .ok (.iload 5, 2) := by decide +kernel
theorem dX7_findTaken_24 : decode cX7_findTaken 24 = .ok (.iconst 0, 1) := by decide +kernel
theorem dX7_findTaken_25 : decode cX7_findTaken 25 = .ok (.iastore, 1) := by decide +kernel
theorem dX7_findTaken_26 : decode cX7_findTaken 26 = .ok (.iinc 5 1, 3) := by decide +kernel
theorem dX7_findTaken_29 : decode cX7_findTaken 29 = .ok (.goto (-18), 3) := by decide +kernel
theorem dX7_findTaken_32 : decode cX7_findTaken 32 = .ok (.iconst 0, 1) := by decide +kernel
theorem dX7_findTaken_33 : decode cX7_findTaken 33 = .ok (.istore 5, 2) := by decide +kernel
theorem dX7_findTaken_35 : decode cX7_findTaken 35 = .ok (.iload 5, 2) := by decide +kernel
theorem dX7_findTaken_37 : decode cX7_findTaken 37 = .ok (.aload_n 0, 1) := by decide +kernel
theorem dX7_findTaken_38 : decode cX7_findTaken 38 = .ok (.getfield 115, 3) := by decide +kernel
theorem dX7_findTaken_41 : decode cX7_findTaken 41 = .ok (.if_icmp .ge 101, 3) := by decide +kernel
theorem dX7_findTaken_44 : decode cX7_findTaken 44 = .ok (.aload_n 0, 1) := by decide +kernel
theorem dX7_findTaken_45 : decode cX7_findTaken 45 = .ok (.iload_n 2, 1) := by decide +kernel
theorem dX7_findTaken_46 : decode cX7_findTaken 46 = .ok (.invokevirtual 267, 3) := by decide +kernel
theorem dX7_findTaken_49 : decode cX7_findTaken 49 = .ok (.iconst 3, 1) := by decide +kernel
theorem dX7_findTaken_50 : decode cX7_findTaken 50 = .ok (.if_icmp .eq 92, 3) := by decide +kernel
theorem dX7_findTaken_53 : decode cX7_findTaken 53 = .ok (.aload_n 0, 1) := by decide +kernel
theorem dX7_findTaken_54 : decode cX7_findTaken 54 = .ok (.iload_n 2, 1) := by decide +kernel
theorem dX7_findTaken_55 : decode cX7_findTaken 55 = .ok (.iload_n 3, 1) := by decide +kernel
theorem dX7_findTaken_56 : decode cX7_findTaken 56 = .ok (.iload 5, 2) := by decide +kernel
theorem dX7_findTaken_58 : decode cX7_findTaken 58 = .ok (.invokevirtual 286, 3) := by decide +kernel
theorem dX7_findTaken_61 : decode cX7_findTaken 61 = .ok (.istore 6, 2) := by decide +kernel
theorem dX7_findTaken_63 : decode cX7_findTaken 63 = .ok (.iconst 3, 1) := by decide +kernel
theorem dX7_findTaken_64 : decode cX7_findTaken 64 = .ok (.istore 7, 2) := by decide +kernel
theorem dX7_findTaken_66 : decode cX7_findTaken 66 = .ok (.iload 7, 2) := by decide +kernel
theorem dX7_findTaken_68 : decode cX7_findTaken 68 = .ok (.ifCond .lt 68, 3) := by decide +kernel
theorem dX7_findTaken_71 : decode cX7_findTaken 71 = .ok (.aload_n 0, 1) := by decide +kernel
theorem dX7_findTaken_72 : decode cX7_findTaken 72 = .ok (.getfield 49, 3) := by decide +kernel
theorem dX7_findTaken_75 : decode cX7_findTaken 75 = .ok (.iload_n 1, 1) := by decide +kernel
theorem dX7_findTaken_76 : decode cX7_findTaken 76 = .ok (.iconst 4, 1) := by decide +kernel
theorem dX7_findTaken_77 : decode cX7_findTaken 77 = .ok (.iload 5, 2) := by decide +kernel
theorem dX7_findTaken_79 : decode cX7_findTaken 79 = .ok (.imul, 1) := by decide +kernel
theorem dX7_findTaken_80 : decode cX7_findTaken 80 = .ok (.iadd, 1) := by decide +kernel
theorem dX7_findTaken_81 : decode cX7_findTaken 81 = .ok (.iload 7, 2) := by decide +kernel
theorem dX7_findTaken_83 : decode cX7_findTaken 83 = .ok (.iadd, 1) := by decide +kernel
theorem dX7_findTaken_84 : decode cX7_findTaken 84 = .ok (.iaload, 1) := by decide +kernel
theorem dX7_findTaken_85 : decode cX7_findTaken 85 = .ok (.istore 8, 2) := by decide +kernel
theorem dX7_findTaken_87 : decode cX7_findTaken 87 = .ok (.aload_n 0, 1) := by decide +kernel
theorem dX7_findTaken_88 : decode cX7_findTaken 88 = .ok (.getfield 56, 3) := by decide +kernel
theorem dX7_findTaken_91 : decode cX7_findTaken 91 = .ok (.iconst 4, 1) := by decide +kernel
theorem dX7_findTaken_92 : decode cX7_findTaken 92 = .ok (.iload 5, 2) := by decide +kernel
theorem dX7_findTaken_94 : decode cX7_findTaken 94 = .ok (.imul, 1) := by decide +kernel
theorem dX7_findTaken_95 : decode cX7_findTaken 95 = .ok (.iload 7, 2) := by decide +kernel
theorem dX7_findTaken_97 : decode cX7_findTaken 97 = .ok (.iadd, 1) := by decide +kernel
theorem dX7_findTaken_98 : decode cX7_findTaken 98 = .ok (.iload 8, 2) := by decide +kernel
theorem dX7_findTaken_100 : decode cX7_findTaken 100 = .ok (.iload 6, 2) := by decide +kernel
theorem dX7_findTaken_102 : decode cX7_findTaken 102 = .ok (.if_icmp .ge 8, 3) := by decide +kernel
theorem dX7_findTaken_105 : decode cX7_findTaken 105 = .ok (.iload 8, 2) := by decide +kernel
theorem dX7_findTaken_107 : decode cX7_findTaken 107 = .ok (.goto 5, 3) := by decide +kernel
theorem dX7_findTaken_110 : decode cX7_findTaken 110 = .ok (.iload 6, 2) := by decide +kernel
theorem dX7_findTaken_112 : decode cX7_findTaken 112 = .ok (.iastore, 1) := by decide +kernel
theorem dX7_findTaken_113 : decode cX7_findTaken 113 = .ok (.iload 6, 2) := by decide +kernel
theorem dX7_findTaken_115 : decode cX7_findTaken 115 = .ok (.aload_n 0, 1) := by decide +kernel
theorem dX7_findTaken_116 : decode cX7_findTaken 116 = .ok (.getfield 56, 3) := by decide +kernel
theorem dX7_findTaken_119 : decode cX7_findTaken 119 = .ok (.iconst 4, 1) := by decide +kernel
theorem dX7_findTaken_120 : decode cX7_findTaken 120 = .ok (.iload 5, 2) := by decide +kernel
theorem dX7_findTaken_122 : decode cX7_findTaken 122 = .ok (.imul, 1) := by decide +kernel
theorem dX7_findTaken_123 : decode cX7_findTaken 123 = .ok (.iload 7, 2) := by decide +kernel
theorem dX7_findTaken_125 : decode cX7_findTaken 125 = .ok (.iadd, 1) := by decide +kernel
theorem dX7_findTaken_126 : decode cX7_findTaken 126 = .ok (.iaload, 1) := by decide +kernel
theorem dX7_findTaken_127 : decode cX7_findTaken 127 = .ok (.isub, 1) := by decide +kernel
theorem dX7_findTaken_128 : decode cX7_findTaken 128 = .ok (.istore 6, 2) := by decide +kernel
theorem dX7_findTaken_130 : decode cX7_findTaken 130 = .ok (.iinc 7 (-1), 3) := by decide +kernel
theorem dX7_findTaken_133 : decode cX7_findTaken 133 = .ok (.goto (-67), 3) := by decide +kernel
theorem dX7_findTaken_136 : decode cX7_findTaken 136 = .ok (.iinc 5 1, 3) := by decide +kernel
theorem dX7_findTaken_139 : decode cX7_findTaken 139 = .ok (.goto (-104), 3) := by decide +kernel
theorem dX7_findTaken_142 : decode cX7_findTaken 142 = .ok (.iconst 3, 1) := by decide +kernel
theorem dX7_findTaken_143 : decode cX7_findTaken 143 = .ok (.istore 5, 2) := by decide +kernel
theorem dX7_findTaken_145 : decode cX7_findTaken 145 = .ok (.iload 5, 2) := by decide +kernel
theorem dX7_findTaken_147 : decode cX7_findTaken 147 = .ok (.ifCond .lt 109, 3) := by decide +kernel
theorem dX7_findTaken_150 : decode cX7_findTaken 150 = .ok (.aload_n 0, 1) := by decide +kernel
theorem dX7_findTaken_151 : decode cX7_findTaken 151 = .ok (.iload_n 2, 1) := by decide +kernel
theorem dX7_findTaken_152 : decode cX7_findTaken 152 = .ok (.invokevirtual 267, 3) := by decide +kernel
theorem dX7_findTaken_155 : decode cX7_findTaken 155 = .ok (.iconst 3, 1) := by decide +kernel
theorem dX7_findTaken_156 : decode cX7_findTaken 156 = .ok (.if_icmp .ne 100, 3) := by decide +kernel
theorem dX7_findTaken_159 : decode cX7_findTaken 159 = .ok (.iconst 0, 1) := by decide +kernel
theorem dX7_findTaken_160 : decode cX7_findTaken 160 = .ok (.istore 6, 2) := by decide +kernel
theorem dX7_findTaken_162 : decode cX7_findTaken 162 = .ok (.iload 6, 2) := by decide +kernel
theorem dX7_findTaken_164 : decode cX7_findTaken 164 = .ok (.aload_n 0, 1) := by decide +kernel
theorem dX7_findTaken_165 : decode cX7_findTaken 165 = .ok (.getfield 115, 3) := by decide +kernel
theorem dX7_findTaken_168 : decode cX7_findTaken 168 = .ok (.if_icmp .ge 82, 3) := by decide +kernel
theorem dX7_findTaken_171 : decode cX7_findTaken 171 = .ok (.aload_n 0, 1) := by decide +kernel
theorem dX7_findTaken_172 : decode cX7_findTaken 172 = .ok (.iload_n 2, 1) := by decide +kernel
theorem dX7_findTaken_173 : decode cX7_findTaken 173 = .ok (.iload 6, 2) := by decide +kernel
theorem dX7_findTaken_175 : decode cX7_findTaken 175 = .ok (.invokevirtual 273, 3) := by decide +kernel
theorem dX7_findTaken_178 : decode cX7_findTaken 178 = .ok (.ifCond .eq 20, 3) := by decide +kernel
theorem dX7_findTaken_181 : decode cX7_findTaken 181 = .ok (.aload_n 0, 1) := by decide +kernel
theorem dX7_findTaken_182 : decode cX7_findTaken 182 = .ok (.getfield 49, 3) := by decide +kernel
theorem dX7_findTaken_185 : decode cX7_findTaken 185 = .ok (.iload_n 1, 1) := by decide +kernel
theorem dX7_findTaken_186 : decode cX7_findTaken 186 = .ok (.iconst 4, 1) := by decide +kernel
theorem dX7_findTaken_187 : decode cX7_findTaken 187 = .ok (.iload 6, 2) := by decide +kernel
theorem dX7_findTaken_189 : decode cX7_findTaken 189 = .ok (.imul, 1) := by decide +kernel
theorem dX7_findTaken_190 : decode cX7_findTaken 190 = .ok (.iadd, 1) := by decide +kernel
theorem dX7_findTaken_191 : decode cX7_findTaken 191 = .ok (.iload 5, 2) := by decide +kernel
theorem dX7_findTaken_193 : decode cX7_findTaken 193 = .ok (.iadd, 1) := by decide +kernel
theorem dX7_findTaken_194 : decode cX7_findTaken 194 = .ok (.iaload, 1) := by decide +kernel
theorem dX7_findTaken_195 : decode cX7_findTaken 195 = .ok (.goto 4, 3) := by decide +kernel
theorem dX7_findTaken_198 : decode cX7_findTaken 198 = .ok (.iconst 0, 1) := by decide +kernel
theorem dX7_findTaken_199 : decode cX7_findTaken 199 = .ok (.istore 7, 2) := by decide +kernel
theorem dX7_findTaken_201 : decode cX7_findTaken 201 = .ok (.aload_n 0, 1) := by decide +kernel
theorem dX7_findTaken_202 : decode cX7_findTaken 202 = .ok (.getfield 56, 3) := by decide +kernel
theorem dX7_findTaken_205 : decode cX7_findTaken 205 = .ok (.iconst 4, 1) := by decide +kernel
theorem dX7_findTaken_206 : decode cX7_findTaken 206 = .ok (.iload 6, 2) := by decide +kernel
theorem dX7_findTaken_208 : decode cX7_findTaken 208 = .ok (.imul, 1) := by decide +kernel
theorem dX7_findTaken_209 : decode cX7_findTaken 209 = .ok (.iload 5, 2) := by decide +kernel
theorem dX7_findTaken_211 : decode cX7_findTaken 211 = .ok (.iadd, 1) := by decide +kernel
theorem dX7_findTaken_212 : decode cX7_findTaken 212 = .ok (.iload 7, 2) := by decide +kernel
theorem dX7_findTaken_214 : decode cX7_findTaken 214 = .ok (.iload 4, 2) := by decide +kernel
theorem dX7_findTaken_216 : decode cX7_findTaken 216 = .ok (.if_icmp .ge 8, 3) := by decide +kernel
theorem dX7_findTaken_219 : decode cX7_findTaken 219 = .ok (.iload 7, 2) := by decide +kernel
theorem dX7_findTaken_221 : decode cX7_findTaken 221 = .ok (.goto 5, 3) := by decide +kernel
theorem dX7_findTaken_224 : decode cX7_findTaken 224 = .ok (.iload 4, 2) := by decide +kernel
theorem dX7_findTaken_226 : decode cX7_findTaken 226 = .ok (.iastore, 1) := by decide +kernel
theorem dX7_findTaken_227 : decode cX7_findTaken 227 = .ok (.iload 4, 2) := by decide +kernel
theorem dX7_findTaken_229 : decode cX7_findTaken 229 = .ok (.aload_n 0, 1) := by decide +kernel
theorem dX7_findTaken_230 : decode cX7_findTaken 230 = .ok (.getfield 56, 3) := by decide +kernel
theorem dX7_findTaken_233 : decode cX7_findTaken 233 = .ok (.iconst 4, 1) := by decide +kernel
theorem dX7_findTaken_234 : decode cX7_findTaken 234 = .ok (.iload 6, 2) := by decide +kernel
theorem dX7_findTaken_236 : decode cX7_findTaken 236 = .ok (.imul, 1) := by decide +kernel
theorem dX7_findTaken_237 : decode cX7_findTaken 237 = .ok (.iload 5, 2) := by decide +kernel
theorem dX7_findTaken_239 : decode cX7_findTaken 239 = .ok (.iadd, 1) := by decide +kernel
theorem dX7_findTaken_240 : decode cX7_findTaken 240 = .ok (.iaload, 1) := by decide +kernel
theorem dX7_findTaken_241 : decode cX7_findTaken 241 = .ok (.isub, 1) := by decide +kernel
theorem dX7_findTaken_242 : decode cX7_findTaken 242 = .ok (.istore 4, 2) := by decide +kernel
theorem dX7_findTaken_244 : decode cX7_findTaken 244 = .ok (.iinc 6 1, 3) := by decide +kernel
theorem dX7_findTaken_247 : decode cX7_findTaken 247 = .ok (.goto (-85), 3) := by decide +kernel
theorem dX7_findTaken_250 : decode cX7_findTaken 250 = .ok (.iinc 5 (-1), 3) := by decide +kernel
theorem dX7_findTaken_253 : decode cX7_findTaken 253 = .ok (.goto (-108), 3) := by decide +kernel
theorem dX7_findTaken_256 : decode cX7_findTaken 256 = .ok (.return_, 1) := by decide +kernel
theorem dX7_eats_0 : decode cX7_eats 0 = .ok (.iconst 0, 1) := by decide +kernel
theorem dX7_eats_1 : decode cX7_eats 1 = .ok (.istore 4, 2) := by decide +kernel
theorem dX7_eats_3 : decode cX7_eats 3 = .ok (.aload_n 0, 1) := by decide +kernel
theorem dX7_eats_4 : decode cX7_eats 4 = .ok (.iload_n 1, 1) := by decide +kernel
theorem dX7_eats_5 : decode cX7_eats 5 = .ok (.iload_n 2, 1) := by decide +kernel
theorem dX7_eats_6 : decode cX7_eats 6 = .ok (.iload_n 3, 1) := by decide +kernel
theorem dX7_eats_7 : decode cX7_eats 7 = .ok (.invokevirtual 301, 3) := by decide +kernel
theorem dX7_eats_10 : decode cX7_eats 10 = .ok (.iconst 0, 1) := by decide +kernel
theorem dX7_eats_11 : decode cX7_eats 11 = .ok (.istore 5, 2) := by decide +kernel
theorem dX7_eats_13 : decode cX7_eats 13 = .ok (.iload 5, 2) := by decide +kernel
theorem dX7_eats_15 : decode cX7_eats 15 = .ok (.aload_n 0, 1) := by decide +kernel
theorem dX7_eats_16 : decode cX7_eats 16 = .ok (.getfield 115, 3) := by decide +kernel
theorem dX7_eats_19 : decode cX7_eats 19 = .ok (.if_icmp .ge 83, 3) := by decide +kernel
theorem dX7_eats_22 : decode cX7_eats 22 = .ok (.aload_n 0, 1) := by decide +kernel
theorem dX7_eats_23 : decode cX7_eats 23 = .ok (.iload_n 1, 1) := by decide +kernel
theorem dX7_eats_24 : decode cX7_eats 24 = .ok (.iload_n 2, 1) := by decide +kernel
theorem dX7_eats_25 : decode cX7_eats 25 = .ok (.iload_n 3, 1) := by decide +kernel
theorem dX7_eats_26 : decode cX7_eats 26 = .ok (.iload 5, 2) := by decide +kernel
theorem dX7_eats_28 : decode cX7_eats 28 = .ok (.invokevirtual 305, 3) := by decide +kernel
theorem dX7_eats_31 : decode cX7_eats 31 = .ok (.istore 6, 2) := by decide +kernel
theorem dX7_eats_33 : decode cX7_eats 33 = .ok (.iload 6, 2) := by decide +kernel
theorem dX7_eats_35 : decode cX7_eats 35 = .ok (.aload_n 0, 1) := by decide +kernel
theorem dX7_eats_36 : decode cX7_eats 36 = .ok (.getfield 7, 3) := by decide +kernel
theorem dX7_eats_39 : decode cX7_eats 39 = .ok (.iconst 3, 1) := by decide +kernel
theorem dX7_eats_40 : decode cX7_eats 40 = .ok (.iload 5, 2) := by decide +kernel
theorem dX7_eats_42 : decode cX7_eats 42 = .ok (.imul, 1) := by decide +kernel
theorem dX7_eats_43 : decode cX7_eats 43 = .ok (.iconst 1, 1) := by decide +kernel
theorem dX7_eats_44 : decode cX7_eats 44 = .ok (.iadd, 1) := by decide +kernel
theorem dX7_eats_45 : decode cX7_eats 45 = .ok (.iaload, 1) := by decide +kernel
theorem dX7_eats_46 : decode cX7_eats 46 = .ok (.imul, 1) := by decide +kernel
theorem dX7_eats_47 : decode cX7_eats 47 = .ok (.iload 6, 2) := by decide +kernel
theorem dX7_eats_49 : decode cX7_eats 49 = .ok (.ifCond .le 15, 3) := by decide +kernel
theorem dX7_eats_52 : decode cX7_eats 52 = .ok (.aload_n 0, 1) := by decide +kernel
theorem dX7_eats_53 : decode cX7_eats 53 = .ok (.iload_n 1, 1) := by decide +kernel
theorem dX7_eats_54 : decode cX7_eats 54 = .ok (.iload_n 2, 1) := by decide +kernel
theorem dX7_eats_55 : decode cX7_eats 55 = .ok (.iload_n 3, 1) := by decide +kernel
theorem dX7_eats_56 : decode cX7_eats 56 = .ok (.iload 5, 2) := by decide +kernel
theorem dX7_eats_58 : decode cX7_eats 58 = .ok (.invokevirtual 297, 3) := by decide +kernel
theorem dX7_eats_61 : decode cX7_eats 61 = .ok (.goto 4, 3) := by decide +kernel
theorem dX7_eats_64 : decode cX7_eats 64 = .ok (.iconst 0, 1) := by decide +kernel
theorem dX7_eats_65 : decode cX7_eats 65 = .ok (.isub, 1) := by decide +kernel
theorem dX7_eats_66 : decode cX7_eats 66 = .ok (.istore 7, 2) := by decide +kernel
theorem dX7_eats_68 : decode cX7_eats 68 = .ok (.iload 4, 2) := by decide +kernel
theorem dX7_eats_70 : decode cX7_eats 70 = .ok (.iload 6, 2) := by decide +kernel
theorem dX7_eats_72 : decode cX7_eats 72 = .ok (.aload_n 0, 1) := by decide +kernel
theorem dX7_eats_73 : decode cX7_eats 73 = .ok (.getfield 7, 3) := by decide +kernel
theorem dX7_eats_76 : decode cX7_eats 76 = .ok (.iconst 3, 1) := by decide +kernel
theorem dX7_eats_77 : decode cX7_eats 77 = .ok (.iload 5, 2) := by decide +kernel
theorem dX7_eats_79 : decode cX7_eats 79 = .ok (.imul, 1) := by decide +kernel
theorem dX7_eats_80 : decode cX7_eats 80 = .ok (.iconst 2, 1) := by decide +kernel
theorem dX7_eats_81 : decode cX7_eats 81 = .ok (.iadd, 1) := by decide +kernel
theorem dX7_eats_82 : decode cX7_eats 82 = .ok (.iaload, 1) := by decide +kernel
theorem dX7_eats_83 : decode cX7_eats 83 = .ok (.imul, 1) := by decide +kernel
theorem dX7_eats_84 : decode cX7_eats 84 = .ok (.iadd, 1) := by decide +kernel
theorem dX7_eats_85 : decode cX7_eats 85 = .ok (.istore 4, 2) := by decide +kernel
theorem dX7_eats_87 : decode cX7_eats 87 = .ok (.aload_n 0, 1) := by decide +kernel
theorem dX7_eats_88 : decode cX7_eats 88 = .ok (.getfield 59, 3) := by decide +kernel
theorem dX7_eats_91 : decode cX7_eats 91 = .ok (.iload 5, 2) := by decide +kernel
theorem dX7_eats_93 : decode cX7_eats 93 = .ok (.iload 7, 2) := by decide +kernel
theorem dX7_eats_95 : decode cX7_eats 95 = .ok (.iastore, 1) := by decide +kernel
theorem dX7_eats_96 : decode cX7_eats 96 = .ok (.iinc 5 1, 3) := by decide +kernel
theorem dX7_eats_99 : decode cX7_eats 99 = .ok (.goto (-86), 3) := by decide +kernel
theorem dX7_eats_102 : decode cX7_eats 102 = .ok (.iconst 0, 1) := by decide +kernel
theorem dX7_eats_103 : decode cX7_eats 103 = .ok (.istore 5, 2) := by decide +kernel
theorem dX7_eats_105 : decode cX7_eats 105 = .ok (.iload 5, 2) := by decide +kernel
theorem dX7_eats_107 : decode cX7_eats 107 = .ok (.aload_n 0, 1) := by decide +kernel
theorem dX7_eats_108 : decode cX7_eats 108 = .ok (.getfield 115, 3) := by decide +kernel
theorem dX7_eats_111 : decode cX7_eats 111 = .ok (.if_icmp .ge 87, 3) := by decide +kernel
theorem dX7_eats_114 : decode cX7_eats 114 = .ok (.iconst 0, 1) := by decide +kernel
theorem dX7_eats_115 : decode cX7_eats 115 = .ok (.istore 6, 2) := by decide +kernel
theorem dX7_eats_117 : decode cX7_eats 117 = .ok (.iload 6, 2) := by decide +kernel
theorem dX7_eats_119 : decode cX7_eats 119 = .ok (.iconst 4, 1) := by decide +kernel
theorem dX7_eats_120 : decode cX7_eats 120 = .ok (.if_icmp .ge 38, 3) := by decide +kernel
theorem dX7_eats_123 : decode cX7_eats 123 = .ok (.aload_n 0, 1) := by decide +kernel
theorem dX7_eats_124 : decode cX7_eats 124 = .ok (.getfield 49, 3) := by decide +kernel
theorem dX7_eats_127 : decode cX7_eats 127 = .ok (.iload_n 1, 1) := by decide +kernel
theorem dX7_eats_128 : decode cX7_eats 128 = .ok (.iconst 4, 1) := by decide +kernel
theorem dX7_eats_129 : decode cX7_eats 129 = .ok (.iload 5, 2) := by decide +kernel
theorem dX7_eats_131 : decode cX7_eats 131 = .ok (.imul, 1) := by decide +kernel
theorem dX7_eats_132 : decode cX7_eats 132 = .ok (.iadd, 1) := by decide +kernel
theorem dX7_eats_133 : decode cX7_eats 133 = .ok (.iload 6, 2) := by decide +kernel
theorem dX7_eats_135 : decode cX7_eats 135 = .ok (.iadd, 1) := by decide +kernel
theorem dX7_eats_136 : decode cX7_eats 136 = .ok (.dup2, 1) := by decide +kernel
theorem dX7_eats_137 : decode cX7_eats 137 = .ok (.iaload, 1) := by decide +kernel
theorem dX7_eats_138 : decode cX7_eats 138 = .ok (.aload_n 0, 1) := by decide +kernel
theorem dX7_eats_139 : decode cX7_eats 139 = .ok (.getfield 56, 3) := by decide +kernel
theorem dX7_eats_142 : decode cX7_eats 142 = .ok (.iconst 4, 1) := by decide +kernel
theorem dX7_eats_143 : decode cX7_eats 143 = .ok (.iload 5, 2) := by decide +kernel
theorem dX7_eats_145 : decode cX7_eats 145 = .ok (.imul, 1) := by decide +kernel
theorem dX7_eats_146 : decode cX7_eats 146 = .ok (.iload 6, 2) := by decide +kernel
theorem dX7_eats_148 : decode cX7_eats 148 = .ok (.iadd, 1) := by decide +kernel
theorem dX7_eats_149 : decode cX7_eats 149 = .ok (.iaload, 1) := by decide +kernel
theorem dX7_eats_150 : decode cX7_eats 150 = .ok (.isub, 1) := by decide +kernel
theorem dX7_eats_151 : decode cX7_eats 151 = .ok (.iastore, 1) := by decide +kernel
theorem dX7_eats_152 : decode cX7_eats 152 = .ok (.iinc 6 1, 3) := by decide +kernel
theorem dX7_eats_155 : decode cX7_eats 155 = .ok (.goto (-38), 3) := by decide +kernel
theorem dX7_eats_158 : decode cX7_eats 158 = .ok (.aload_n 0, 1) := by decide +kernel
theorem dX7_eats_159 : decode cX7_eats 159 = .ok (.getfield 49, 3) := by decide +kernel
theorem dX7_eats_162 : decode cX7_eats 162 = .ok (.iload_n 1, 1) := by decide +kernel
theorem dX7_eats_163 : decode cX7_eats 163 = .ok (.iconst 4, 1) := by decide +kernel
theorem dX7_eats_164 : decode cX7_eats 164 = .ok (.iload 5, 2) := by decide +kernel
theorem dX7_eats_166 : decode cX7_eats 166 = .ok (.imul, 1) := by decide +kernel
theorem dX7_eats_167 : decode cX7_eats 167 = .ok (.iadd, 1) := by decide +kernel
theorem dX7_eats_168 : decode cX7_eats 168 = .ok (.dup2, 1) := by decide +kernel
theorem dX7_eats_169 : decode cX7_eats 169 = .ok (.iaload, 1) := by decide +kernel
theorem dX7_eats_170 : decode cX7_eats 170 = .ok (.aload_n 0, 1) := by decide +kernel
theorem dX7_eats_171 : decode cX7_eats 171 = .ok (.getfield 59, 3) := by decide +kernel
theorem dX7_eats_174 : decode cX7_eats 174 = .ok (.iload 5, 2) := by decide +kernel
theorem dX7_eats_176 : decode cX7_eats 176 = .ok (.iaload, 1) := by decide +kernel
theorem dX7_eats_177 : decode cX7_eats 177 = .ok (.aload_n 0, 1) := by decide +kernel
theorem dX7_eats_178 : decode cX7_eats 178 = .ok (.getfield 19, 3) := by decide +kernel
theorem dX7_eats_181 : decode cX7_eats 181 = .ok (.bipush 6, 2) := by decide +kernel
theorem dX7_eats_183 : decode cX7_eats 183 = .ok (.iload_n 2, 1) := by decide +kernel
theorem dX7_eats_184 : decode cX7_eats 184 = .ok (.imul, 1) := by decide +kernel
theorem dX7_eats_185 : decode cX7_eats 185 = .ok (.iload 5, 2) := by decide +kernel
theorem dX7_eats_187 : decode cX7_eats 187 = .ok (.iadd, 1) := by decide +kernel
theorem dX7_eats_188 : decode cX7_eats 188 = .ok (.iaload, 1) := by decide +kernel
theorem dX7_eats_189 : decode cX7_eats 189 = .ok (.iadd, 1) := by decide +kernel
theorem dX7_eats_190 : decode cX7_eats 190 = .ok (.iadd, 1) := by decide +kernel
theorem dX7_eats_191 : decode cX7_eats 191 = .ok (.iastore, 1) := by decide +kernel
theorem dX7_eats_192 : decode cX7_eats 192 = .ok (.iinc 5 1, 3) := by decide +kernel
theorem dX7_eats_195 : decode cX7_eats 195 = .ok (.goto (-90), 3) := by decide +kernel
theorem dX7_eats_198 : decode cX7_eats 198 = .ok (.aload_n 0, 1) := by decide +kernel
theorem dX7_eats_199 : decode cX7_eats 199 = .ok (.getfield 49, 3) := by decide +kernel
theorem dX7_eats_202 : decode cX7_eats 202 = .ok (.iload_n 1, 1) := by decide +kernel
theorem dX7_eats_203 : decode cX7_eats 203 = .ok (.bipush 24, 2) := by decide +kernel
theorem dX7_eats_205 : decode cX7_eats 205 = .ok (.iadd, 1) := by decide +kernel
theorem dX7_eats_206 : decode cX7_eats 206 = .ok (.iload_n 2, 1) := by decide +kernel
theorem dX7_eats_207 : decode cX7_eats 207 = .ok (.iadd, 1) := by decide +kernel
theorem dX7_eats_208 : decode cX7_eats 208 = .ok (.aload_n 0, 1) := by decide +kernel
theorem dX7_eats_209 : decode cX7_eats 209 = .ok (.getfield 49, 3) := by decide +kernel
theorem dX7_eats_212 : decode cX7_eats 212 = .ok (.iload_n 1, 1) := by decide +kernel
theorem dX7_eats_213 : decode cX7_eats 213 = .ok (.bipush 36, 2) := by decide +kernel
theorem dX7_eats_215 : decode cX7_eats 215 = .ok (.iadd, 1) := by decide +kernel
theorem dX7_eats_216 : decode cX7_eats 216 = .ok (.iaload, 1) := by decide +kernel
theorem dX7_eats_217 : decode cX7_eats 217 = .ok (.iastore, 1) := by decide +kernel
theorem dX7_eats_218 : decode cX7_eats 218 = .ok (.aload_n 0, 1) := by decide +kernel
theorem dX7_eats_219 : decode cX7_eats 219 = .ok (.getfield 49, 3) := by decide +kernel
theorem dX7_eats_222 : decode cX7_eats 222 = .ok (.iload_n 1, 1) := by decide +kernel
theorem dX7_eats_223 : decode cX7_eats 223 = .ok (.bipush 37, 2) := by decide +kernel
theorem dX7_eats_225 : decode cX7_eats 225 = .ok (.iadd, 1) := by decide +kernel
theorem dX7_eats_226 : decode cX7_eats 226 = .ok (.iload_n 2, 1) := by decide +kernel
theorem dX7_eats_227 : decode cX7_eats 227 = .ok (.iastore, 1) := by decide +kernel
theorem dX7_eats_228 : decode cX7_eats 228 = .ok (.aload_n 0, 1) := by decide +kernel
theorem dX7_eats_229 : decode cX7_eats 229 = .ok (.getfield 49, 3) := by decide +kernel
theorem dX7_eats_232 : decode cX7_eats 232 = .ok (.iload_n 1, 1) := by decide +kernel
theorem dX7_eats_233 : decode cX7_eats 233 = .ok (.bipush 33, 2) := by decide +kernel
theorem dX7_eats_235 : decode cX7_eats 235 = .ok (.iadd, 1) := by decide +kernel
theorem dX7_eats_236 : decode cX7_eats 236 = .ok (.dup2, 1) := by decide +kernel
theorem dX7_eats_237 : decode cX7_eats 237 = .ok (.iaload, 1) := by decide +kernel
theorem dX7_eats_238 : decode cX7_eats 238 = .ok (.iload 4, 2) := by decide +kernel
theorem dX7_eats_240 : decode cX7_eats 240 = .ok (.iadd, 1) := by decide +kernel
theorem dX7_eats_241 : decode cX7_eats 241 = .ok (.iastore, 1) := by decide +kernel
theorem dX7_eats_242 : decode cX7_eats 242 = .ok (.aload_n 0, 1) := by decide +kernel
theorem dX7_eats_243 : decode cX7_eats 243 = .ok (.getfield 49, 3) := by decide +kernel
theorem dX7_eats_246 : decode cX7_eats 246 = .ok (.iload_n 1, 1) := by decide +kernel
theorem dX7_eats_247 : decode cX7_eats 247 = .ok (.bipush 35, 2) := by decide +kernel
theorem dX7_eats_249 : decode cX7_eats 249 = .ok (.iadd, 1) := by decide +kernel
theorem dX7_eats_250 : decode cX7_eats 250 = .ok (.dup2, 1) := by decide +kernel
theorem dX7_eats_251 : decode cX7_eats 251 = .ok (.iaload, 1) := by decide +kernel
theorem dX7_eats_252 : decode cX7_eats 252 = .ok (.aload_n 0, 1) := by decide +kernel
theorem dX7_eats_253 : decode cX7_eats 253 = .ok (.getfield 13, 3) := by decide +kernel
theorem dX7_eats_256 : decode cX7_eats 256 = .ok (.iconst 5, 1) := by decide +kernel
theorem dX7_eats_257 : decode cX7_eats 257 = .ok (.iload_n 2, 1) := by decide +kernel
theorem dX7_eats_258 : decode cX7_eats 258 = .ok (.imul, 1) := by decide +kernel
theorem dX7_eats_259 : decode cX7_eats 259 = .ok (.iconst 1, 1) := by decide +kernel
theorem dX7_eats_260 : decode cX7_eats 260 = .ok (.iadd, 1) := by decide +kernel
theorem dX7_eats_261 : decode cX7_eats 261 = .ok (.iaload, 1) := by decide +kernel
theorem dX7_eats_262 : decode cX7_eats 262 = .ok (.iadd, 1) := by decide +kernel
theorem dX7_eats_263 : decode cX7_eats 263 = .ok (.iastore, 1) := by decide +kernel
theorem dX7_eats_264 : decode cX7_eats 264 = .ok (.iload 4, 2) := by decide +kernel
theorem dX7_eats_266 : decode cX7_eats 266 = .ok (.ireturn, 1) := by decide +kernel
theorem dX7_nights_0 : decode cX7_nights 0 = .ok (.iconst 0, 1) := by decide +kernel
theorem dX7_nights_1 : decode cX7_nights 1 = .ok (.istore_n 2, 1) := by decide +kernel
theorem dX7_nights_2 : decode cX7_nights 2 = .ok (.iconst 0, 1) := by decide +kernel
theorem dX7_nights_3 : decode cX7_nights 3 = .ok (.istore_n 3, 1) := by decide +kernel
theorem dX7_nights_4 : decode cX7_nights 4 = .ok (.iload_n 3, 1) := by decide +kernel
theorem dX7_nights_5 : decode cX7_nights 5 = .ok (.aload_n 0, 1) := by decide +kernel
theorem dX7_nights_6 : decode cX7_nights 6 = .ok (.getfield 115, 3) := by decide +kernel
theorem dX7_nights_9 : decode cX7_nights 9 = .ok (.if_icmp .ge 89, 3) := by decide +kernel
theorem dX7_nights_12 : decode cX7_nights 12 = .ok (.iconst 3, 1) := by decide +kernel
theorem dX7_nights_13 : decode cX7_nights 13 = .ok (.istore 4, 2) := by decide +kernel
theorem dX7_nights_15 : decode cX7_nights 15 = .ok (.iload 4, 2) := by decide +kernel
theorem dX7_nights_17 : decode cX7_nights 17 = .ok (.ifCond .lt 75, 3) := by decide +kernel
theorem dX7_nights_20 : decode cX7_nights 20 = .ok (.aload_n 0, 1) := by decide +kernel
theorem dX7_nights_21 : decode cX7_nights 21 = .ok (.getfield 49, 3) := by decide +kernel
theorem dX7_nights_24 : decode cX7_nights 24 = .ok (.iload_n 1, 1) := by decide +kernel
theorem dX7_nights_25 : decode cX7_nights 25 = .ok (.iconst 4, 1) := by decide +kernel
theorem dX7_nights_26 : decode cX7_nights 26 = .ok (.iload_n 3, 1) := by decide +kernel
theorem dX7_nights_27 : decode cX7_nights 27 = .ok (.imul, 1) := by decide +kernel
theorem dX7_nights_28 : decode cX7_nights 28 = .ok (.iadd, 1) := by decide +kernel
theorem dX7_nights_29 : decode cX7_nights 29 = .ok (.iload 4, 2) := by decide +kernel
theorem dX7_nights_31 : decode cX7_nights 31 = .ok (.iadd, 1) := by decide +kernel
theorem dX7_nights_32 : decode cX7_nights 32 = .ok (.iaload, 1) := by decide +kernel
theorem dX7_nights_33 : decode cX7_nights 33 = .ok (.istore 5, 2) := by decide +kernel
theorem dX7_nights_35 : decode cX7_nights 35 = .ok (.aload_n 0, 1) := by decide +kernel
theorem dX7_nights_36 : decode cX7_nights 36 = .ok (.getfield 49, 3) := by decide +kernel
theorem dX7_nights_39 : decode cX7_nights 39 = .ok (.iload_n 1, 1) := by decide +kernel
theorem dX7_nights_40 : decode cX7_nights 40 = .ok (.iconst 4, 1) := by decide +kernel
theorem dX7_nights_41 : decode cX7_nights 41 = .ok (.iload_n 3, 1) := by decide +kernel
theorem dX7_nights_42 : decode cX7_nights 42 = .ok (.imul, 1) := by decide +kernel
theorem dX7_nights_43 : decode cX7_nights 43 = .ok (.iadd, 1) := by decide +kernel
theorem dX7_nights_44 : decode cX7_nights 44 = .ok (.iload 4, 2) := by decide +kernel
theorem dX7_nights_46 : decode cX7_nights 46 = .ok (.iadd, 1) := by decide +kernel
theorem dX7_nights_47 : decode cX7_nights 47 = .ok (.iconst 0, 1) := by decide +kernel
theorem dX7_nights_48 : decode cX7_nights 48 = .ok (.iastore, 1) := by decide +kernel
theorem dX7_nights_49 : decode cX7_nights 49 = .ok (.iload 4, 2) := by decide +kernel
theorem dX7_nights_51 : decode cX7_nights 51 = .ok (.iconst 1, 1) := by decide +kernel
theorem dX7_nights_52 : decode cX7_nights 52 = .ok (.iadd, 1) := by decide +kernel
theorem dX7_nights_53 : decode cX7_nights 53 = .ok (.aload_n 0, 1) := by decide +kernel
theorem dX7_nights_54 : decode cX7_nights 54 = .ok (.iload_n 3, 1) := by decide +kernel
theorem dX7_nights_55 : decode cX7_nights 55 = .ok (.invokevirtual 308, 3) := by decide +kernel
theorem dX7_nights_58 : decode cX7_nights 58 = .ok (.if_icmp .lt 11, 3) := by decide +kernel
theorem dX7_nights_61 : decode cX7_nights 61 = .ok (.iload_n 2, 1) := by decide +kernel
theorem dX7_nights_62 : decode cX7_nights 62 = .ok (.iload 5, 2) := by decide +kernel
theorem dX7_nights_64 : decode cX7_nights 64 = .ok (.iadd, 1) := by decide +kernel
theorem dX7_nights_65 : decode cX7_nights 65 = .ok (.istore_n 2, 1) := by decide +kernel
theorem dX7_nights_66 : decode cX7_nights 66 = .ok (.goto 20, 3) := by decide +kernel
theorem dX7_nights_69 : decode cX7_nights 69 = .ok (.aload_n 0, 1) := by decide +kernel
theorem dX7_nights_70 : decode cX7_nights 70 = .ok (.getfield 49, 3) := by decide +kernel
theorem dX7_nights_73 : decode cX7_nights 73 = .ok (.iload_n 1, 1) := by decide +kernel
theorem dX7_nights_74 : decode cX7_nights 74 = .ok (.iconst 4, 1) := by decide +kernel
theorem dX7_nights_75 : decode cX7_nights 75 = .ok (.iload_n 3, 1) := by decide +kernel
theorem dX7_nights_76 : decode cX7_nights 76 = .ok (.imul, 1) := by decide +kernel
theorem dX7_nights_77 : decode cX7_nights 77 = .ok (.iadd, 1) := by decide +kernel
theorem dX7_nights_78 : decode cX7_nights 78 = .ok (.iload 4, 2) := by decide +kernel
theorem dX7_nights_80 : decode cX7_nights 80 = .ok (.iadd, 1) := by decide +kernel
theorem dX7_nights_81 : decode cX7_nights 81 = .ok (.iconst 1, 1) := by decide +kernel
theorem dX7_nights_82 : decode cX7_nights 82 = .ok (.iadd, 1) := by decide +kernel
theorem dX7_nights_83 : decode cX7_nights 83 = .ok (.iload 5, 2) := by decide +kernel
theorem dX7_nights_85 : decode cX7_nights 85 = .ok (.iastore, 1) := by decide +kernel
theorem dX7_nights_86 : decode cX7_nights 86 = .ok (.iinc 4 (-1), 3) := by decide +kernel
theorem dX7_nights_89 : decode cX7_nights 89 = .ok (.goto (-74), 3) := by decide +kernel
theorem dX7_nights_92 : decode cX7_nights 92 = .ok (.iinc 3 1, 3) := by decide +kernel
theorem dX7_nights_95 : decode cX7_nights 95 = .ok (.goto (-91), 3) := by decide +kernel
theorem dX7_nights_98 : decode cX7_nights 98 = .ok (.aload_n 0, 1) := by decide +kernel
theorem dX7_nights_99 : decode cX7_nights 99 = .ok (.getfield 49, 3) := by decide +kernel
theorem dX7_nights_102 : decode cX7_nights 102 = .ok (.iload_n 1, 1) := by decide +kernel
theorem dX7_nights_103 : decode cX7_nights 103 = .ok (.bipush 34, 2) := by decide +kernel
theorem dX7_nights_105 : decode cX7_nights 105 = .ok (.iadd, 1) := by decide +kernel
theorem dX7_nights_106 : decode cX7_nights 106 = .ok (.dup2, 1) := by decide +kernel
theorem dX7_nights_107 : decode cX7_nights 107 = .ok (.iaload, 1) := by decide +kernel
theorem dX7_nights_108 : decode cX7_nights 108 = .ok (.iload_n 2, 1) := by decide +kernel
theorem dX7_nights_109 : decode cX7_nights 109 = .ok (.iadd, 1) := by decide +kernel
theorem dX7_nights_110 : decode cX7_nights 110 = .ok (.iastore, 1) := by decide +kernel
theorem dX7_nights_111 : decode cX7_nights 111 = .ok (.aload_n 0, 1) := by decide +kernel
theorem dX7_nights_112 : decode cX7_nights 112 = .ok (.getfield 49, 3) := by decide +kernel
theorem dX7_nights_115 : decode cX7_nights 115 = .ok (.iload_n 1, 1) := by decide +kernel
theorem dX7_nights_116 : decode cX7_nights 116 = .ok (.bipush 36, 2) := by decide +kernel
theorem dX7_nights_118 : decode cX7_nights 118 = .ok (.iadd, 1) := by decide +kernel
theorem dX7_nights_119 : decode cX7_nights 119 = .ok (.dup2, 1) := by decide +kernel
theorem dX7_nights_120 : decode cX7_nights 120 = .ok (.iaload, 1) := by decide +kernel
theorem dX7_nights_121 : decode cX7_nights 121 = .ok (.iconst 1, 1) := by decide +kernel
theorem dX7_nights_122 : decode cX7_nights 122 = .ok (.iadd, 1) := by decide +kernel
theorem dX7_nights_123 : decode cX7_nights 123 = .ok (.iastore, 1) := by decide +kernel
theorem dX7_nights_124 : decode cX7_nights 124 = .ok (.aload_n 0, 1) := by decide +kernel
theorem dX7_nights_125 : decode cX7_nights 125 = .ok (.getfield 49, 3) := by decide +kernel
theorem dX7_nights_128 : decode cX7_nights 128 = .ok (.iload_n 1, 1) := by decide +kernel
theorem dX7_nights_129 : decode cX7_nights 129 = .ok (.bipush 37, 2) := by decide +kernel
theorem dX7_nights_131 : decode cX7_nights 131 = .ok (.iadd, 1) := by decide +kernel
theorem dX7_nights_132 : decode cX7_nights 132 = .ok (.bipush (-4), 2) := by decide +kernel
theorem dX7_nights_134 : decode cX7_nights 134 = .ok (.iastore, 1) := by decide +kernel
theorem dX7_nights_135 : decode cX7_nights 135 = .ok (.iload_n 2, 1) := by decide +kernel
theorem dX7_nights_136 : decode cX7_nights 136 = .ok (.ireturn, 1) := by decide +kernel
theorem dX7_isLot_0 : decode cX7_isLot 0 = .ok (.aload_n 0, 1) := by decide +kernel
theorem dX7_isLot_1 : decode cX7_isLot 1 = .ok (.iload_n 1, 1) := by decide +kernel
theorem dX7_isLot_2 : decode cX7_isLot 2 = .ok (.invokevirtual 250, 3) := by decide +kernel
theorem dX7_isLot_5 : decode cX7_isLot 5 = .ok (.ifCond .eq 36, 3) := by decide +kernel
theorem dX7_isLot_8 : decode cX7_isLot 8 = .ok (.iload_n 2, 1) := by decide +kernel
theorem dX7_isLot_9 : decode cX7_isLot 9 = .ok (.i2l, 1) := by decide +kernel
theorem dX7_isLot_10 : decode cX7_isLot 10 = .ok (.lconst 0, 1) := by decide +kernel
theorem dX7_isLot_11 : decode cX7_isLot 11 = .ok (.aload_n 0, 1) := by decide +kernel
theorem dX7_isLot_12 : decode cX7_isLot 12 = .ok (.iload_n 1, 1) := by decide +kernel
theorem dX7_isLot_13 : decode cX7_isLot 13 = .ok (.invokevirtual 308, 3) := by decide +kernel
theorem dX7_isLot_16 : decode cX7_isLot 16 = .ok (.iconst 1, 1) := by decide +kernel
theorem dX7_isLot_17 : decode cX7_isLot 17 = .ok (.isub, 1) := by decide +kernel
theorem dX7_isLot_18 : decode cX7_isLot 18 = .ok (.i2l, 1) := by decide +kernel
theorem dX7_isLot_19 : decode cX7_isLot 19 = .ok (.invokestatic 134, 3) := by decide +kernel
theorem dX7_isLot_22 : decode cX7_isLot 22 = .ok (.ifCond .eq 19, 3) := by decide +kernel
theorem dX7_isLot_25 : decode cX7_isLot 25 = .ok (.iload_n 3, 1) := by decide +kernel
theorem dX7_isLot_26 : decode cX7_isLot 26 = .ok (.i2l, 1) := by decide +kernel
theorem dX7_isLot_27 : decode cX7_isLot 27 = .ok (.lconst 0, 1) := by decide +kernel
theorem dX7_isLot_28 : decode cX7_isLot 28 = .ok (.ldc2_w 311, 3) := by decide +kernel
theorem dX7_isLot_31 : decode cX7_isLot 31 = .ok (.invokestatic 134, 3) := by decide +kernel
theorem dX7_isLot_34 : decode cX7_isLot 34 = .ok (.ifCond .eq 7, 3) := by decide +kernel
theorem dX7_isLot_37 : decode cX7_isLot 37 = .ok (.iconst 1, 1) := by decide +kernel
theorem dX7_isLot_38 : decode cX7_isLot 38 = .ok (.goto 4, 3) := by decide +kernel
theorem dX7_isLot_41 : decode cX7_isLot 41 = .ok (.iconst 0, 1) := by decide +kernel
theorem dX7_isLot_42 : decode cX7_isLot 42 = .ok (.ireturn, 1) := by decide +kernel
theorem dX7_put_0 : decode cX7_put 0 = .ok (.aload_n 0, 1) := by decide +kernel
theorem dX7_put_1 : decode cX7_put 1 = .ok (.iload_n 1, 1) := by decide +kernel
theorem dX7_put_2 : decode cX7_put 2 = .ok (.iload_n 2, 1) := by decide +kernel
theorem dX7_put_3 : decode cX7_put 3 = .ok (.iload_n 3, 1) := by decide +kernel
theorem dX7_put_4 : decode cX7_put 4 = .ok (.invokevirtual 313, 3) := by decide +kernel
theorem dX7_put_7 : decode cX7_put 7 = .ok (.ifCond .ne 5, 3) := by decide +kernel
theorem dX7_put_10 : decode cX7_put 10 = .ok (.iconst (-1), 1) := by decide +kernel
theorem dX7_put_11 : decode cX7_put 11 = .ok (.ireturn, 1) := by decide +kernel
theorem dX7_put_12 : decode cX7_put 12 = .ok (.aload_n 0, 1) := by decide +kernel
theorem dX7_put_13 : decode cX7_put 13 = .ok (.getfield 49, 3) := by decide +kernel
theorem dX7_put_16 : decode cX7_put 16 = .ok (.sipush 280, 3) := by decide +kernel
theorem dX7_put_19 : decode cX7_put 19 = .ok (.iconst 4, 1) := by decide +kernel
theorem dX7_put_20 : decode cX7_put 20 = .ok (.iload_n 1, 1) := by decide +kernel
theorem dX7_put_21 : decode cX7_put 21 = .ok (.imul, 1) := by decide +kernel
theorem dX7_put_22 : decode cX7_put 22 = .ok (.iadd, 1) := by decide +kernel
theorem dX7_put_23 : decode cX7_put 23 = .ok (.iload_n 2, 1) := by decide +kernel
theorem dX7_put_24 : decode cX7_put 24 = .ok (.iadd, 1) := by decide +kernel
theorem dX7_put_25 : decode cX7_put 25 = .ok (.iaload, 1) := by decide +kernel
theorem dX7_put_26 : decode cX7_put 26 = .ok (.istore 4, 2) := by decide +kernel
theorem dX7_put_28 : decode cX7_put 28 = .ok (.aload_n 0, 1) := by decide +kernel
theorem dX7_put_29 : decode cX7_put 29 = .ok (.getfield 49, 3) := by decide +kernel
theorem dX7_put_32 : decode cX7_put 32 = .ok (.sipush 280, 3) := by decide +kernel
theorem dX7_put_35 : decode cX7_put 35 = .ok (.iconst 4, 1) := by decide +kernel
theorem dX7_put_36 : decode cX7_put 36 = .ok (.iload_n 1, 1) := by decide +kernel
theorem dX7_put_37 : decode cX7_put 37 = .ok (.imul, 1) := by decide +kernel
theorem dX7_put_38 : decode cX7_put 38 = .ok (.iadd, 1) := by decide +kernel
theorem dX7_put_39 : decode cX7_put 39 = .ok (.iload_n 2, 1) := by decide +kernel
theorem dX7_put_40 : decode cX7_put 40 = .ok (.iadd, 1) := by decide +kernel
theorem dX7_put_41 : decode cX7_put 41 = .ok (.iload_n 3, 1) := by decide +kernel
theorem dX7_put_42 : decode cX7_put 42 = .ok (.iastore, 1) := by decide +kernel
theorem dX7_put_43 : decode cX7_put 43 = .ok (.iload 4, 2) := by decide +kernel
theorem dX7_put_45 : decode cX7_put 45 = .ok (.ireturn, 1) := by decide +kernel
theorem dX7_has_0 : decode cX7_has 0 = .ok (.aload_n 0, 1) := by decide +kernel
theorem dX7_has_1 : decode cX7_has 1 = .ok (.iload_n 1, 1) := by decide +kernel
theorem dX7_has_2 : decode cX7_has 2 = .ok (.invokevirtual 250, 3) := by decide +kernel
theorem dX7_has_5 : decode cX7_has 5 = .ok (.ifCond .eq 32, 3) := by decide +kernel
theorem dX7_has_8 : decode cX7_has 8 = .ok (.iload_n 2, 1) := by decide +kernel
theorem dX7_has_9 : decode cX7_has 9 = .ok (.i2l, 1) := by decide +kernel
theorem dX7_has_10 : decode cX7_has 10 = .ok (.lconst 0, 1) := by decide +kernel
theorem dX7_has_11 : decode cX7_has 11 = .ok (.ldc2_w 225, 3) := by decide +kernel
theorem dX7_has_14 : decode cX7_has 14 = .ok (.invokestatic 134, 3) := by decide +kernel
theorem dX7_has_17 : decode cX7_has 17 = .ok (.ifCond .eq 20, 3) := by decide +kernel
theorem dX7_has_20 : decode cX7_has 20 = .ok (.aload_n 0, 1) := by decide +kernel
theorem dX7_has_21 : decode cX7_has 21 = .ok (.getfield 49, 3) := by decide +kernel
theorem dX7_has_24 : decode cX7_has 24 = .ok (.sipush 280, 3) := by decide +kernel
theorem dX7_has_27 : decode cX7_has 27 = .ok (.iconst 4, 1) := by decide +kernel
theorem dX7_has_28 : decode cX7_has 28 = .ok (.iload_n 1, 1) := by decide +kernel
theorem dX7_has_29 : decode cX7_has 29 = .ok (.imul, 1) := by decide +kernel
theorem dX7_has_30 : decode cX7_has 30 = .ok (.iadd, 1) := by decide +kernel
theorem dX7_has_31 : decode cX7_has 31 = .ok (.iload_n 2, 1) := by decide +kernel
theorem dX7_has_32 : decode cX7_has 32 = .ok (.iadd, 1) := by decide +kernel
theorem dX7_has_33 : decode cX7_has 33 = .ok (.iaload, 1) := by decide +kernel
theorem dX7_has_34 : decode cX7_has 34 = .ok (.goto 4, 3) := by decide +kernel
theorem dX7_has_37 : decode cX7_has 37 = .ok (.iconst (-1), 1) := by decide +kernel
theorem dX7_has_38 : decode cX7_has 38 = .ok (.ireturn, 1) := by decide +kernel
theorem dX7_may_0 : decode cX7_may 0 = .ok (.aload_n 0, 1) := by decide +kernel
theorem dX7_may_1 : decode cX7_may 1 = .ok (.iload_n 1, 1) := by decide +kernel
theorem dX7_may_2 : decode cX7_may 2 = .ok (.invokevirtual 256, 3) := by decide +kernel
theorem dX7_may_5 : decode cX7_may 5 = .ok (.ifCond .eq 15, 3) := by decide +kernel
theorem dX7_may_8 : decode cX7_may 8 = .ok (.aload_n 0, 1) := by decide +kernel
theorem dX7_may_9 : decode cX7_may 9 = .ok (.sipush 280, 3) := by decide +kernel
theorem dX7_may_12 : decode cX7_may 12 = .ok (.iload_n 1, 1) := by decide +kernel
theorem dX7_may_13 : decode cX7_may 13 = .ok (.iload_n 2, 1) := by decide +kernel
theorem dX7_may_14 : decode cX7_may 14 = .ok (.invokevirtual 316, 3) := by decide +kernel
theorem dX7_may_17 : decode cX7_may 17 = .ok (.goto 4, 3) := by decide +kernel
theorem dX7_may_20 : decode cX7_may 20 = .ok (.iconst (-1), 1) := by decide +kernel
theorem dX7_may_21 : decode cX7_may 21 = .ok (.ireturn, 1) := by decide +kernel
theorem dX7_lacks_0 : decode cX7_lacks 0 = .ok (.aload_n 0, 1) := by decide +kernel
theorem dX7_lacks_1 : decode cX7_lacks 1 = .ok (.iload_n 1, 1) := by decide +kernel
theorem dX7_lacks_2 : decode cX7_lacks 2 = .ok (.invokevirtual 256, 3) := by decide +kernel
theorem dX7_lacks_5 : decode cX7_lacks 5 = .ok (.ifCond .eq 24, 3) := by decide +kernel
theorem dX7_lacks_8 : decode cX7_lacks 8 = .ok (.aload_n 0, 1) := by decide +kernel
theorem dX7_lacks_9 : decode cX7_lacks 9 = .ok (.iload_n 3, 1) := by decide +kernel
theorem dX7_lacks_10 : decode cX7_lacks 10 = .ok (.invokevirtual 250, 3) := by decide +kernel
theorem dX7_lacks_13 : decode cX7_lacks 13 = .ok (.ifCond .eq 16, 3) := by decide +kernel
theorem dX7_lacks_16 : decode cX7_lacks 16 = .ok (.iload 4, 2) := by decide +kernel
theorem dX7_lacks_18 : decode cX7_lacks 18 = .ok (.i2l, 1) := by decide +kernel
theorem dX7_lacks_19 : decode cX7_lacks 19 = .ok (.lconst 0, 1) := by decide +kernel
theorem dX7_lacks_20 : decode cX7_lacks 20 = .ok (.ldc2_w 254, 3) := by decide +kernel
theorem dX7_lacks_23 : decode cX7_lacks 23 = .ok (.invokestatic 134, 3) := by decide +kernel
theorem dX7_lacks_26 : decode cX7_lacks 26 = .ok (.ifCond .ne 5, 3) := by decide +kernel
theorem dX7_lacks_29 : decode cX7_lacks 29 = .ok (.iconst (-1), 1) := by decide +kernel
theorem dX7_lacks_30 : decode cX7_lacks 30 = .ok (.ireturn, 1) := by decide +kernel
theorem dX7_lacks_31 : decode cX7_lacks 31 = .ok (.iload 4, 2) := by decide +kernel
theorem dX7_lacks_33 : decode cX7_lacks 33 = .ok (.iconst 2, 1) := by decide +kernel
theorem dX7_lacks_34 : decode cX7_lacks 34 = .ok (.if_icmp .ge 32, 3) := by decide +kernel
theorem dX7_lacks_37 : decode cX7_lacks 37 = .ok (.iload 4, 2) := by decide +kernel
theorem dX7_lacks_39 : decode cX7_lacks 39 = .ok (.ifCond .ne 16, 3) := by decide +kernel
theorem dX7_lacks_42 : decode cX7_lacks 42 = .ok (.aload_n 0, 1) := by decide +kernel
theorem dX7_lacks_43 : decode cX7_lacks 43 = .ok (.sipush 280, 3) := by decide +kernel
theorem dX7_lacks_46 : decode cX7_lacks 46 = .ok (.iload_n 1, 1) := by decide +kernel
theorem dX7_lacks_47 : decode cX7_lacks 47 = .ok (.iload_n 2, 1) := by decide +kernel
theorem dX7_lacks_48 : decode cX7_lacks 48 = .ok (.iload_n 3, 1) := by decide +kernel
theorem dX7_lacks_49 : decode cX7_lacks 49 = .ok (.invokevirtual 297, 3) := by decide +kernel
theorem dX7_lacks_52 : decode cX7_lacks 52 = .ok (.goto 13, 3) := by decide +kernel
theorem dX7_lacks_55 : decode cX7_lacks 55 = .ok (.aload_n 0, 1) := by decide +kernel
theorem dX7_lacks_56 : decode cX7_lacks 56 = .ok (.sipush 280, 3) := by decide +kernel
theorem dX7_lacks_59 : decode cX7_lacks 59 = .ok (.iload_n 1, 1) := by decide +kernel
theorem dX7_lacks_60 : decode cX7_lacks 60 = .ok (.iload_n 2, 1) := by decide +kernel
theorem dX7_lacks_61 : decode cX7_lacks 61 = .ok (.iload_n 3, 1) := by decide +kernel
theorem dX7_lacks_62 : decode cX7_lacks 62 = .ok (.invokevirtual 305, 3) := by decide +kernel
theorem dX7_lacks_65 : decode cX7_lacks 65 = .ok (.ireturn, 1) := by decide +kernel
theorem dX7_lacks_66 : decode cX7_lacks 66 = .ok (.aload_n 0, 1) := by decide +kernel
theorem dX7_lacks_67 : decode cX7_lacks 67 = .ok (.sipush 280, 3) := by decide +kernel
theorem dX7_lacks_70 : decode cX7_lacks 70 = .ok (.iload_n 1, 1) := by decide +kernel
theorem dX7_lacks_71 : decode cX7_lacks 71 = .ok (.iload_n 2, 1) := by decide +kernel
theorem dX7_lacks_72 : decode cX7_lacks 72 = .ok (.invokevirtual 301, 3) := by decide +kernel
theorem dX7_lacks_75 : decode cX7_lacks 75 = .ok (.aload_n 0, 1) := by decide +kernel
theorem dX7_lacks_76 : decode cX7_lacks 76 = .ok (.getfield 56, 3) := by decide +kernel
theorem dX7_lacks_79 : decode cX7_lacks 79 = .ok (.iconst 4, 1) := by decide +kernel
theorem dX7_lacks_80 : decode cX7_lacks 80 = .ok (.iload_n 3, 1) := by decide +kernel
theorem dX7_lacks_81 : decode cX7_lacks 81 = .ok (.imul, 1) := by decide +kernel
theorem dX7_lacks_82 : decode cX7_lacks 82 = .ok (.iaload, 1) := by decide +kernel
theorem dX7_lacks_83 : decode cX7_lacks 83 = .ok (.aload_n 0, 1) := by decide +kernel
theorem dX7_lacks_84 : decode cX7_lacks 84 = .ok (.getfield 56, 3) := by decide +kernel
theorem dX7_lacks_87 : decode cX7_lacks 87 = .ok (.iconst 4, 1) := by decide +kernel
theorem dX7_lacks_88 : decode cX7_lacks 88 = .ok (.iload_n 3, 1) := by decide +kernel
theorem dX7_lacks_89 : decode cX7_lacks 89 = .ok (.imul, 1) := by decide +kernel
theorem dX7_lacks_90 : decode cX7_lacks 90 = .ok (.iconst 1, 1) := by decide +kernel
theorem dX7_lacks_91 : decode cX7_lacks 91 = .ok (.iadd, 1) := by decide +kernel
theorem dX7_lacks_92 : decode cX7_lacks 92 = .ok (.iaload, 1) := by decide +kernel
theorem dX7_lacks_93 : decode cX7_lacks 93 = .ok (.iadd, 1) := by decide +kernel
theorem dX7_lacks_94 : decode cX7_lacks 94 = .ok (.aload_n 0, 1) := by decide +kernel
theorem dX7_lacks_95 : decode cX7_lacks 95 = .ok (.getfield 56, 3) := by decide +kernel
theorem dX7_lacks_98 : decode cX7_lacks 98 = .ok (.iconst 4, 1) := by decide +kernel
theorem dX7_lacks_99 : decode cX7_lacks 99 = .ok (.iload_n 3, 1) := by decide +kernel
theorem dX7_lacks_100 : decode cX7_lacks 100 = .ok (.imul, 1) := by decide +kernel
theorem dX7_lacks_101 : decode cX7_lacks 101 = .ok (.iconst 2, 1) := by decide +kernel
theorem dX7_lacks_102 : decode cX7_lacks 102 = .ok (.iadd, 1) := by decide +kernel
theorem dX7_lacks_103 : decode cX7_lacks 103 = .ok (.iaload, 1) := by decide +kernel
theorem dX7_lacks_104 : decode cX7_lacks 104 = .ok (.iadd, 1) := by decide +kernel
theorem dX7_lacks_105 : decode cX7_lacks 105 = .ok (.aload_n 0, 1) := by decide +kernel
theorem dX7_lacks_106 : decode cX7_lacks 106 = .ok (.getfield 56, 3) := by decide +kernel
theorem dX7_lacks_109 : decode cX7_lacks 109 = .ok (.iconst 4, 1) := by decide +kernel
theorem dX7_lacks_110 : decode cX7_lacks 110 = .ok (.iload_n 3, 1) := by decide +kernel
theorem dX7_lacks_111 : decode cX7_lacks 111 = .ok (.imul, 1) := by decide +kernel
theorem dX7_lacks_112 : decode cX7_lacks 112 = .ok (.iconst 3, 1) := by decide +kernel
theorem dX7_lacks_113 : decode cX7_lacks 113 = .ok (.iadd, 1) := by decide +kernel
theorem dX7_lacks_114 : decode cX7_lacks 114 = .ok (.iaload, 1) := by decide +kernel
theorem dX7_lacks_115 : decode cX7_lacks 115 = .ok (.iadd, 1) := by decide +kernel
theorem dX7_lacks_116 : decode cX7_lacks 116 = .ok (.ireturn, 1) := by decide +kernel
theorem dX7_eat_0 : decode cX7_eat 0 = .ok (.aload_n 0, 1) := by decide +kernel
theorem dX7_eat_1 : decode cX7_eat 1 = .ok (.iload_n 1, 1) := by decide +kernel
theorem dX7_eat_2 : decode cX7_eat 2 = .ok (.invokevirtual 256, 3) := by decide +kernel
theorem dX7_eat_5 : decode cX7_eat 5 = .ok (.ifCond .ne 5, 3) := by decide +kernel
theorem dX7_eat_8 : decode cX7_eat 8 = .ok (.iconst (-1), 1) := by decide +kernel
theorem dX7_eat_9 : decode cX7_eat 9 = .ok (.ireturn, 1) := by decide +kernel
theorem dX7_eat_10 : decode cX7_eat 10 = .ok (.aload_n 0, 1) := by decide +kernel
theorem dX7_eat_11 : decode cX7_eat 11 = .ok (.getfield 49, 3) := by decide +kernel
theorem dX7_eat_14 : decode cX7_eat 14 = .ok (.sipush 317, 3) := by decide +kernel
theorem dX7_eat_17 : decode cX7_eat 17 = .ok (.iaload, 1) := by decide +kernel
theorem dX7_eat_18 : decode cX7_eat 18 = .ok (.bipush (-4), 2) := by decide +kernel
theorem dX7_eat_20 : decode cX7_eat 20 = .ok (.if_icmp .ne 15, 3) := by decide +kernel
theorem dX7_eat_23 : decode cX7_eat 23 = .ok (.aload_n 0, 1) := by decide +kernel
theorem dX7_eat_24 : decode cX7_eat 24 = .ok (.sipush 280, 3) := by decide +kernel
theorem dX7_eat_27 : decode cX7_eat 27 = .ok (.iload_n 1, 1) := by decide +kernel
theorem dX7_eat_28 : decode cX7_eat 28 = .ok (.iload_n 2, 1) := by decide +kernel
theorem dX7_eat_29 : decode cX7_eat 29 = .ok (.invokevirtual 316, 3) := by decide +kernel
theorem dX7_eat_32 : decode cX7_eat 32 = .ok (.ifCond .le 8, 3) := by decide +kernel
theorem dX7_eat_35 : decode cX7_eat 35 = .ok (.bipush (-2), 2) := by decide +kernel
theorem dX7_eat_37 : decode cX7_eat 37 = .ok (.goto 12, 3) := by decide +kernel
theorem dX7_eat_40 : decode cX7_eat 40 = .ok (.aload_n 0, 1) := by decide +kernel
theorem dX7_eat_41 : decode cX7_eat 41 = .ok (.sipush 280, 3) := by decide +kernel
theorem dX7_eat_44 : decode cX7_eat 44 = .ok (.iload_n 1, 1) := by decide +kernel
theorem dX7_eat_45 : decode cX7_eat 45 = .ok (.iload_n 2, 1) := by decide +kernel
theorem dX7_eat_46 : decode cX7_eat 46 = .ok (.invokevirtual 320, 3) := by decide +kernel
theorem dX7_eat_49 : decode cX7_eat 49 = .ok (.ireturn, 1) := by decide +kernel
theorem dX7_night_0 : decode cX7_night 0 = .ok (.aload_n 0, 1) := by decide +kernel
theorem dX7_night_1 : decode cX7_night 1 = .ok (.sipush 280, 3) := by decide +kernel
theorem dX7_night_4 : decode cX7_night 4 = .ok (.invokevirtual 323, 3) := by decide +kernel
theorem dX7_night_7 : decode cX7_night 7 = .ok (.ireturn, 1) := by decide +kernel
theorem dX7_now_0 : decode cX7_now 0 = .ok (.iconst 0, 1) := by decide +kernel
theorem dX7_now_1 : decode cX7_now 1 = .ok (.istore_n 2, 1) := by decide +kernel
theorem dX7_now_2 : decode cX7_now 2 = .ok (.iconst 0, 1) := by decide +kernel
theorem dX7_now_3 : decode cX7_now 3 = .ok (.istore_n 3, 1) := by decide +kernel
theorem dX7_now_4 : decode cX7_now 4 = .ok (.iload_n 3, 1) := by decide +kernel
theorem dX7_now_5 : decode cX7_now 5 = .ok (.bipush 24, 2) := by decide +kernel
theorem dX7_now_7 : decode cX7_now 7 = .ok (.if_icmp .ge 22, 3) := by decide +kernel
theorem dX7_now_10 : decode cX7_now 10 = .ok (.iload_n 2, 1) := by decide +kernel
theorem dX7_now_11 : decode cX7_now 11 = .ok (.aload_n 0, 1) := by decide +kernel
theorem dX7_now_12 : decode cX7_now 12 = .ok (.getfield 49, 3) := by decide +kernel
theorem dX7_now_15 : decode cX7_now 15 = .ok (.sipush 280, 3) := by decide +kernel
theorem dX7_now_18 : decode cX7_now 18 = .ok (.iload_n 3, 1) := by decide +kernel
theorem dX7_now_19 : decode cX7_now 19 = .ok (.iadd, 1) := by decide +kernel
theorem dX7_now_20 : decode cX7_now 20 = .ok (.iaload, 1) := by decide +kernel
theorem dX7_now_21 : decode cX7_now 21 = .ok (.iadd, 1) := by decide +kernel
theorem dX7_now_22 : decode cX7_now 22 = .ok (.istore_n 2, 1) := by decide +kernel
theorem dX7_now_23 : decode cX7_now 23 = .ok (.iinc 3 1, 3) := by decide +kernel
theorem dX7_now_26 : decode cX7_now 26 = .ok (.goto (-22), 3) := by decide +kernel
theorem dX7_now_29 : decode cX7_now 29 = .ok (.iload_n 1, 1) := by decide +kernel
theorem dX7_now_30 : decode cX7_now 30 = .ok (.tableswitch 85 0 5 #[38, 47, 56, 65, 74, 83], 38) := by decide +kernel
theorem dX7_now_68 : decode cX7_now 68 = .ok (.aload_n 0, 1) := by decide +kernel
theorem dX7_now_69 : decode cX7_now 69 = .ok (.getfield 49, 3) := by decide +kernel
theorem dX7_now_72 : decode cX7_now 72 = .ok (.sipush 316, 3) := by decide +kernel
theorem dX7_now_75 : decode cX7_now 75 = .ok (.iaload, 1) := by decide +kernel
theorem dX7_now_76 : decode cX7_now 76 = .ok (.ireturn, 1) := by decide +kernel
theorem dX7_now_77 : decode cX7_now 77 = .ok (.aload_n 0, 1) := by decide +kernel
theorem dX7_now_78 : decode cX7_now 78 = .ok (.getfield 49, 3) := by decide +kernel
theorem dX7_now_81 : decode cX7_now 81 = .ok (.sipush 317, 3) := by decide +kernel
theorem dX7_now_84 : decode cX7_now 84 = .ok (.iaload, 1) := by decide +kernel
theorem dX7_now_85 : decode cX7_now 85 = .ok (.ireturn, 1) := by decide +kernel
theorem dX7_now_86 : decode cX7_now 86 = .ok (.aload_n 0, 1) := by decide +kernel
theorem dX7_now_87 : decode cX7_now 87 = .ok (.getfield 49, 3) := by decide +kernel
theorem dX7_now_90 : decode cX7_now 90 = .ok (.sipush 313, 3) := by decide +kernel
theorem dX7_now_93 : decode cX7_now 93 = .ok (.iaload, 1) := by decide +kernel
theorem dX7_now_94 : decode cX7_now 94 = .ok (.ireturn, 1) := by decide +kernel
theorem dX7_now_95 : decode cX7_now 95 = .ok (.aload_n 0, 1) := by decide +kernel
theorem dX7_now_96 : decode cX7_now 96 = .ok (.getfield 49, 3) := by decide +kernel
theorem dX7_now_99 : decode cX7_now 99 = .ok (.sipush 314, 3) := by decide +kernel
theorem dX7_now_102 : decode cX7_now 102 = .ok (.iaload, 1) := by decide +kernel
theorem dX7_now_103 : decode cX7_now 103 = .ok (.ireturn, 1) := by decide +kernel
theorem dX7_now_104 : decode cX7_now 104 = .ok (.aload_n 0, 1) := by decide +kernel
theorem dX7_now_105 : decode cX7_now 105 = .ok (.getfield 49, 3) := by decide +kernel
theorem dX7_now_108 : decode cX7_now 108 = .ok (.sipush 315, 3) := by decide +kernel
theorem dX7_now_111 : decode cX7_now 111 = .ok (.iaload, 1) := by decide +kernel
theorem dX7_now_112 : decode cX7_now 112 = .ok (.ireturn, 1) := by decide +kernel
theorem dX7_now_113 : decode cX7_now 113 = .ok (.iload_n 2, 1) := by decide +kernel
theorem dX7_now_114 : decode cX7_now 114 = .ok (.ireturn, 1) := by decide +kernel
theorem dX7_now_115 : decode cX7_now 115 = .ok (.iconst (-1), 1) := by decide +kernel
theorem dX7_now_116 : decode cX7_now 116 = .ok (.ireturn, 1) := by decide +kernel
theorem dX7_last_0 : decode cX7_last 0 = .ok (.aload_n 0, 1) := by decide +kernel
theorem dX7_last_1 : decode cX7_last 1 = .ok (.iload_n 1, 1) := by decide +kernel
theorem dX7_last_2 : decode cX7_last 2 = .ok (.invokevirtual 256, 3) := by decide +kernel
theorem dX7_last_5 : decode cX7_last 5 = .ok (.ifCond .eq 16, 3) := by decide +kernel
theorem dX7_last_8 : decode cX7_last 8 = .ok (.aload_n 0, 1) := by decide +kernel
theorem dX7_last_9 : decode cX7_last 9 = .ok (.getfield 49, 3) := by decide +kernel
theorem dX7_last_12 : decode cX7_last 12 = .ok (.sipush 304, 3) := by decide +kernel
theorem dX7_last_15 : decode cX7_last 15 = .ok (.iload_n 1, 1) := by decide +kernel
theorem dX7_last_16 : decode cX7_last 16 = .ok (.iadd, 1) := by decide +kernel
theorem dX7_last_17 : decode cX7_last 17 = .ok (.iaload, 1) := by decide +kernel
theorem dX7_last_18 : decode cX7_last 18 = .ok (.goto 4, 3) := by decide +kernel
theorem dX7_last_21 : decode cX7_last 21 = .ok (.iconst (-1), 1) := by decide +kernel
theorem dX7_last_22 : decode cX7_last 22 = .ok (.ireturn, 1) := by decide +kernel
theorem dX7_keep_0 : decode cX7_keep 0 = .ok (.iload_n 1, 1) := by decide +kernel
theorem dX7_keep_1 : decode cX7_keep 1 = .ok (.i2l, 1) := by decide +kernel
theorem dX7_keep_2 : decode cX7_keep 2 = .ok (.lconst 0, 1) := by decide +kernel
theorem dX7_keep_3 : decode cX7_keep 3 = .ok (.lconst 1, 1) := by decide +kernel
theorem dX7_keep_4 : decode cX7_keep 4 = .ok (.invokestatic 134, 3) := by decide +kernel
theorem dX7_keep_7 : decode cX7_keep 7 = .ok (.ifCond .ne 5, 3) := by decide +kernel
theorem dX7_keep_10 : decode cX7_keep 10 = .ok (.iconst (-1), 1) := by decide +kernel
theorem dX7_keep_11 : decode cX7_keep 11 = .ok (.ireturn, 1) := by decide +kernel
theorem dX7_keep_12 : decode cX7_keep 12 = .ok (.aload_n 0, 1) := by decide +kernel
theorem dX7_keep_13 : decode cX7_keep 13 = .ok (.getfield 52, 3) := by decide +kernel
theorem dX7_keep_16 : decode cX7_keep 16 = .ok (.iload_n 1, 1) := by decide +kernel
theorem dX7_keep_17 : decode cX7_keep 17 = .ok (.baload, 1) := by decide +kernel
theorem dX7_keep_18 : decode cX7_keep 18 = .ok (.invokestatic 270, 3) := by decide +kernel
theorem dX7_keep_21 : decode cX7_keep 21 = .ok (.istore_n 2, 1) := by decide +kernel
theorem dX7_keep_22 : decode cX7_keep 22 = .ok (.aload_n 0, 1) := by decide +kernel
theorem dX7_keep_23 : decode cX7_keep 23 = .ok (.getfield 52, 3) := by decide +kernel
theorem dX7_keep_26 : decode cX7_keep 26 = .ok (.iload_n 1, 1) := by decide +kernel
theorem dX7_keep_27 : decode cX7_keep 27 = .ok (.iconst 1, 1) := by decide +kernel
theorem dX7_keep_28 : decode cX7_keep 28 = .ok (.bastore, 1) := by decide +kernel
theorem dX7_keep_29 : decode cX7_keep 29 = .ok (.aload_n 0, 1) := by decide +kernel
theorem dX7_keep_30 : decode cX7_keep 30 = .ok (.sipush 320, 3) := by decide +kernel
theorem dX7_keep_33 : decode cX7_keep 33 = .ok (.bipush 40, 2) := by decide +kernel
theorem dX7_keep_35 : decode cX7_keep 35 = .ok (.iload_n 1, 1) := by decide +kernel
theorem dX7_keep_36 : decode cX7_keep 36 = .ok (.imul, 1) := by decide +kernel
theorem dX7_keep_37 : decode cX7_keep 37 = .ok (.iadd, 1) := by decide +kernel
theorem dX7_keep_38 : decode cX7_keep 38 = .ok (.sipush 280, 3) := by decide +kernel
theorem dX7_keep_41 : decode cX7_keep 41 = .ok (.invokevirtual 326, 3) := by decide +kernel
theorem dX7_keep_44 : decode cX7_keep 44 = .ok (.iload_n 2, 1) := by decide +kernel
theorem dX7_keep_45 : decode cX7_keep 45 = .ok (.ireturn, 1) := by decide +kernel
theorem dX7_back_0 : decode cX7_back 0 = .ok (.iload_n 1, 1) := by decide +kernel
theorem dX7_back_1 : decode cX7_back 1 = .ok (.i2l, 1) := by decide +kernel
theorem dX7_back_2 : decode cX7_back 2 = .ok (.lconst 0, 1) := by decide +kernel
theorem dX7_back_3 : decode cX7_back 3 = .ok (.lconst 1, 1) := by decide +kernel
theorem dX7_back_4 : decode cX7_back 4 = .ok (.invokestatic 134, 3) := by decide +kernel
theorem dX7_back_7 : decode cX7_back 7 = .ok (.ifCond .ne 5, 3) := by decide +kernel
theorem dX7_back_10 : decode cX7_back 10 = .ok (.iconst (-1), 1) := by decide +kernel
theorem dX7_back_11 : decode cX7_back 11 = .ok (.ireturn, 1) := by decide +kernel
theorem dX7_back_12 : decode cX7_back 12 = .ok (.aload_n 0, 1) := by decide +kernel
theorem dX7_back_13 : decode cX7_back 13 = .ok (.getfield 52, 3) := by decide +kernel
theorem dX7_back_16 : decode cX7_back 16 = .ok (.iload_n 1, 1) := by decide +kernel
theorem dX7_back_17 : decode cX7_back 17 = .ok (.baload, 1) := by decide +kernel
theorem dX7_back_18 : decode cX7_back 18 = .ok (.ifCond .ne 6, 3) := by decide +kernel
theorem dX7_back_21 : decode cX7_back 21 = .ok (.bipush (-2), 2) := by decide +kernel
theorem dX7_back_23 : decode cX7_back 23 = .ok (.ireturn, 1) := by decide +kernel
theorem dX7_back_24 : decode cX7_back 24 = .ok (.aload_n 0, 1) := by decide +kernel
theorem dX7_back_25 : decode cX7_back 25 = .ok (.sipush 280, 3) := by decide +kernel
theorem dX7_back_28 : decode cX7_back 28 = .ok (.sipush 320, 3) := by decide +kernel
theorem dX7_back_31 : decode cX7_back 31 = .ok (.bipush 40, 2) := by decide +kernel
theorem dX7_back_33 : decode cX7_back 33 = .ok (.iload_n 1, 1) := by decide +kernel
theorem dX7_back_34 : decode cX7_back 34 = .ok (.imul, 1) := by decide +kernel
theorem dX7_back_35 : decode cX7_back 35 = .ok (.iadd, 1) := by decide +kernel
theorem dX7_back_36 : decode cX7_back 36 = .ok (.invokevirtual 326, 3) := by decide +kernel
theorem dX7_back_39 : decode cX7_back 39 = .ok (.aload_n 0, 1) := by decide +kernel
theorem dX7_back_40 : decode cX7_back 40 = .ok (.getfield 49, 3) := by decide +kernel
theorem dX7_back_43 : decode cX7_back 43 = .ok (.sipush 316, 3) := by decide +kernel
theorem dX7_back_46 : decode cX7_back 46 = .ok (.iaload, 1) := by decide +kernel
theorem dX7_back_47 : decode cX7_back 47 = .ok (.ireturn, 1) := by decide +kernel
theorem dX7_day_0 : decode cX7_day 0 = .ok (.iload_n 1, 1) := by decide +kernel
theorem dX7_day_1 : decode cX7_day 1 = .ok (.bipush (-4), 2) := by decide +kernel
theorem dX7_day_3 : decode cX7_day 3 = .ok (.if_icmp .eq 13, 3) := by decide +kernel
theorem dX7_day_6 : decode cX7_day 6 = .ok (.aload_n 0, 1) := by decide +kernel
theorem dX7_day_7 : decode cX7_day 7 = .ok (.iload_n 1, 1) := by decide +kernel
theorem dX7_day_8 : decode cX7_day 8 = .ok (.invokevirtual 256, 3) := by decide +kernel
theorem dX7_day_11 : decode cX7_day 11 = .ok (.ifCond .ne 5, 3) := by decide +kernel
theorem dX7_day_14 : decode cX7_day 14 = .ok (.iconst (-1), 1) := by decide +kernel
theorem dX7_day_15 : decode cX7_day 15 = .ok (.ireturn, 1) := by decide +kernel
theorem dX7_day_16 : decode cX7_day 16 = .ok (.aload_n 0, 1) := by decide +kernel
theorem dX7_day_17 : decode cX7_day 17 = .ok (.getfield 138, 3) := by decide +kernel
theorem dX7_day_20 : decode cX7_day 20 = .ok (.bipush 7, 2) := by decide +kernel
theorem dX7_day_22 : decode cX7_day 22 = .ok (.if_icmp .ne 6, 3) := by decide +kernel
theorem dX7_day_25 : decode cX7_day 25 = .ok (.bipush (-3), 2) := by decide +kernel
theorem dX7_day_27 : decode cX7_day 27 = .ok (.ireturn, 1) := by decide +kernel
theorem dX7_day_28 : decode cX7_day 28 = .ok (.aload_n 0, 1) := by decide +kernel
theorem dX7_day_29 : decode cX7_day 29 = .ok (.getfield 62, 3) := by decide +kernel
theorem dX7_day_32 : decode cX7_day 32 = .ok (.aload_n 0, 1) := by decide +kernel
theorem dX7_day_33 : decode cX7_day 33 = .ok (.getfield 138, 3) := by decide +kernel
theorem dX7_day_36 : decode cX7_day 36 = .ok (.iload_n 1, 1) := by decide +kernel
theorem dX7_day_37 : decode cX7_day 37 = .ok (.iastore, 1) := by decide +kernel
theorem dX7_day_38 : decode cX7_day 38 = .ok (.aload_n 0, 1) := by decide +kernel
theorem dX7_day_39 : decode cX7_day 39 = .ok (.dup, 1) := by decide +kernel
theorem dX7_day_40 : decode cX7_day 40 = .ok (.getfield 138, 3) := by decide +kernel
theorem dX7_day_43 : decode cX7_day 43 = .ok (.iconst 1, 1) := by decide +kernel
theorem dX7_day_44 : decode cX7_day 44 = .ok (.iadd, 1) := by decide +kernel
theorem dX7_day_45 : decode cX7_day 45 = .ok (.putfield 138, 3) := by decide +kernel
theorem dX7_day_48 : decode cX7_day 48 = .ok (.aload_n 0, 1) := by decide +kernel
theorem dX7_day_49 : decode cX7_day 49 = .ok (.getfield 138, 3) := by decide +kernel
theorem dX7_day_52 : decode cX7_day 52 = .ok (.ireturn, 1) := by decide +kernel
theorem dX7_clear_0 : decode cX7_clear 0 = .ok (.aload_n 0, 1) := by decide +kernel
theorem dX7_clear_1 : decode cX7_clear 1 = .ok (.getfield 138, 3) := by decide +kernel
theorem dX7_clear_4 : decode cX7_clear 4 = .ok (.istore_n 1, 1) := by decide +kernel
theorem dX7_clear_5 : decode cX7_clear 5 = .ok (.aload_n 0, 1) := by decide +kernel
theorem dX7_clear_6 : decode cX7_clear 6 = .ok (.iconst 0, 1) := by decide +kernel
theorem dX7_clear_7 : decode cX7_clear 7 = .ok (.putfield 138, 3) := by decide +kernel
theorem dX7_clear_10 : decode cX7_clear 10 = .ok (.iload_n 1, 1) := by decide +kernel
theorem dX7_clear_11 : decode cX7_clear 11 = .ok (.ireturn, 1) := by decide +kernel
theorem dX7_begins_0 : decode cX7_begins 0 = .ok (.aload_n 0, 1) := by decide +kernel
theorem dX7_begins_1 : decode cX7_begins 1 = .ok (.iload_n 1, 1) := by decide +kernel
theorem dX7_begins_2 : decode cX7_begins 2 = .ok (.sipush 280, 3) := by decide +kernel
theorem dX7_begins_5 : decode cX7_begins 5 = .ok (.invokevirtual 326, 3) := by decide +kernel
theorem dX7_begins_8 : decode cX7_begins 8 = .ok (.aload_n 0, 1) := by decide +kernel
theorem dX7_begins_9 : decode cX7_begins 9 = .ok (.getfield 49, 3) := by decide +kernel
theorem dX7_begins_12 : decode cX7_begins 12 = .ok (.iload_n 1, 1) := by decide +kernel
theorem dX7_begins_13 : decode cX7_begins 13 = .ok (.bipush 33, 2) := by decide +kernel
theorem dX7_begins_15 : decode cX7_begins 15 = .ok (.iadd, 1) := by decide +kernel
theorem dX7_begins_16 : decode cX7_begins 16 = .ok (.iconst 0, 1) := by decide +kernel
theorem dX7_begins_17 : decode cX7_begins 17 = .ok (.iastore, 1) := by decide +kernel
theorem dX7_begins_18 : decode cX7_begins 18 = .ok (.aload_n 0, 1) := by decide +kernel
theorem dX7_begins_19 : decode cX7_begins 19 = .ok (.getfield 49, 3) := by decide +kernel
theorem dX7_begins_22 : decode cX7_begins 22 = .ok (.iload_n 1, 1) := by decide +kernel
theorem dX7_begins_23 : decode cX7_begins 23 = .ok (.bipush 34, 2) := by decide +kernel
theorem dX7_begins_25 : decode cX7_begins 25 = .ok (.iadd, 1) := by decide +kernel
theorem dX7_begins_26 : decode cX7_begins 26 = .ok (.iconst 0, 1) := by decide +kernel
theorem dX7_begins_27 : decode cX7_begins 27 = .ok (.iastore, 1) := by decide +kernel
theorem dX7_begins_28 : decode cX7_begins 28 = .ok (.aload_n 0, 1) := by decide +kernel
theorem dX7_begins_29 : decode cX7_begins 29 = .ok (.getfield 49, 3) := by decide +kernel
theorem dX7_begins_32 : decode cX7_begins 32 = .ok (.iload_n 1, 1) := by decide +kernel
theorem dX7_begins_33 : decode cX7_begins 33 = .ok (.bipush 35, 2) := by decide +kernel
theorem dX7_begins_35 : decode cX7_begins 35 = .ok (.iadd, 1) := by decide +kernel
theorem dX7_begins_36 : decode cX7_begins 36 = .ok (.iconst 0, 1) := by decide +kernel
theorem dX7_begins_37 : decode cX7_begins 37 = .ok (.iastore, 1) := by decide +kernel
theorem dX7_begins_38 : decode cX7_begins 38 = .ok (.aload_n 0, 1) := by decide +kernel
theorem dX7_begins_39 : decode cX7_begins 39 = .ok (.getfield 49, 3) := by decide +kernel
theorem dX7_begins_42 : decode cX7_begins 42 = .ok (.iload_n 1, 1) := by decide +kernel
theorem dX7_begins_43 : decode cX7_begins 43 = .ok (.bipush 37, 2) := by decide +kernel
theorem dX7_begins_45 : decode cX7_begins 45 = .ok (.iadd, 1) := by decide +kernel
theorem dX7_begins_46 : decode cX7_begins 46 = .ok (.bipush (-4), 2) := by decide +kernel
theorem dX7_begins_48 : decode cX7_begins 48 = .ok (.iastore, 1) := by decide +kernel
theorem dX7_begins_49 : decode cX7_begins 49 = .ok (.return_, 1) := by decide +kernel
theorem dX7_runs_0 : decode cX7_runs 0 = .ok (.aload_n 0, 1) := by decide +kernel
theorem dX7_runs_1 : decode cX7_runs 1 = .ok (.sipush 240, 3) := by decide +kernel
theorem dX7_runs_4 : decode cX7_runs 4 = .ok (.invokevirtual 329, 3) := by decide +kernel
theorem dX7_runs_7 : decode cX7_runs 7 = .ok (.aload_n 0, 1) := by decide +kernel
theorem dX7_runs_8 : decode cX7_runs 8 = .ok (.iconst 0, 1) := by decide +kernel
theorem dX7_runs_9 : decode cX7_runs 9 = .ok (.putfield 332, 3) := by decide +kernel
theorem dX7_runs_12 : decode cX7_runs 12 = .ok (.iconst 0, 1) := by decide +kernel
theorem dX7_runs_13 : decode cX7_runs 13 = .ok (.istore_n 2, 1) := by decide +kernel
theorem dX7_runs_14 : decode cX7_runs 14 = .ok (.iload_n 2, 1) := by decide +kernel
theorem dX7_runs_15 : decode cX7_runs 15 = .ok (.aload_n 0, 1) := by decide +kernel
theorem dX7_runs_16 : decode cX7_runs 16 = .ok (.getfield 138, 3) := by decide +kernel
theorem dX7_runs_19 : decode cX7_runs 19 = .ok (.if_icmp .ge 96, 3) := by decide +kernel
theorem dX7_runs_22 : decode cX7_runs 22 = .ok (.aload_n 0, 1) := by decide +kernel
theorem dX7_runs_23 : decode cX7_runs 23 = .ok (.getfield 62, 3) := by decide +kernel
theorem dX7_runs_26 : decode cX7_runs 26 = .ok (.iload_n 2, 1) := by decide +kernel
theorem dX7_runs_27 : decode cX7_runs 27 = .ok (.iaload, 1) := by decide +kernel
theorem dX7_runs_28 : decode cX7_runs 28 = .ok (.bipush (-4), 2) := by decide +kernel
theorem dX7_runs_30 : decode cX7_runs 30 = .ok (.if_icmp .eq 71, 3) := by decide +kernel
theorem dX7_runs_33 : decode cX7_runs 33 = .ok (.aload_n 0, 1) := by decide +kernel
theorem dX7_runs_34 : decode cX7_runs 34 = .ok (.aload_n 0, 1) := by decide +kernel
theorem dX7_runs_35 : decode cX7_runs 35 = .ok (.sipush 240, 3) := by decide +kernel
theorem dX7_runs_38 : decode cX7_runs 38 = .ok (.aload_n 0, 1) := by decide +kernel
theorem dX7_runs_39 : decode cX7_runs 39 = .ok (.getfield 62, 3) := by decide +kernel
theorem dX7_runs_42 : decode cX7_runs 42 = .ok (.iload_n 2, 1) := by decide +kernel
theorem dX7_runs_43 : decode cX7_runs 43 = .ok (.iaload, 1) := by decide +kernel
theorem dX7_runs_44 : decode cX7_runs 44 = .ok (.iload_n 1, 1) := by decide +kernel
theorem dX7_runs_45 : decode cX7_runs 45 = .ok (.iload_n 2, 1) := by decide +kernel
theorem dX7_runs_46 : decode cX7_runs 46 = .ok (.ishr, 1) := by decide +kernel
theorem dX7_runs_47 : decode cX7_runs 47 = .ok (.iconst 1, 1) := by decide +kernel
theorem dX7_runs_48 : decode cX7_runs 48 = .ok (.iand, 1) := by decide +kernel
theorem dX7_runs_49 : decode cX7_runs 49 = .ok (.iconst 1, 1) := by decide +kernel
theorem dX7_runs_50 : decode cX7_runs 50 = .ok (.if_icmp .ne 7, 3) := by decide +kernel
theorem dX7_runs_53 : decode cX7_runs 53 = .ok (.iconst 1, 1) := by decide +kernel
theorem dX7_runs_54 : decode cX7_runs 54 = .ok (.goto 4, 3) := by decide +kernel
theorem dX7_runs_57 : decode cX7_runs 57 = .ok (.iconst 0, 1) := by decide +kernel
theorem dX7_runs_58 : decode cX7_runs 58 = .ok (.invokevirtual 316, 3) := by decide +kernel
theorem dX7_runs_61 : decode cX7_runs 61 = .ok (.putfield 332, 3) := by decide +kernel
theorem dX7_runs_64 : decode cX7_runs 64 = .ok (.aload_n 0, 1) := by decide +kernel
theorem dX7_runs_65 : decode cX7_runs 65 = .ok (.getfield 332, 3) := by decide +kernel
theorem dX7_runs_68 : decode cX7_runs 68 = .ok (.ifCond .le 5, 3) := by decide +kernel
theorem dX7_runs_71 : decode cX7_runs 71 = .ok (.iload_n 2, 1) := by decide +kernel
theorem dX7_runs_72 : decode cX7_runs 72 = .ok (.ireturn, 1) := by decide +kernel
theorem dX7_runs_73 : decode cX7_runs 73 = .ok (.aload_n 0, 1) := by decide +kernel
theorem dX7_runs_74 : decode cX7_runs 74 = .ok (.sipush 240, 3) := by decide +kernel
theorem dX7_runs_77 : decode cX7_runs 77 = .ok (.aload_n 0, 1) := by decide +kernel
theorem dX7_runs_78 : decode cX7_runs 78 = .ok (.getfield 62, 3) := by decide +kernel
theorem dX7_runs_81 : decode cX7_runs 81 = .ok (.iload_n 2, 1) := by decide +kernel
theorem dX7_runs_82 : decode cX7_runs 82 = .ok (.iaload, 1) := by decide +kernel
theorem dX7_runs_83 : decode cX7_runs 83 = .ok (.iload_n 1, 1) := by decide +kernel
theorem dX7_runs_84 : decode cX7_runs 84 = .ok (.iload_n 2, 1) := by decide +kernel
theorem dX7_runs_85 : decode cX7_runs 85 = .ok (.ishr, 1) := by decide +kernel
theorem dX7_runs_86 : decode cX7_runs 86 = .ok (.iconst 1, 1) := by decide +kernel
theorem dX7_runs_87 : decode cX7_runs 87 = .ok (.iand, 1) := by decide +kernel
theorem dX7_runs_88 : decode cX7_runs 88 = .ok (.iconst 1, 1) := by decide +kernel
theorem dX7_runs_89 : decode cX7_runs 89 = .ok (.if_icmp .ne 7, 3) := by decide +kernel
theorem dX7_runs_92 : decode cX7_runs 92 = .ok (.iconst 1, 1) := by decide +kernel
theorem dX7_runs_93 : decode cX7_runs 93 = .ok (.goto 4, 3) := by decide +kernel
theorem dX7_runs_96 : decode cX7_runs 96 = .ok (.iconst 0, 1) := by decide +kernel
theorem dX7_runs_97 : decode cX7_runs 97 = .ok (.invokevirtual 320, 3) := by decide +kernel
theorem dX7_runs_100 : decode cX7_runs 100 = .ok (.pop, 1) := by decide +kernel
theorem dX7_runs_101 : decode cX7_runs 101 = .ok (.aload_n 0, 1) := by decide +kernel
theorem dX7_runs_102 : decode cX7_runs 102 = .ok (.sipush 240, 3) := by decide +kernel
theorem dX7_runs_105 : decode cX7_runs 105 = .ok (.invokevirtual 323, 3) := by decide +kernel
theorem dX7_runs_108 : decode cX7_runs 108 = .ok (.pop, 1) := by decide +kernel
theorem dX7_runs_109 : decode cX7_runs 109 = .ok (.iinc 2 1, 3) := by decide +kernel
theorem dX7_runs_112 : decode cX7_runs 112 = .ok (.goto (-98), 3) := by decide +kernel
theorem dX7_runs_115 : decode cX7_runs 115 = .ok (.aload_n 0, 1) := by decide +kernel
theorem dX7_runs_116 : decode cX7_runs 116 = .ok (.getfield 138, 3) := by decide +kernel
theorem dX7_runs_119 : decode cX7_runs 119 = .ok (.ireturn, 1) := by decide +kernel
theorem dX7_isSameLarder_0 : decode cX7_isSameLarder 0 = .ok (.iconst 1, 1) := by decide +kernel
theorem dX7_isSameLarder_1 : decode cX7_isSameLarder 1 = .ok (.istore_n 2, 1) := by decide +kernel
theorem dX7_isSameLarder_2 : decode cX7_isSameLarder 2 = .ok (.iconst 0, 1) := by decide +kernel
theorem dX7_isSameLarder_3 : decode cX7_isSameLarder 3 = .ok (.istore_n 3, 1) := by decide +kernel
theorem dX7_isSameLarder_4 : decode cX7_isSameLarder 4 = .ok (.iload_n 3, 1) := by decide +kernel
theorem dX7_isSameLarder_5 : decode cX7_isSameLarder 5 = .ok (.bipush 24, 2) := by decide +kernel
theorem dX7_isSameLarder_7 : decode cX7_isSameLarder 7 = .ok (.if_icmp .ge 40, 3) := by decide +kernel
theorem dX7_isSameLarder_10 : decode cX7_isSameLarder 10 = .ok (.iload_n 2, 1) := by decide +kernel
theorem dX7_isSameLarder_11 : decode cX7_isSameLarder 11 = .ok (.ifCond .eq 28, 3) := by decide +kernel
theorem dX7_isSameLarder_14 : decode cX7_isSameLarder 14 = .ok (.aload_n 0, 1) := by decide +kernel
theorem dX7_isSameLarder_15 : decode cX7_isSameLarder 15 = .ok (.getfield 49, 3) := by decide +kernel
theorem dX7_isSameLarder_18 : decode cX7_isSameLarder 18 = .ok (.iload_n 1, 1) := by decide +kernel
theorem dX7_isSameLarder_19 : decode cX7_isSameLarder 19 = .ok (.iload_n 3, 1) := by decide +kernel
theorem dX7_isSameLarder_20 : decode cX7_isSameLarder 20 = .ok (.iadd, 1) := by decide +kernel
theorem dX7_isSameLarder_21 : decode cX7_isSameLarder 21 = .ok (.iaload, 1) := by decide +kernel
theorem dX7_isSameLarder_22 : decode cX7_isSameLarder 22 = .ok (.aload_n 0, 1) := by decide +kernel
theorem dX7_isSameLarder_23 : decode cX7_isSameLarder 23 = .ok (.getfield 49, 3) := by decide +kernel
theorem dX7_isSameLarder_26 : decode cX7_isSameLarder 26 = .ok (.sipush 280, 3) := by decide +kernel
theorem dX7_isSameLarder_29 : decode cX7_isSameLarder 29 = .ok (.iload_n 3, 1) := by decide +kernel
theorem dX7_isSameLarder_30 : decode cX7_isSameLarder 30 = .ok (.iadd, 1) := by decide +kernel
theorem dX7_isSameLarder_31 : decode cX7_isSameLarder 31 = .ok (.iaload, 1) := by decide +kernel
theorem dX7_isSameLarder_32 : decode cX7_isSameLarder 32 = .ok (.if_icmp .ne 7, 3) := by decide +kernel
theorem dX7_isSameLarder_35 : decode cX7_isSameLarder 35 = .ok (.iconst 1, 1) := by decide +kernel
theorem dX7_isSameLarder_36 : decode cX7_isSameLarder 36 = .ok (.goto 4, 3) := by decide +kernel
theorem dX7_isSameLarder_39 : decode cX7_isSameLarder 39 = .ok (.iconst 0, 1) := by decide +kernel
theorem dX7_isSameLarder_40 : decode cX7_isSameLarder 40 = .ok (.istore_n 2, 1) := by decide +kernel
theorem dX7_isSameLarder_41 : decode cX7_isSameLarder 41 = .ok (.iinc 3 1, 3) := by decide +kernel
theorem dX7_isSameLarder_44 : decode cX7_isSameLarder 44 = .ok (.goto (-40), 3) := by decide +kernel
theorem dX7_isSameLarder_47 : decode cX7_isSameLarder 47 = .ok (.iload_n 2, 1) := by decide +kernel
theorem dX7_isSameLarder_48 : decode cX7_isSameLarder 48 = .ok (.ireturn, 1) := by decide +kernel
theorem dX7_isClosed_0 : decode cX7_isClosed 0 = .ok (.aload_n 0, 1) := by decide +kernel
theorem dX7_isClosed_1 : decode cX7_isClosed 1 = .ok (.getfield 49, 3) := by decide +kernel
theorem dX7_isClosed_4 : decode cX7_isClosed 4 = .ok (.iload_n 1, 1) := by decide +kernel
theorem dX7_isClosed_5 : decode cX7_isClosed 5 = .ok (.bipush 34, 2) := by decide +kernel
theorem dX7_isClosed_7 : decode cX7_isClosed 7 = .ok (.iadd, 1) := by decide +kernel
theorem dX7_isClosed_8 : decode cX7_isClosed 8 = .ok (.iaload, 1) := by decide +kernel
theorem dX7_isClosed_9 : decode cX7_isClosed 9 = .ok (.ifCond .ne 15, 3) := by decide +kernel
theorem dX7_isClosed_12 : decode cX7_isClosed 12 = .ok (.aload_n 0, 1) := by decide +kernel
theorem dX7_isClosed_13 : decode cX7_isClosed 13 = .ok (.iload_n 1, 1) := by decide +kernel
theorem dX7_isClosed_14 : decode cX7_isClosed 14 = .ok (.invokevirtual 335, 3) := by decide +kernel
theorem dX7_isClosed_17 : decode cX7_isClosed 17 = .ok (.ifCond .eq 7, 3) := by decide +kernel
theorem dX7_isClosed_20 : decode cX7_isClosed 20 = .ok (.iconst 1, 1) := by decide +kernel
theorem dX7_isClosed_21 : decode cX7_isClosed 21 = .ok (.goto 4, 3) := by decide +kernel
theorem dX7_isClosed_24 : decode cX7_isClosed 24 = .ok (.iconst 0, 1) := by decide +kernel
theorem dX7_isClosed_25 : decode cX7_isClosed 25 = .ok (.istore_n 3, 1) := by decide +kernel
theorem dX7_isClosed_26 : decode cX7_isClosed 26 = .ok (.iconst 0, 1) := by decide +kernel
theorem dX7_isClosed_27 : decode cX7_isClosed 27 = .ok (.istore 4, 2) := by decide +kernel
theorem dX7_isClosed_29 : decode cX7_isClosed 29 = .ok (.iload 4, 2) := by decide +kernel
theorem dX7_isClosed_31 : decode cX7_isClosed 31 = .ok (.iload_n 2, 1) := by decide +kernel
theorem dX7_isClosed_32 : decode cX7_isClosed 32 = .ok (.if_icmp .ge 77, 3) := by decide +kernel
theorem dX7_isClosed_35 : decode cX7_isClosed 35 = .ok (.iload_n 3, 1) := by decide +kernel
theorem dX7_isClosed_36 : decode cX7_isClosed 36 = .ok (.ifCond .eq 73, 3) := by decide +kernel
theorem dX7_isClosed_39 : decode cX7_isClosed 39 = .ok (.iconst 1, 1) := by decide +kernel
theorem dX7_isClosed_40 : decode cX7_isClosed 40 = .ok (.istore 5, 2) := by decide +kernel
theorem dX7_isClosed_42 : decode cX7_isClosed 42 = .ok (.iload 5, 2) := by decide +kernel
theorem dX7_isClosed_44 : decode cX7_isClosed 44 = .ok (.iload_n 2, 1) := by decide +kernel
theorem dX7_isClosed_45 : decode cX7_isClosed 45 = .ok (.if_icmp .ge 31, 3) := by decide +kernel
theorem dX7_isClosed_48 : decode cX7_isClosed 48 = .ok (.aload_n 0, 1) := by decide +kernel
theorem dX7_isClosed_49 : decode cX7_isClosed 49 = .ok (.getfield 65, 3) := by decide +kernel
theorem dX7_isClosed_52 : decode cX7_isClosed 52 = .ok (.iload 4, 2) := by decide +kernel
theorem dX7_isClosed_54 : decode cX7_isClosed 54 = .ok (.iload 5, 2) := by decide +kernel
theorem dX7_isClosed_56 : decode cX7_isClosed 56 = .ok (.iadd, 1) := by decide +kernel
theorem dX7_isClosed_57 : decode cX7_isClosed 57 = .ok (.iload_n 2, 1) := by decide +kernel
theorem dX7_isClosed_58 : decode cX7_isClosed 58 = .ok (.irem, 1) := by decide +kernel
theorem dX7_isClosed_59 : decode cX7_isClosed 59 = .ok (.iaload, 1) := by decide +kernel
theorem dX7_isClosed_60 : decode cX7_isClosed 60 = .ok (.aload_n 0, 1) := by decide +kernel
theorem dX7_isClosed_61 : decode cX7_isClosed 61 = .ok (.getfield 65, 3) := by decide +kernel
theorem dX7_isClosed_64 : decode cX7_isClosed 64 = .ok (.iload 4, 2) := by decide +kernel
theorem dX7_isClosed_66 : decode cX7_isClosed 66 = .ok (.iaload, 1) := by decide +kernel
theorem dX7_isClosed_67 : decode cX7_isClosed 67 = .ok (.if_icmp .eq 9, 3) := by decide +kernel
theorem dX7_isClosed_70 : decode cX7_isClosed 70 = .ok (.iinc 5 1, 3) := by decide +kernel
theorem dX7_isClosed_73 : decode cX7_isClosed 73 = .ok (.goto (-31), 3) := by decide +kernel
theorem dX7_isClosed_76 : decode cX7_isClosed 76 = .ok (.aload_n 0, 1) := by decide +kernel
theorem dX7_isClosed_77 : decode cX7_isClosed 77 = .ok (.getfield 65, 3) := by decide +kernel
theorem dX7_isClosed_80 : decode cX7_isClosed 80 = .ok (.iload 4, 2) := by decide +kernel
theorem dX7_isClosed_82 : decode cX7_isClosed 82 = .ok (.iaload, 1) := by decide +kernel
theorem dX7_isClosed_83 : decode cX7_isClosed 83 = .ok (.bipush (-4), 2) := by decide +kernel
theorem dX7_isClosed_85 : decode cX7_isClosed 85 = .ok (.if_icmp .eq 12, 3) := by decide +kernel
theorem dX7_isClosed_88 : decode cX7_isClosed 88 = .ok (.iload 5, 2) := by decide +kernel
theorem dX7_isClosed_90 : decode cX7_isClosed 90 = .ok (.aload_n 0, 1) := by decide +kernel
theorem dX7_isClosed_91 : decode cX7_isClosed 91 = .ok (.getfield 121, 3) := by decide +kernel
theorem dX7_isClosed_94 : decode cX7_isClosed 94 = .ok (.if_icmp .lt 7, 3) := by decide +kernel
theorem dX7_isClosed_97 : decode cX7_isClosed 97 = .ok (.iconst 1, 1) := by decide +kernel
theorem dX7_isClosed_98 : decode cX7_isClosed 98 = .ok (.goto 4, 3) := by decide +kernel
theorem dX7_isClosed_101 : decode cX7_isClosed 101 = .ok (.iconst 0, 1) := by decide +kernel
theorem dX7_isClosed_102 : decode cX7_isClosed 102 = .ok (.istore_n 3, 1) := by decide +kernel
theorem dX7_isClosed_103 : decode cX7_isClosed 103 = .ok (.iinc 4 1, 3) := by decide +kernel
theorem dX7_isClosed_106 : decode cX7_isClosed 106 = .ok (.goto (-77), 3) := by decide +kernel
theorem dX7_isClosed_109 : decode cX7_isClosed 109 = .ok (.iload_n 3, 1) := by decide +kernel
theorem dX7_isClosed_110 : decode cX7_isClosed 110 = .ok (.ireturn, 1) := by decide +kernel
theorem dX7_isRowClosed_0 : decode cX7_isRowClosed 0 = .ok (.iload_n 1, 1) := by decide +kernel
theorem dX7_isRowClosed_1 : decode cX7_isRowClosed 1 = .ok (.aload_n 0, 1) := by decide +kernel
theorem dX7_isRowClosed_2 : decode cX7_isRowClosed 2 = .ok (.getfield 138, 3) := by decide +kernel
theorem dX7_isRowClosed_5 : decode cX7_isRowClosed 5 = .ok (.if_icmp .lt 18, 3) := by decide +kernel
theorem dX7_isRowClosed_8 : decode cX7_isRowClosed 8 = .ok (.aload_n 0, 1) := by decide +kernel
theorem dX7_isRowClosed_9 : decode cX7_isRowClosed 9 = .ok (.getfield 138, 3) := by decide +kernel
theorem dX7_isRowClosed_12 : decode cX7_isRowClosed 12 = .ok (.i2l, 1) := by decide +kernel
theorem dX7_isRowClosed_13 : decode cX7_isRowClosed 13 = .ok (.lconst 1, 1) := by decide +kernel
theorem dX7_isRowClosed_14 : decode cX7_isRowClosed 14 = .ok (.ldc2_w 203, 3) := by decide +kernel
theorem dX7_isRowClosed_17 : decode cX7_isRowClosed 17 = .ok (.invokestatic 134, 3) := by decide +kernel
theorem dX7_isRowClosed_20 : decode cX7_isRowClosed 20 = .ok (.ifCond .ne 5, 3) := by decide +kernel
theorem dX7_isRowClosed_23 : decode cX7_isRowClosed 23 = .ok (.iconst 0, 1) := by decide +kernel
theorem dX7_isRowClosed_24 : decode cX7_isRowClosed 24 = .ok (.ireturn, 1) := by decide +kernel
theorem dX7_isRowClosed_25 : decode cX7_isRowClosed 25 = .ok (.iconst 1, 1) := by decide +kernel
theorem dX7_isRowClosed_26 : decode cX7_isRowClosed 26 = .ok (.istore_n 2, 1) := by decide +kernel
theorem dX7_isRowClosed_27 : decode cX7_isRowClosed 27 = .ok (.iconst 0, 1) := by decide +kernel
theorem dX7_isRowClosed_28 : decode cX7_isRowClosed 28 = .ok (.istore_n 3, 1) := by decide +kernel
theorem dX7_isRowClosed_29 : decode cX7_isRowClosed 29 = .ok (.iload_n 3, 1) := by decide +kernel
theorem dX7_isRowClosed_30 : decode cX7_isRowClosed 30 = .ok (.aload_n 0, 1) := by decide +kernel
theorem dX7_isRowClosed_31 : decode cX7_isRowClosed 31 = .ok (.getfield 138, 3) := by decide +kernel
theorem dX7_isRowClosed_34 : decode cX7_isRowClosed 34 = .ok (.if_icmp .ge 66, 3) := by decide +kernel
theorem dX7_isRowClosed_37 : decode cX7_isRowClosed 37 = .ok (.aload_n 0, 1) := by decide +kernel
theorem dX7_isRowClosed_38 : decode cX7_isRowClosed 38 = .ok (.getfield 65, 3) := by decide +kernel
theorem dX7_isRowClosed_41 : decode cX7_isRowClosed 41 = .ok (.iload_n 3, 1) := by decide +kernel
theorem dX7_isRowClosed_42 : decode cX7_isRowClosed 42 = .ok (.aload_n 0, 1) := by decide +kernel
theorem dX7_isRowClosed_43 : decode cX7_isRowClosed 43 = .ok (.getfield 62, 3) := by decide +kernel
theorem dX7_isRowClosed_46 : decode cX7_isRowClosed 46 = .ok (.iload_n 3, 1) := by decide +kernel
theorem dX7_isRowClosed_47 : decode cX7_isRowClosed 47 = .ok (.iaload, 1) := by decide +kernel
theorem dX7_isRowClosed_48 : decode cX7_isRowClosed 48 = .ok (.iastore, 1) := by decide +kernel
theorem dX7_isRowClosed_49 : decode cX7_isRowClosed 49 = .ok (.iload_n 2, 1) := by decide +kernel
theorem dX7_isRowClosed_50 : decode cX7_isRowClosed 50 = .ok (.ifCond .eq 42, 3) := by decide +kernel
theorem dX7_isRowClosed_53 : decode cX7_isRowClosed 53 = .ok (.aload_n 0, 1) := by decide +kernel
theorem dX7_isRowClosed_54 : decode cX7_isRowClosed 54 = .ok (.getfield 62, 3) := by decide +kernel
theorem dX7_isRowClosed_57 : decode cX7_isRowClosed 57 = .ok (.iload_n 3, 1) := by decide +kernel
theorem dX7_isRowClosed_58 : decode cX7_isRowClosed 58 = .ok (.iaload, 1) := by decide +kernel
theorem dX7_isRowClosed_59 : decode cX7_isRowClosed 59 = .ok (.bipush (-4), 2) := by decide +kernel
theorem dX7_isRowClosed_61 : decode cX7_isRowClosed 61 = .ok (.if_icmp .ne 27, 3) := by decide +kernel
theorem dX7_isRowClosed_64 : decode cX7_isRowClosed 64 = .ok (.aload_n 0, 1) := by decide +kernel
theorem dX7_isRowClosed_65 : decode cX7_isRowClosed 65 = .ok (.getfield 127, 3) := by decide +kernel
theorem dX7_isRowClosed_68 : decode cX7_isRowClosed 68 = .ok (.aload_n 0, 1) := by decide +kernel
theorem dX7_isRowClosed_69 : decode cX7_isRowClosed 69 = .ok (.getfield 49, 3) := by decide +kernel
theorem dX7_isRowClosed_72 : decode cX7_isRowClosed 72 = .ok (.sipush 316, 3) := by decide +kernel
theorem dX7_isRowClosed_75 : decode cX7_isRowClosed 75 = .ok (.iaload, 1) := by decide +kernel
theorem dX7_isRowClosed_76 : decode cX7_isRowClosed 76 = .ok (.iload_n 3, 1) := by decide +kernel
theorem dX7_isRowClosed_77 : decode cX7_isRowClosed 77 = .ok (.iadd, 1) := by decide +kernel
theorem dX7_isRowClosed_78 : decode cX7_isRowClosed 78 = .ok (.bipush 7, 2) := by decide +kernel
theorem dX7_isRowClosed_80 : decode cX7_isRowClosed 80 = .ok (.irem, 1) := by decide +kernel
theorem dX7_isRowClosed_81 : decode cX7_isRowClosed 81 = .ok (.ishr, 1) := by decide +kernel
theorem dX7_isRowClosed_82 : decode cX7_isRowClosed 82 = .ok (.iconst 1, 1) := by decide +kernel
theorem dX7_isRowClosed_83 : decode cX7_isRowClosed 83 = .ok (.iand, 1) := by decide +kernel
theorem dX7_isRowClosed_84 : decode cX7_isRowClosed 84 = .ok (.iconst 1, 1) := by decide +kernel
theorem dX7_isRowClosed_85 : decode cX7_isRowClosed 85 = .ok (.if_icmp .ne 7, 3) := by decide +kernel
theorem dX7_isRowClosed_88 : decode cX7_isRowClosed 88 = .ok (.iconst 1, 1) := by decide +kernel
theorem dX7_isRowClosed_89 : decode cX7_isRowClosed 89 = .ok (.goto 4, 3) := by decide +kernel
theorem dX7_isRowClosed_92 : decode cX7_isRowClosed 92 = .ok (.iconst 0, 1) := by decide +kernel
theorem dX7_isRowClosed_93 : decode cX7_isRowClosed 93 = .ok (.istore_n 2, 1) := by decide +kernel
theorem dX7_isRowClosed_94 : decode cX7_isRowClosed 94 = .ok (.iinc 3 1, 3) := by decide +kernel
theorem dX7_isRowClosed_97 : decode cX7_isRowClosed 97 = .ok (.goto (-68), 3) := by decide +kernel
theorem dX7_isRowClosed_100 : decode cX7_isRowClosed 100 = .ok (.iload_n 2, 1) := by decide +kernel
theorem dX7_isRowClosed_101 : decode cX7_isRowClosed 101 = .ok (.ifCond .eq 21, 3) := by decide +kernel
theorem dX7_isRowClosed_104 : decode cX7_isRowClosed 104 = .ok (.aload_n 0, 1) := by decide +kernel
theorem dX7_isRowClosed_105 : decode cX7_isRowClosed 105 = .ok (.sipush 240, 3) := by decide +kernel
theorem dX7_isRowClosed_108 : decode cX7_isRowClosed 108 = .ok (.aload_n 0, 1) := by decide +kernel
theorem dX7_isRowClosed_109 : decode cX7_isRowClosed 109 = .ok (.getfield 138, 3) := by decide +kernel
theorem dX7_isRowClosed_112 : decode cX7_isRowClosed 112 = .ok (.invokevirtual 338, 3) := by decide +kernel
theorem dX7_isRowClosed_115 : decode cX7_isRowClosed 115 = .ok (.ifCond .eq 7, 3) := by decide +kernel
theorem dX7_isRowClosed_118 : decode cX7_isRowClosed 118 = .ok (.iconst 1, 1) := by decide +kernel
theorem dX7_isRowClosed_119 : decode cX7_isRowClosed 119 = .ok (.goto 4, 3) := by decide +kernel
theorem dX7_isRowClosed_122 : decode cX7_isRowClosed 122 = .ok (.iconst 0, 1) := by decide +kernel
theorem dX7_isRowClosed_123 : decode cX7_isRowClosed 123 = .ok (.ireturn, 1) := by decide +kernel
theorem dX7_fedOf_0 : decode cX7_fedOf 0 = .ok (.iconst 0, 1) := by decide +kernel
theorem dX7_fedOf_1 : decode cX7_fedOf 1 = .ok (.istore_n 3, 1) := by decide +kernel
theorem dX7_fedOf_2 : decode cX7_fedOf 2 = .ok (.iconst 0, 1) := by decide +kernel
theorem dX7_fedOf_3 : decode cX7_fedOf 3 = .ok (.istore 4, 2) := by decide +kernel
theorem dX7_fedOf_5 : decode cX7_fedOf 5 = .ok (.iload 4, 2) := by decide +kernel
theorem dX7_fedOf_7 : decode cX7_fedOf 7 = .ok (.iload_n 2, 1) := by decide +kernel
theorem dX7_fedOf_8 : decode cX7_fedOf 8 = .ok (.if_icmp .ge 52, 3) := by decide +kernel
theorem dX7_fedOf_11 : decode cX7_fedOf 11 = .ok (.iload_n 3, 1) := by decide +kernel
theorem dX7_fedOf_12 : decode cX7_fedOf 12 = .ok (.aload_n 0, 1) := by decide +kernel
theorem dX7_fedOf_13 : decode cX7_fedOf 13 = .ok (.getfield 65, 3) := by decide +kernel
theorem dX7_fedOf_16 : decode cX7_fedOf 16 = .ok (.iload 4, 2) := by decide +kernel
theorem dX7_fedOf_18 : decode cX7_fedOf 18 = .ok (.iaload, 1) := by decide +kernel
theorem dX7_fedOf_19 : decode cX7_fedOf 19 = .ok (.bipush (-4), 2) := by decide +kernel
theorem dX7_fedOf_21 : decode cX7_fedOf 21 = .ok (.if_icmp .eq 30, 3) := by decide +kernel
theorem dX7_fedOf_24 : decode cX7_fedOf 24 = .ok (.aload_n 0, 1) := by decide +kernel
theorem dX7_fedOf_25 : decode cX7_fedOf 25 = .ok (.getfield 13, 3) := by decide +kernel
theorem dX7_fedOf_28 : decode cX7_fedOf 28 = .ok (.iconst 5, 1) := by decide +kernel
theorem dX7_fedOf_29 : decode cX7_fedOf 29 = .ok (.aload_n 0, 1) := by decide +kernel
theorem dX7_fedOf_30 : decode cX7_fedOf 30 = .ok (.getfield 65, 3) := by decide +kernel
theorem dX7_fedOf_33 : decode cX7_fedOf 33 = .ok (.iload 4, 2) := by decide +kernel
theorem dX7_fedOf_35 : decode cX7_fedOf 35 = .ok (.iaload, 1) := by decide +kernel
theorem dX7_fedOf_36 : decode cX7_fedOf 36 = .ok (.imul, 1) := by decide +kernel
theorem dX7_fedOf_37 : decode cX7_fedOf 37 = .ok (.iconst 2, 1) := by decide +kernel
theorem dX7_fedOf_38 : decode cX7_fedOf 38 = .ok (.iadd, 1) := by decide +kernel
theorem dX7_fedOf_39 : decode cX7_fedOf 39 = .ok (.iaload, 1) := by decide +kernel
theorem dX7_fedOf_40 : decode cX7_fedOf 40 = .ok (.iload_n 1, 1) := by decide +kernel
theorem dX7_fedOf_41 : decode cX7_fedOf 41 = .ok (.ishr, 1) := by decide +kernel
theorem dX7_fedOf_42 : decode cX7_fedOf 42 = .ok (.iconst 1, 1) := by decide +kernel
theorem dX7_fedOf_43 : decode cX7_fedOf 43 = .ok (.iand, 1) := by decide +kernel
theorem dX7_fedOf_44 : decode cX7_fedOf 44 = .ok (.ifCond .ne 7, 3) := by decide +kernel
theorem dX7_fedOf_47 : decode cX7_fedOf 47 = .ok (.iconst 1, 1) := by decide +kernel
theorem dX7_fedOf_48 : decode cX7_fedOf 48 = .ok (.goto 4, 3) := by decide +kernel
theorem dX7_fedOf_51 : decode cX7_fedOf 51 = .ok (.iconst 0, 1) := by decide +kernel
theorem dX7_fedOf_52 : decode cX7_fedOf 52 = .ok (.iadd, 1) := by decide +kernel
theorem dX7_fedOf_53 : decode cX7_fedOf 53 = .ok (.istore_n 3, 1) := by decide +kernel
theorem dX7_fedOf_54 : decode cX7_fedOf 54 = .ok (.iinc 4 1, 3) := by decide +kernel
theorem dX7_fedOf_57 : decode cX7_fedOf 57 = .ok (.goto (-52), 3) := by decide +kernel
theorem dX7_fedOf_60 : decode cX7_fedOf 60 = .ok (.iload_n 3, 1) := by decide +kernel
theorem dX7_fedOf_61 : decode cX7_fedOf 61 = .ok (.ireturn, 1) := by decide +kernel
theorem dX7_row_0 : decode cX7_row 0 = .ok (.iload_n 1, 1) := by decide +kernel
theorem dX7_row_1 : decode cX7_row 1 = .ok (.i2l, 1) := by decide +kernel
theorem dX7_row_2 : decode cX7_row 2 = .ok (.lconst 0, 1) := by decide +kernel
theorem dX7_row_3 : decode cX7_row 3 = .ok (.ldc2_w 203, 3) := by decide +kernel
theorem dX7_row_6 : decode cX7_row 6 = .ok (.invokestatic 134, 3) := by decide +kernel
theorem dX7_row_9 : decode cX7_row 9 = .ok (.ifCond .ne 19, 3) := by decide +kernel
theorem dX7_row_12 : decode cX7_row 12 = .ok (.iload_n 1, 1) := by decide +kernel
theorem dX7_row_13 : decode cX7_row 13 = .ok (.i2l, 1) := by decide +kernel
theorem dX7_row_14 : decode cX7_row 14 = .ok (.ldc2_w 227, 3) := by decide +kernel
theorem dX7_row_17 : decode cX7_row 17 = .ok (.ldc2_w 341, 3) := by decide +kernel
theorem dX7_row_20 : decode cX7_row 20 = .ok (.invokestatic 134, 3) := by decide +kernel
theorem dX7_row_23 : decode cX7_row 23 = .ok (.ifCond .ne 5, 3) := by decide +kernel
theorem dX7_row_26 : decode cX7_row 26 = .ok (.iconst (-1), 1) := by decide +kernel
theorem dX7_row_27 : decode cX7_row 27 = .ok (.ireturn, 1) := by decide +kernel
theorem dX7_row_28 : decode cX7_row 28 = .ok (.aload_n 0, 1) := by decide +kernel
theorem dX7_row_29 : decode cX7_row 29 = .ok (.iconst 0, 1) := by decide +kernel
theorem dX7_row_30 : decode cX7_row 30 = .ok (.invokevirtual 343, 3) := by decide +kernel
theorem dX7_row_33 : decode cX7_row 33 = .ok (.istore_n 2, 1) := by decide +kernel
theorem dX7_row_34 : decode cX7_row 34 = .ok (.iconst 0, 1) := by decide +kernel
theorem dX7_row_35 : decode cX7_row 35 = .ok (.istore_n 3, 1) := by decide +kernel
theorem dX7_row_36 : decode cX7_row 36 = .ok (.iload_n 3, 1) := by decide +kernel
theorem dX7_row_37 : decode cX7_row 37 = .ok (.aload_n 0, 1) := by decide +kernel
theorem dX7_row_38 : decode cX7_row 38 = .ok (.getfield 138, 3) := by decide +kernel
theorem dX7_row_41 : decode cX7_row 41 = .ok (.if_icmp .ge 21, 3) := by decide +kernel
theorem dX7_row_44 : decode cX7_row 44 = .ok (.aload_n 0, 1) := by decide +kernel
theorem dX7_row_45 : decode cX7_row 45 = .ok (.getfield 65, 3) := by decide +kernel
theorem dX7_row_48 : decode cX7_row 48 = .ok (.iload_n 3, 1) := by decide +kernel
theorem dX7_row_49 : decode cX7_row 49 = .ok (.aload_n 0, 1) := by decide +kernel
theorem dX7_row_50 : decode cX7_row 50 = .ok (.getfield 62, 3) := by decide +kernel
theorem dX7_row_53 : decode cX7_row 53 = .ok (.iload_n 3, 1) := by decide +kernel
theorem dX7_row_54 : decode cX7_row 54 = .ok (.iaload, 1) := by decide +kernel
theorem dX7_row_55 : decode cX7_row 55 = .ok (.iastore, 1) := by decide +kernel
theorem dX7_row_56 : decode cX7_row 56 = .ok (.iinc 3 1, 3) := by decide +kernel
theorem dX7_row_59 : decode cX7_row 59 = .ok (.goto (-23), 3) := by decide +kernel
theorem dX7_row_62 : decode cX7_row 62 = .ok (.iload_n 1, 1) := by decide +kernel
theorem dX7_row_63 : decode cX7_row 63 = .ok (.tableswitch 93 0 5 #[37, 52, 57, 66, 75, 84], 37) := by decide +kernel
theorem dX7_row_100 : decode cX7_row 100 = .ok (.iload_n 2, 1) := by decide +kernel
theorem dX7_row_101 : decode cX7_row 101 = .ok (.aload_n 0, 1) := by decide +kernel
theorem dX7_row_102 : decode cX7_row 102 = .ok (.getfield 138, 3) := by decide +kernel
theorem dX7_row_105 : decode cX7_row 105 = .ok (.if_icmp .ge 7, 3) := by decide +kernel
theorem dX7_row_108 : decode cX7_row 108 = .ok (.iload_n 2, 1) := by decide +kernel
theorem dX7_row_109 : decode cX7_row 109 = .ok (.goto 5, 3) := by decide +kernel
theorem dX7_row_112 : decode cX7_row 112 = .ok (.bipush (-4), 2) := by decide +kernel
theorem dX7_row_114 : decode cX7_row 114 = .ok (.ireturn, 1) := by decide +kernel
theorem dX7_row_115 : decode cX7_row 115 = .ok (.aload_n 0, 1) := by decide +kernel
theorem dX7_row_116 : decode cX7_row 116 = .ok (.getfield 332, 3) := by decide +kernel
theorem dX7_row_119 : decode cX7_row 119 = .ok (.ireturn, 1) := by decide +kernel
theorem dX7_row_120 : decode cX7_row 120 = .ok (.aload_n 0, 1) := by decide +kernel
theorem dX7_row_121 : decode cX7_row 121 = .ok (.getfield 49, 3) := by decide +kernel
theorem dX7_row_124 : decode cX7_row 124 = .ok (.sipush 273, 3) := by decide +kernel
theorem dX7_row_127 : decode cX7_row 127 = .ok (.iaload, 1) := by decide +kernel
theorem dX7_row_128 : decode cX7_row 128 = .ok (.ireturn, 1) := by decide +kernel
theorem dX7_row_129 : decode cX7_row 129 = .ok (.aload_n 0, 1) := by decide +kernel
theorem dX7_row_130 : decode cX7_row 130 = .ok (.getfield 49, 3) := by decide +kernel
theorem dX7_row_133 : decode cX7_row 133 = .ok (.sipush 274, 3) := by decide +kernel
theorem dX7_row_136 : decode cX7_row 136 = .ok (.iaload, 1) := by decide +kernel
theorem dX7_row_137 : decode cX7_row 137 = .ok (.ireturn, 1) := by decide +kernel
theorem dX7_row_138 : decode cX7_row 138 = .ok (.aload_n 0, 1) := by decide +kernel
theorem dX7_row_139 : decode cX7_row 139 = .ok (.getfield 49, 3) := by decide +kernel
theorem dX7_row_142 : decode cX7_row 142 = .ok (.sipush 275, 3) := by decide +kernel
theorem dX7_row_145 : decode cX7_row 145 = .ok (.iaload, 1) := by decide +kernel
theorem dX7_row_146 : decode cX7_row 146 = .ok (.ireturn, 1) := by decide +kernel
theorem dX7_row_147 : decode cX7_row 147 = .ok (.aload_n 0, 1) := by decide +kernel
theorem dX7_row_148 : decode cX7_row 148 = .ok (.iload_n 2, 1) := by decide +kernel
theorem dX7_row_149 : decode cX7_row 149 = .ok (.invokevirtual 346, 3) := by decide +kernel
theorem dX7_row_152 : decode cX7_row 152 = .ok (.invokestatic 270, 3) := by decide +kernel
theorem dX7_row_155 : decode cX7_row 155 = .ok (.ireturn, 1) := by decide +kernel
theorem dX7_row_156 : decode cX7_row 156 = .ok (.aload_n 0, 1) := by decide +kernel
theorem dX7_row_157 : decode cX7_row 157 = .ok (.iload_n 1, 1) := by decide +kernel
theorem dX7_row_158 : decode cX7_row 158 = .ok (.bipush 10, 2) := by decide +kernel
theorem dX7_row_160 : decode cX7_row 160 = .ok (.isub, 1) := by decide +kernel
theorem dX7_row_161 : decode cX7_row 161 = .ok (.iload_n 2, 1) := by decide +kernel
theorem dX7_row_162 : decode cX7_row 162 = .ok (.invokevirtual 349, 3) := by decide +kernel
theorem dX7_row_165 : decode cX7_row 165 = .ok (.ireturn, 1) := by decide +kernel
theorem dX7_told_0 : decode cX7_told 0 = .ok (.iload_n 1, 1) := by decide +kernel
theorem dX7_told_1 : decode cX7_told 1 = .ok (.istore_n 3, 1) := by decide +kernel
theorem dX7_told_2 : decode cX7_told 2 = .ok (.iload_n 0, 1) := by decide +kernel
theorem dX7_told_3 : decode cX7_told 3 = .ok (.istore 4, 2) := by decide +kernel
theorem dX7_told_5 : decode cX7_told 5 = .ok (.iload 4, 2) := by decide +kernel
theorem dX7_told_7 : decode cX7_told 7 = .ok (.ifCond .eq 19, 3) := by decide +kernel
theorem dX7_told_10 : decode cX7_told 10 = .ok (.iload_n 3, 1) := by decide +kernel
theorem dX7_told_11 : decode cX7_told 11 = .ok (.iload 4, 2) := by decide +kernel
theorem dX7_told_13 : decode cX7_told 13 = .ok (.irem, 1) := by decide +kernel
theorem dX7_told_14 : decode cX7_told 14 = .ok (.istore 5, 2) := by decide +kernel
theorem dX7_told_16 : decode cX7_told 16 = .ok (.iload 4, 2) := by decide +kernel
theorem dX7_told_18 : decode cX7_told 18 = .ok (.istore_n 3, 1) := by decide +kernel
theorem dX7_told_19 : decode cX7_told 19 = .ok (.iload 5, 2) := by decide +kernel
theorem dX7_told_21 : decode cX7_told 21 = .ok (.istore 4, 2) := by decide +kernel
theorem dX7_told_23 : decode cX7_told 23 = .ok (.goto (-18), 3) := by decide +kernel
theorem dX7_told_26 : decode cX7_told 26 = .ok (.iload_n 2, 1) := by decide +kernel
theorem dX7_told_27 : decode cX7_told 27 = .ok (.ifCond .ne 9, 3) := by decide +kernel
theorem dX7_told_30 : decode cX7_told 30 = .ok (.iload_n 0, 1) := by decide +kernel
theorem dX7_told_31 : decode cX7_told 31 = .ok (.iload_n 3, 1) := by decide +kernel
theorem dX7_told_32 : decode cX7_told 32 = .ok (.idiv, 1) := by decide +kernel
theorem dX7_told_33 : decode cX7_told 33 = .ok (.goto 6, 3) := by decide +kernel
theorem dX7_told_36 : decode cX7_told 36 = .ok (.iload_n 1, 1) := by decide +kernel
theorem dX7_told_37 : decode cX7_told 37 = .ok (.iload_n 3, 1) := by decide +kernel
theorem dX7_told_38 : decode cX7_told 38 = .ok (.idiv, 1) := by decide +kernel
theorem dX7_told_39 : decode cX7_told 39 = .ok (.ireturn, 1) := by decide +kernel
theorem dX7_bearsNow_0 : decode cX7_bearsNow 0 = .ok (.iconst 0, 1) := by decide +kernel
theorem dX7_bearsNow_1 : decode cX7_bearsNow 1 = .ok (.istore_n 1, 1) := by decide +kernel
theorem dX7_bearsNow_2 : decode cX7_bearsNow 2 = .ok (.iconst 0, 1) := by decide +kernel
theorem dX7_bearsNow_3 : decode cX7_bearsNow 3 = .ok (.istore_n 2, 1) := by decide +kernel
theorem dX7_bearsNow_4 : decode cX7_bearsNow 4 = .ok (.iload_n 2, 1) := by decide +kernel
theorem dX7_bearsNow_5 : decode cX7_bearsNow 5 = .ok (.iconst 1, 1) := by decide +kernel
theorem dX7_bearsNow_6 : decode cX7_bearsNow 6 = .ok (.aload_n 0, 1) := by decide +kernel
theorem dX7_bearsNow_7 : decode cX7_bearsNow 7 = .ok (.getfield 138, 3) := by decide +kernel
theorem dX7_bearsNow_10 : decode cX7_bearsNow 10 = .ok (.ishl, 1) := by decide +kernel
theorem dX7_bearsNow_11 : decode cX7_bearsNow 11 = .ok (.if_icmp .ge 112, 3) := by decide +kernel
theorem dX7_bearsNow_14 : decode cX7_bearsNow 14 = .ok (.iconst 1, 1) := by decide +kernel
theorem dX7_bearsNow_15 : decode cX7_bearsNow 15 = .ok (.istore_n 3, 1) := by decide +kernel
theorem dX7_bearsNow_16 : decode cX7_bearsNow 16 = .ok (.iconst 0, 1) := by decide +kernel
theorem dX7_bearsNow_17 : decode cX7_bearsNow 17 = .ok (.istore 4, 2) := by decide +kernel
theorem dX7_bearsNow_19 : decode cX7_bearsNow 19 = .ok (.iload 4, 2) := by decide +kernel
theorem dX7_bearsNow_21 : decode cX7_bearsNow 21 = .ok (.aload_n 0, 1) := by decide +kernel
theorem dX7_bearsNow_22 : decode cX7_bearsNow 22 = .ok (.getfield 138, 3) := by decide +kernel
theorem dX7_bearsNow_25 : decode cX7_bearsNow 25 = .ok (.if_icmp .ge 68, 3) := by decide +kernel
theorem dX7_bearsNow_28 : decode cX7_bearsNow 28 = .ok (.aload_n 0, 1) := by decide +kernel
theorem dX7_bearsNow_29 : decode cX7_bearsNow 29 = .ok (.getfield 62, 3) := by decide +kernel
theorem dX7_bearsNow_32 : decode cX7_bearsNow 32 = .ok (.iload 4, 2) := by decide +kernel
theorem dX7_bearsNow_34 : decode cX7_bearsNow 34 = .ok (.iaload, 1) := by decide +kernel
theorem dX7_bearsNow_35 : decode cX7_bearsNow 35 = .ok (.bipush (-4), 2) := by decide +kernel
theorem dX7_bearsNow_37 : decode cX7_bearsNow 37 = .ok (.if_icmp .ne 7, 3) := by decide +kernel
theorem dX7_bearsNow_40 : decode cX7_bearsNow 40 = .ok (.iconst 0, 1) := by decide +kernel
theorem dX7_bearsNow_41 : decode cX7_bearsNow 41 = .ok (.goto 22, 3) := by decide +kernel
theorem dX7_bearsNow_44 : decode cX7_bearsNow 44 = .ok (.aload_n 0, 1) := by decide +kernel
theorem dX7_bearsNow_45 : decode cX7_bearsNow 45 = .ok (.getfield 22, 3) := by decide +kernel
theorem dX7_bearsNow_48 : decode cX7_bearsNow 48 = .ok (.aload_n 0, 1) := by decide +kernel
theorem dX7_bearsNow_49 : decode cX7_bearsNow 49 = .ok (.getfield 49, 3) := by decide +kernel
theorem dX7_bearsNow_52 : decode cX7_bearsNow 52 = .ok (.sipush 316, 3) := by decide +kernel
theorem dX7_bearsNow_55 : decode cX7_bearsNow 55 = .ok (.iaload, 1) := by decide +kernel
theorem dX7_bearsNow_56 : decode cX7_bearsNow 56 = .ok (.iload 4, 2) := by decide +kernel
theorem dX7_bearsNow_58 : decode cX7_bearsNow 58 = .ok (.iadd, 1) := by decide +kernel
theorem dX7_bearsNow_59 : decode cX7_bearsNow 59 = .ok (.bipush 7, 2) := by decide +kernel
theorem dX7_bearsNow_61 : decode cX7_bearsNow 61 = .ok (.irem, 1) := by decide +kernel
theorem dX7_bearsNow_62 : decode cX7_bearsNow 62 = .ok (.iaload, 1) := by decide +kernel
theorem dX7_bearsNow_63 : decode cX7_bearsNow 63 = .ok (.istore 5, 2) := by decide +kernel
theorem dX7_bearsNow_65 : decode cX7_bearsNow 65 = .ok (.iload_n 3, 1) := by decide +kernel
theorem dX7_bearsNow_66 : decode cX7_bearsNow 66 = .ok (.iload_n 2, 1) := by decide +kernel
theorem dX7_bearsNow_67 : decode cX7_bearsNow 67 = .ok (.iload 4, 2) := by decide +kernel
theorem dX7_bearsNow_69 : decode cX7_bearsNow 69 = .ok (.ishr, 1) := by decide +kernel
theorem dX7_bearsNow_70 : decode cX7_bearsNow 70 = .ok (.iconst 1, 1) := by decide +kernel
theorem dX7_bearsNow_71 : decode cX7_bearsNow 71 = .ok (.iand, 1) := by decide +kernel
theorem dX7_bearsNow_72 : decode cX7_bearsNow 72 = .ok (.iconst 1, 1) := by decide +kernel
theorem dX7_bearsNow_73 : decode cX7_bearsNow 73 = .ok (.if_icmp .ne 8, 3) := by decide +kernel
theorem dX7_bearsNow_76 : decode cX7_bearsNow 76 = .ok (.iload 5, 2) := by decide +kernel
theorem dX7_bearsNow_78 : decode cX7_bearsNow 78 = .ok (.goto 7, 3) := by decide +kernel
theorem dX7_bearsNow_81 : decode cX7_bearsNow 81 = .ok (.iconst 4, 1) := by decide +kernel
theorem dX7_bearsNow_82 : decode cX7_bearsNow 82 = .ok (.iload 5, 2) := by decide +kernel
theorem dX7_bearsNow_84 : decode cX7_bearsNow 84 = .ok (.isub, 1) := by decide +kernel
theorem dX7_bearsNow_85 : decode cX7_bearsNow 85 = .ok (.imul, 1) := by decide +kernel
theorem dX7_bearsNow_86 : decode cX7_bearsNow 86 = .ok (.istore_n 3, 1) := by decide +kernel
theorem dX7_bearsNow_87 : decode cX7_bearsNow 87 = .ok (.iinc 4 1, 3) := by decide +kernel
theorem dX7_bearsNow_90 : decode cX7_bearsNow 90 = .ok (.goto (-71), 3) := by decide +kernel
theorem dX7_bearsNow_93 : decode cX7_bearsNow 93 = .ok (.iload_n 1, 1) := by decide +kernel
theorem dX7_bearsNow_94 : decode cX7_bearsNow 94 = .ok (.iload_n 3, 1) := by decide +kernel
theorem dX7_bearsNow_95 : decode cX7_bearsNow 95 = .ok (.ifCond .le 19, 3) := by decide +kernel
theorem dX7_bearsNow_98 : decode cX7_bearsNow 98 = .ok (.aload_n 0, 1) := by decide +kernel
theorem dX7_bearsNow_99 : decode cX7_bearsNow 99 = .ok (.iload_n 2, 1) := by decide +kernel
theorem dX7_bearsNow_100 : decode cX7_bearsNow 100 = .ok (.invokevirtual 343, 3) := by decide +kernel
theorem dX7_bearsNow_103 : decode cX7_bearsNow 103 = .ok (.aload_n 0, 1) := by decide +kernel
theorem dX7_bearsNow_104 : decode cX7_bearsNow 104 = .ok (.getfield 138, 3) := by decide +kernel
theorem dX7_bearsNow_107 : decode cX7_bearsNow 107 = .ok (.if_icmp .ne 7, 3) := by decide +kernel
theorem dX7_bearsNow_110 : decode cX7_bearsNow 110 = .ok (.iload_n 3, 1) := by decide +kernel
theorem dX7_bearsNow_111 : decode cX7_bearsNow 111 = .ok (.goto 4, 3) := by decide +kernel
theorem dX7_bearsNow_114 : decode cX7_bearsNow 114 = .ok (.iconst 0, 1) := by decide +kernel
theorem dX7_bearsNow_115 : decode cX7_bearsNow 115 = .ok (.iadd, 1) := by decide +kernel
theorem dX7_bearsNow_116 : decode cX7_bearsNow 116 = .ok (.istore_n 1, 1) := by decide +kernel
theorem dX7_bearsNow_117 : decode cX7_bearsNow 117 = .ok (.iinc 2 1, 3) := by decide +kernel
theorem dX7_bearsNow_120 : decode cX7_bearsNow 120 = .ok (.goto (-116), 3) := by decide +kernel
theorem dX7_bearsNow_123 : decode cX7_bearsNow 123 = .ok (.iload_n 1, 1) := by decide +kernel
theorem dX7_bearsNow_124 : decode cX7_bearsNow 124 = .ok (.ireturn, 1) := by decide +kernel
theorem dX7_bears_0 : decode cX7_bears 0 = .ok (.iload_n 1, 1) := by decide +kernel
theorem dX7_bears_1 : decode cX7_bears 1 = .ok (.i2l, 1) := by decide +kernel
theorem dX7_bears_2 : decode cX7_bears 2 = .ok (.lconst 0, 1) := by decide +kernel
theorem dX7_bears_3 : decode cX7_bears 3 = .ok (.lconst 1, 1) := by decide +kernel
theorem dX7_bears_4 : decode cX7_bears 4 = .ok (.invokestatic 134, 3) := by decide +kernel
theorem dX7_bears_7 : decode cX7_bears 7 = .ok (.ifCond .eq 22, 3) := by decide +kernel
theorem dX7_bears_10 : decode cX7_bears 10 = .ok (.aload_n 0, 1) := by decide +kernel
theorem dX7_bears_11 : decode cX7_bears 11 = .ok (.invokevirtual 352, 3) := by decide +kernel
theorem dX7_bears_14 : decode cX7_bears 14 = .ok (.iconst 1, 1) := by decide +kernel
theorem dX7_bears_15 : decode cX7_bears 15 = .ok (.iconst 2, 1) := by decide +kernel
theorem dX7_bears_16 : decode cX7_bears 16 = .ok (.aload_n 0, 1) := by decide +kernel
theorem dX7_bears_17 : decode cX7_bears 17 = .ok (.getfield 138, 3) := by decide +kernel
theorem dX7_bears_20 : decode cX7_bears 20 = .ok (.imul, 1) := by decide +kernel
theorem dX7_bears_21 : decode cX7_bears 21 = .ok (.ishl, 1) := by decide +kernel
theorem dX7_bears_22 : decode cX7_bears 22 = .ok (.iload_n 1, 1) := by decide +kernel
theorem dX7_bears_23 : decode cX7_bears 23 = .ok (.invokestatic 355, 3) := by decide +kernel
theorem dX7_bears_26 : decode cX7_bears 26 = .ok (.goto 4, 3) := by decide +kernel
theorem dX7_bears_29 : decode cX7_bears 29 = .ok (.iconst (-1), 1) := by decide +kernel
theorem dX7_bears_30 : decode cX7_bears 30 = .ok (.ireturn, 1) := by decide +kernel
theorem dX7_picks_0 : decode cX7_picks 0 = .ok (.bipush 40, 2) := by decide +kernel
theorem dX7_picks_2 : decode cX7_picks 2 = .ok (.iload_n 1, 1) := by decide +kernel
theorem dX7_picks_3 : decode cX7_picks 3 = .ok (.imul, 1) := by decide +kernel
theorem dX7_picks_4 : decode cX7_picks 4 = .ok (.istore_n 2, 1) := by decide +kernel
theorem dX7_picks_5 : decode cX7_picks 5 = .ok (.aload_n 0, 1) := by decide +kernel
theorem dX7_picks_6 : decode cX7_picks 6 = .ok (.getfield 127, 3) := by decide +kernel
theorem dX7_picks_9 : decode cX7_picks 9 = .ok (.aload_n 0, 1) := by decide +kernel
theorem dX7_picks_10 : decode cX7_picks 10 = .ok (.iload_n 2, 1) := by decide +kernel
theorem dX7_picks_11 : decode cX7_picks 11 = .ok (.invokevirtual 290, 3) := by decide +kernel
theorem dX7_picks_14 : decode cX7_picks 14 = .ok (.ishr, 1) := by decide +kernel
theorem dX7_picks_15 : decode cX7_picks 15 = .ok (.iconst 1, 1) := by decide +kernel
theorem dX7_picks_16 : decode cX7_picks 16 = .ok (.iand, 1) := by decide +kernel
theorem dX7_picks_17 : decode cX7_picks 17 = .ok (.iconst 1, 1) := by decide +kernel
theorem dX7_picks_18 : decode cX7_picks 18 = .ok (.if_icmp .ne 7, 3) := by decide +kernel
theorem dX7_picks_21 : decode cX7_picks 21 = .ok (.iconst 1, 1) := by decide +kernel
theorem dX7_picks_22 : decode cX7_picks 22 = .ok (.goto 4, 3) := by decide +kernel
theorem dX7_picks_25 : decode cX7_picks 25 = .ok (.iconst 0, 1) := by decide +kernel
theorem dX7_picks_26 : decode cX7_picks 26 = .ok (.istore_n 3, 1) := by decide +kernel
theorem dX7_picks_27 : decode cX7_picks 27 = .ok (.iload_n 3, 1) := by decide +kernel
theorem dX7_picks_28 : decode cX7_picks 28 = .ok (.ifCond .eq 54, 3) := by decide +kernel
theorem dX7_picks_31 : decode cX7_picks 31 = .ok (.aload_n 0, 1) := by decide +kernel
theorem dX7_picks_32 : decode cX7_picks 32 = .ok (.getfield 65, 3) := by decide +kernel
theorem dX7_picks_35 : decode cX7_picks 35 = .ok (.iload_n 1, 1) := by decide +kernel
theorem dX7_picks_36 : decode cX7_picks 36 = .ok (.iaload, 1) := by decide +kernel
theorem dX7_picks_37 : decode cX7_picks 37 = .ok (.iconst (-1), 1) := by decide +kernel
theorem dX7_picks_38 : decode cX7_picks 38 = .ok (.if_icmp .ne 7, 3) := by decide +kernel
theorem dX7_picks_41 : decode cX7_picks 41 = .ok (.iconst 1, 1) := by decide +kernel
theorem dX7_picks_42 : decode cX7_picks 42 = .ok (.goto 4, 3) := by decide +kernel
theorem dX7_picks_45 : decode cX7_picks 45 = .ok (.iconst 0, 1) := by decide +kernel
theorem dX7_picks_46 : decode cX7_picks 46 = .ok (.istore 4, 2) := by decide +kernel
theorem dX7_picks_48 : decode cX7_picks 48 = .ok (.aload_n 0, 1) := by decide +kernel
theorem dX7_picks_49 : decode cX7_picks 49 = .ok (.getfield 65, 3) := by decide +kernel
theorem dX7_picks_52 : decode cX7_picks 52 = .ok (.iload_n 1, 1) := by decide +kernel
theorem dX7_picks_53 : decode cX7_picks 53 = .ok (.bipush (-4), 2) := by decide +kernel
theorem dX7_picks_55 : decode cX7_picks 55 = .ok (.iastore, 1) := by decide +kernel
theorem dX7_picks_56 : decode cX7_picks 56 = .ok (.iload 4, 2) := by decide +kernel
theorem dX7_picks_58 : decode cX7_picks 58 = .ok (.ifCond .eq 21, 3) := by decide +kernel
theorem dX7_picks_61 : decode cX7_picks 61 = .ok (.aload_n 0, 1) := by decide +kernel
theorem dX7_picks_62 : decode cX7_picks 62 = .ok (.iload_n 2, 1) := by decide +kernel
theorem dX7_picks_63 : decode cX7_picks 63 = .ok (.bipush 40, 2) := by decide +kernel
theorem dX7_picks_65 : decode cX7_picks 65 = .ok (.iadd, 1) := by decide +kernel
theorem dX7_picks_66 : decode cX7_picks 66 = .ok (.iload_n 2, 1) := by decide +kernel
theorem dX7_picks_67 : decode cX7_picks 67 = .ok (.invokevirtual 326, 3) := by decide +kernel
theorem dX7_picks_70 : decode cX7_picks 70 = .ok (.aload_n 0, 1) := by decide +kernel
theorem dX7_picks_71 : decode cX7_picks 71 = .ok (.iload_n 2, 1) := by decide +kernel
theorem dX7_picks_72 : decode cX7_picks 72 = .ok (.bipush 40, 2) := by decide +kernel
theorem dX7_picks_74 : decode cX7_picks 74 = .ok (.iadd, 1) := by decide +kernel
theorem dX7_picks_75 : decode cX7_picks 75 = .ok (.invokevirtual 323, 3) := by decide +kernel
theorem dX7_picks_78 : decode cX7_picks 78 = .ok (.pop, 1) := by decide +kernel
theorem dX7_picks_79 : decode cX7_picks 79 = .ok (.iload 4, 2) := by decide +kernel
theorem dX7_picks_81 : decode cX7_picks 81 = .ok (.ireturn, 1) := by decide +kernel
theorem dX7_picks_82 : decode cX7_picks 82 = .ok (.aload_n 0, 1) := by decide +kernel
theorem dX7_picks_83 : decode cX7_picks 83 = .ok (.getfield 65, 3) := by decide +kernel
theorem dX7_picks_86 : decode cX7_picks 86 = .ok (.iload_n 1, 1) := by decide +kernel
theorem dX7_picks_87 : decode cX7_picks 87 = .ok (.dup2, 1) := by decide +kernel
theorem dX7_picks_88 : decode cX7_picks 88 = .ok (.iaload, 1) := by decide +kernel
theorem dX7_picks_89 : decode cX7_picks 89 = .ok (.iconst 1, 1) := by decide +kernel
theorem dX7_picks_90 : decode cX7_picks 90 = .ok (.iadd, 1) := by decide +kernel
theorem dX7_picks_91 : decode cX7_picks 91 = .ok (.iastore, 1) := by decide +kernel
theorem dX7_picks_92 : decode cX7_picks 92 = .ok (.aload_n 0, 1) := by decide +kernel
theorem dX7_picks_93 : decode cX7_picks 93 = .ok (.getfield 65, 3) := by decide +kernel
theorem dX7_picks_96 : decode cX7_picks 96 = .ok (.iload_n 1, 1) := by decide +kernel
theorem dX7_picks_97 : decode cX7_picks 97 = .ok (.iaload, 1) := by decide +kernel
theorem dX7_picks_98 : decode cX7_picks 98 = .ok (.aload_n 0, 1) := by decide +kernel
theorem dX7_picks_99 : decode cX7_picks 99 = .ok (.getfield 118, 3) := by decide +kernel
theorem dX7_picks_102 : decode cX7_picks 102 = .ok (.if_icmp .ge 31, 3) := by decide +kernel
theorem dX7_picks_105 : decode cX7_picks 105 = .ok (.aload_n 0, 1) := by decide +kernel
theorem dX7_picks_106 : decode cX7_picks 106 = .ok (.iload_n 2, 1) := by decide +kernel
theorem dX7_picks_107 : decode cX7_picks 107 = .ok (.aload_n 0, 1) := by decide +kernel
theorem dX7_picks_108 : decode cX7_picks 108 = .ok (.getfield 65, 3) := by decide +kernel
theorem dX7_picks_111 : decode cX7_picks 111 = .ok (.iload_n 1, 1) := by decide +kernel
theorem dX7_picks_112 : decode cX7_picks 112 = .ok (.iaload, 1) := by decide +kernel
theorem dX7_picks_113 : decode cX7_picks 113 = .ok (.iconst 0, 1) := by decide +kernel
theorem dX7_picks_114 : decode cX7_picks 114 = .ok (.invokevirtual 316, 3) := by decide +kernel
theorem dX7_picks_117 : decode cX7_picks 117 = .ok (.ifCond .le 16, 3) := by decide +kernel
theorem dX7_picks_120 : decode cX7_picks 120 = .ok (.aload_n 0, 1) := by decide +kernel
theorem dX7_picks_121 : decode cX7_picks 121 = .ok (.getfield 65, 3) := by decide +kernel
theorem dX7_picks_124 : decode cX7_picks 124 = .ok (.iload_n 1, 1) := by decide +kernel
theorem dX7_picks_125 : decode cX7_picks 125 = .ok (.dup2, 1) := by decide +kernel
theorem dX7_picks_126 : decode cX7_picks 126 = .ok (.iaload, 1) := by decide +kernel
theorem dX7_picks_127 : decode cX7_picks 127 = .ok (.iconst 1, 1) := by decide +kernel
theorem dX7_picks_128 : decode cX7_picks 128 = .ok (.iadd, 1) := by decide +kernel
theorem dX7_picks_129 : decode cX7_picks 129 = .ok (.iastore, 1) := by decide +kernel
theorem dX7_picks_130 : decode cX7_picks 130 = .ok (.goto (-38), 3) := by decide +kernel
theorem dX7_picks_133 : decode cX7_picks 133 = .ok (.aload_n 0, 1) := by decide +kernel
theorem dX7_picks_134 : decode cX7_picks 134 = .ok (.getfield 65, 3) := by decide +kernel
theorem dX7_picks_137 : decode cX7_picks 137 = .ok (.iload_n 1, 1) := by decide +kernel
theorem dX7_picks_138 : decode cX7_picks 138 = .ok (.iaload, 1) := by decide +kernel
theorem dX7_picks_139 : decode cX7_picks 139 = .ok (.aload_n 0, 1) := by decide +kernel
theorem dX7_picks_140 : decode cX7_picks 140 = .ok (.getfield 118, 3) := by decide +kernel
theorem dX7_picks_143 : decode cX7_picks 143 = .ok (.if_icmp .ge 37, 3) := by decide +kernel
theorem dX7_picks_146 : decode cX7_picks 146 = .ok (.aload_n 0, 1) := by decide +kernel
theorem dX7_picks_147 : decode cX7_picks 147 = .ok (.iload_n 2, 1) := by decide +kernel
theorem dX7_picks_148 : decode cX7_picks 148 = .ok (.bipush 40, 2) := by decide +kernel
theorem dX7_picks_150 : decode cX7_picks 150 = .ok (.iadd, 1) := by decide +kernel
theorem dX7_picks_151 : decode cX7_picks 151 = .ok (.iload_n 2, 1) := by decide +kernel
theorem dX7_picks_152 : decode cX7_picks 152 = .ok (.invokevirtual 326, 3) := by decide +kernel
theorem dX7_picks_155 : decode cX7_picks 155 = .ok (.aload_n 0, 1) := by decide +kernel
theorem dX7_picks_156 : decode cX7_picks 156 = .ok (.iload_n 2, 1) := by decide +kernel
theorem dX7_picks_157 : decode cX7_picks 157 = .ok (.bipush 40, 2) := by decide +kernel
theorem dX7_picks_159 : decode cX7_picks 159 = .ok (.iadd, 1) := by decide +kernel
theorem dX7_picks_160 : decode cX7_picks 160 = .ok (.aload_n 0, 1) := by decide +kernel
theorem dX7_picks_161 : decode cX7_picks 161 = .ok (.getfield 65, 3) := by decide +kernel
theorem dX7_picks_164 : decode cX7_picks 164 = .ok (.iload_n 1, 1) := by decide +kernel
theorem dX7_picks_165 : decode cX7_picks 165 = .ok (.iaload, 1) := by decide +kernel
theorem dX7_picks_166 : decode cX7_picks 166 = .ok (.iconst 0, 1) := by decide +kernel
theorem dX7_picks_167 : decode cX7_picks 167 = .ok (.invokevirtual 320, 3) := by decide +kernel
theorem dX7_picks_170 : decode cX7_picks 170 = .ok (.pop, 1) := by decide +kernel
theorem dX7_picks_171 : decode cX7_picks 171 = .ok (.aload_n 0, 1) := by decide +kernel
theorem dX7_picks_172 : decode cX7_picks 172 = .ok (.iload_n 2, 1) := by decide +kernel
theorem dX7_picks_173 : decode cX7_picks 173 = .ok (.bipush 40, 2) := by decide +kernel
theorem dX7_picks_175 : decode cX7_picks 175 = .ok (.iadd, 1) := by decide +kernel
theorem dX7_picks_176 : decode cX7_picks 176 = .ok (.invokevirtual 323, 3) := by decide +kernel
theorem dX7_picks_179 : decode cX7_picks 179 = .ok (.pop, 1) := by decide +kernel
theorem dX7_picks_180 : decode cX7_picks 180 = .ok (.aload_n 0, 1) := by decide +kernel
theorem dX7_picks_181 : decode cX7_picks 181 = .ok (.getfield 65, 3) := by decide +kernel
theorem dX7_picks_184 : decode cX7_picks 184 = .ok (.iload_n 1, 1) := by decide +kernel
theorem dX7_picks_185 : decode cX7_picks 185 = .ok (.iaload, 1) := by decide +kernel
theorem dX7_picks_186 : decode cX7_picks 186 = .ok (.aload_n 0, 1) := by decide +kernel
theorem dX7_picks_187 : decode cX7_picks 187 = .ok (.getfield 118, 3) := by decide +kernel
theorem dX7_picks_190 : decode cX7_picks 190 = .ok (.if_icmp .ge 7, 3) := by decide +kernel
theorem dX7_picks_193 : decode cX7_picks 193 = .ok (.iconst 1, 1) := by decide +kernel
theorem dX7_picks_194 : decode cX7_picks 194 = .ok (.goto 4, 3) := by decide +kernel
theorem dX7_picks_197 : decode cX7_picks 197 = .ok (.iconst 0, 1) := by decide +kernel
theorem dX7_picks_198 : decode cX7_picks 198 = .ok (.ireturn, 1) := by decide +kernel
theorem dX7_beginRows_0 : decode cX7_beginRows 0 = .ok (.aload_n 0, 1) := by decide +kernel
theorem dX7_beginRows_1 : decode cX7_beginRows 1 = .ok (.iconst 0, 1) := by decide +kernel
theorem dX7_beginRows_2 : decode cX7_beginRows 2 = .ok (.invokevirtual 329, 3) := by decide +kernel
theorem dX7_beginRows_5 : decode cX7_beginRows 5 = .ok (.aload_n 0, 1) := by decide +kernel
theorem dX7_beginRows_6 : decode cX7_beginRows 6 = .ok (.iconst 0, 1) := by decide +kernel
theorem dX7_beginRows_7 : decode cX7_beginRows 7 = .ok (.putfield 359, 3) := by decide +kernel
theorem dX7_beginRows_10 : decode cX7_beginRows 10 = .ok (.aload_n 0, 1) := by decide +kernel
theorem dX7_beginRows_11 : decode cX7_beginRows 11 = .ok (.getfield 65, 3) := by decide +kernel
theorem dX7_beginRows_14 : decode cX7_beginRows 14 = .ok (.iconst 0, 1) := by decide +kernel
theorem dX7_beginRows_15 : decode cX7_beginRows 15 = .ok (.iconst (-1), 1) := by decide +kernel
theorem dX7_beginRows_16 : decode cX7_beginRows 16 = .ok (.iastore, 1) := by decide +kernel
theorem dX7_beginRows_17 : decode cX7_beginRows 17 = .ok (.return_, 1) := by decide +kernel
theorem dX7_nextRow_0 : decode cX7_nextRow 0 = .ok (.aload_n 0, 1) := by decide +kernel
theorem dX7_nextRow_1 : decode cX7_nextRow 1 = .ok (.getfield 359, 3) := by decide +kernel
theorem dX7_nextRow_4 : decode cX7_nextRow 4 = .ok (.iload_n 1, 1) := by decide +kernel
theorem dX7_nextRow_5 : decode cX7_nextRow 5 = .ok (.if_icmp .ne 13, 3) := by decide +kernel
theorem dX7_nextRow_8 : decode cX7_nextRow 8 = .ok (.aload_n 0, 1) := by decide +kernel
theorem dX7_nextRow_9 : decode cX7_nextRow 9 = .ok (.dup, 1) := by decide +kernel
theorem dX7_nextRow_10 : decode cX7_nextRow 10 = .ok (.getfield 359, 3) := by decide +kernel
theorem dX7_nextRow_13 : decode cX7_nextRow 13 = .ok (.iconst 1, 1) := by decide +kernel
theorem dX7_nextRow_14 : decode cX7_nextRow 14 = .ok (.isub, 1) := by decide +kernel
theorem dX7_nextRow_15 : decode cX7_nextRow 15 = .ok (.putfield 359, 3) := by decide +kernel
theorem dX7_nextRow_18 : decode cX7_nextRow 18 = .ok (.aload_n 0, 1) := by decide +kernel
theorem dX7_nextRow_19 : decode cX7_nextRow 19 = .ok (.getfield 359, 3) := by decide +kernel
theorem dX7_nextRow_22 : decode cX7_nextRow 22 = .ok (.ifCond .lt 66, 3) := by decide +kernel
theorem dX7_nextRow_25 : decode cX7_nextRow 25 = .ok (.aload_n 0, 1) := by decide +kernel
theorem dX7_nextRow_26 : decode cX7_nextRow 26 = .ok (.getfield 359, 3) := by decide +kernel
theorem dX7_nextRow_29 : decode cX7_nextRow 29 = .ok (.iload_n 1, 1) := by decide +kernel
theorem dX7_nextRow_30 : decode cX7_nextRow 30 = .ok (.if_icmp .ge 58, 3) := by decide +kernel
theorem dX7_nextRow_33 : decode cX7_nextRow 33 = .ok (.aload_n 0, 1) := by decide +kernel
theorem dX7_nextRow_34 : decode cX7_nextRow 34 = .ok (.aload_n 0, 1) := by decide +kernel
theorem dX7_nextRow_35 : decode cX7_nextRow 35 = .ok (.getfield 359, 3) := by decide +kernel
theorem dX7_nextRow_38 : decode cX7_nextRow 38 = .ok (.invokevirtual 362, 3) := by decide +kernel
theorem dX7_nextRow_41 : decode cX7_nextRow 41 = .ok (.ifCond .eq 34, 3) := by decide +kernel
theorem dX7_nextRow_44 : decode cX7_nextRow 44 = .ok (.aload_n 0, 1) := by decide +kernel
theorem dX7_nextRow_45 : decode cX7_nextRow 45 = .ok (.dup, 1) := by decide +kernel
theorem dX7_nextRow_46 : decode cX7_nextRow 46 = .ok (.getfield 359, 3) := by decide +kernel
theorem dX7_nextRow_49 : decode cX7_nextRow 49 = .ok (.iconst 1, 1) := by decide +kernel
theorem dX7_nextRow_50 : decode cX7_nextRow 50 = .ok (.iadd, 1) := by decide +kernel
theorem dX7_nextRow_51 : decode cX7_nextRow 51 = .ok (.putfield 359, 3) := by decide +kernel
theorem dX7_nextRow_54 : decode cX7_nextRow 54 = .ok (.aload_n 0, 1) := by decide +kernel
theorem dX7_nextRow_55 : decode cX7_nextRow 55 = .ok (.getfield 359, 3) := by decide +kernel
theorem dX7_nextRow_58 : decode cX7_nextRow 58 = .ok (.iload_n 1, 1) := by decide +kernel
theorem dX7_nextRow_59 : decode cX7_nextRow 59 = .ok (.if_icmp .ge (-41), 3) := by decide +kernel
theorem dX7_nextRow_62 : decode cX7_nextRow 62 = .ok (.aload_n 0, 1) := by decide +kernel
theorem dX7_nextRow_63 : decode cX7_nextRow 63 = .ok (.getfield 65, 3) := by decide +kernel
theorem dX7_nextRow_66 : decode cX7_nextRow 66 = .ok (.aload_n 0, 1) := by decide +kernel
theorem dX7_nextRow_67 : decode cX7_nextRow 67 = .ok (.getfield 359, 3) := by decide +kernel
theorem dX7_nextRow_70 : decode cX7_nextRow 70 = .ok (.iconst (-1), 1) := by decide +kernel
theorem dX7_nextRow_71 : decode cX7_nextRow 71 = .ok (.iastore, 1) := by decide +kernel
theorem dX7_nextRow_72 : decode cX7_nextRow 72 = .ok (.goto (-54), 3) := by decide +kernel
theorem dX7_nextRow_75 : decode cX7_nextRow 75 = .ok (.aload_n 0, 1) := by decide +kernel
theorem dX7_nextRow_76 : decode cX7_nextRow 76 = .ok (.dup, 1) := by decide +kernel
theorem dX7_nextRow_77 : decode cX7_nextRow 77 = .ok (.getfield 359, 3) := by decide +kernel
theorem dX7_nextRow_80 : decode cX7_nextRow 80 = .ok (.iconst 1, 1) := by decide +kernel
theorem dX7_nextRow_81 : decode cX7_nextRow 81 = .ok (.isub, 1) := by decide +kernel
theorem dX7_nextRow_82 : decode cX7_nextRow 82 = .ok (.putfield 359, 3) := by decide +kernel
theorem dX7_nextRow_85 : decode cX7_nextRow 85 = .ok (.goto (-67), 3) := by decide +kernel
theorem dX7_nextRow_88 : decode cX7_nextRow 88 = .ok (.aload_n 0, 1) := by decide +kernel
theorem dX7_nextRow_89 : decode cX7_nextRow 89 = .ok (.getfield 359, 3) := by decide +kernel
theorem dX7_nextRow_92 : decode cX7_nextRow 92 = .ok (.iload_n 1, 1) := by decide +kernel
theorem dX7_nextRow_93 : decode cX7_nextRow 93 = .ok (.if_icmp .ne 7, 3) := by decide +kernel
theorem dX7_nextRow_96 : decode cX7_nextRow 96 = .ok (.iconst 1, 1) := by decide +kernel
theorem dX7_nextRow_97 : decode cX7_nextRow 97 = .ok (.goto 4, 3) := by decide +kernel
theorem dX7_nextRow_100 : decode cX7_nextRow 100 = .ok (.iconst 0, 1) := by decide +kernel
theorem dX7_nextRow_101 : decode cX7_nextRow 101 = .ok (.ireturn, 1) := by decide +kernel
theorem dX7_areDays_0 : decode cX7_areDays 0 = .ok (.iload_n 0, 1) := by decide +kernel
theorem dX7_areDays_1 : decode cX7_areDays 1 = .ok (.i2l, 1) := by decide +kernel
theorem dX7_areDays_2 : decode cX7_areDays 2 = .ok (.lconst 1, 1) := by decide +kernel
theorem dX7_areDays_3 : decode cX7_areDays 3 = .ok (.iload_n 1, 1) := by decide +kernel
theorem dX7_areDays_4 : decode cX7_areDays 4 = .ok (.i2l, 1) := by decide +kernel
theorem dX7_areDays_5 : decode cX7_areDays 5 = .ok (.invokestatic 134, 3) := by decide +kernel
theorem dX7_areDays_8 : decode cX7_areDays 8 = .ok (.ireturn, 1) := by decide +kernel
theorem dX7_compares_0 : decode cX7_compares 0 = .ok (.aload_n 0, 1) := by decide +kernel
theorem dX7_compares_1 : decode cX7_compares 1 = .ok (.getfield 49, 3) := by decide +kernel
theorem dX7_compares_4 : decode cX7_compares 4 = .ok (.iload_n 1, 1) := by decide +kernel
theorem dX7_compares_5 : decode cX7_compares 5 = .ok (.bipush 34, 2) := by decide +kernel
theorem dX7_compares_7 : decode cX7_compares 7 = .ok (.iadd, 1) := by decide +kernel
theorem dX7_compares_8 : decode cX7_compares 8 = .ok (.iaload, 1) := by decide +kernel
theorem dX7_compares_9 : decode cX7_compares 9 = .ok (.aload_n 0, 1) := by decide +kernel
theorem dX7_compares_10 : decode cX7_compares 10 = .ok (.getfield 365, 3) := by decide +kernel
theorem dX7_compares_13 : decode cX7_compares 13 = .ok (.if_icmp .eq 20, 3) := by decide +kernel
theorem dX7_compares_16 : decode cX7_compares 16 = .ok (.aload_n 0, 1) := by decide +kernel
theorem dX7_compares_17 : decode cX7_compares 17 = .ok (.getfield 49, 3) := by decide +kernel
theorem dX7_compares_20 : decode cX7_compares 20 = .ok (.iload_n 1, 1) := by decide +kernel
theorem dX7_compares_21 : decode cX7_compares 21 = .ok (.bipush 34, 2) := by decide +kernel
theorem dX7_compares_23 : decode cX7_compares 23 = .ok (.iadd, 1) := by decide +kernel
theorem dX7_compares_24 : decode cX7_compares 24 = .ok (.iaload, 1) := by decide +kernel
theorem dX7_compares_25 : decode cX7_compares 25 = .ok (.aload_n 0, 1) := by decide +kernel
theorem dX7_compares_26 : decode cX7_compares 26 = .ok (.getfield 365, 3) := by decide +kernel
theorem dX7_compares_29 : decode cX7_compares 29 = .ok (.isub, 1) := by decide +kernel
theorem dX7_compares_30 : decode cX7_compares 30 = .ok (.goto 50, 3) := by decide +kernel
theorem dX7_compares_33 : decode cX7_compares 33 = .ok (.aload_n 0, 1) := by decide +kernel
theorem dX7_compares_34 : decode cX7_compares 34 = .ok (.getfield 49, 3) := by decide +kernel
theorem dX7_compares_37 : decode cX7_compares 37 = .ok (.iload_n 1, 1) := by decide +kernel
theorem dX7_compares_38 : decode cX7_compares 38 = .ok (.bipush 33, 2) := by decide +kernel
theorem dX7_compares_40 : decode cX7_compares 40 = .ok (.iadd, 1) := by decide +kernel
theorem dX7_compares_41 : decode cX7_compares 41 = .ok (.iaload, 1) := by decide +kernel
theorem dX7_compares_42 : decode cX7_compares 42 = .ok (.aload_n 0, 1) := by decide +kernel
theorem dX7_compares_43 : decode cX7_compares 43 = .ok (.getfield 368, 3) := by decide +kernel
theorem dX7_compares_46 : decode cX7_compares 46 = .ok (.if_icmp .eq 20, 3) := by decide +kernel
theorem dX7_compares_49 : decode cX7_compares 49 = .ok (.aload_n 0, 1) := by decide +kernel
theorem dX7_compares_50 : decode cX7_compares 50 = .ok (.getfield 49, 3) := by decide +kernel
theorem dX7_compares_53 : decode cX7_compares 53 = .ok (.iload_n 1, 1) := by decide +kernel
theorem dX7_compares_54 : decode cX7_compares 54 = .ok (.bipush 33, 2) := by decide +kernel
theorem dX7_compares_56 : decode cX7_compares 56 = .ok (.iadd, 1) := by decide +kernel
theorem dX7_compares_57 : decode cX7_compares 57 = .ok (.iaload, 1) := by decide +kernel
theorem dX7_compares_58 : decode cX7_compares 58 = .ok (.aload_n 0, 1) := by decide +kernel
theorem dX7_compares_59 : decode cX7_compares 59 = .ok (.getfield 368, 3) := by decide +kernel
theorem dX7_compares_62 : decode cX7_compares 62 = .ok (.isub, 1) := by decide +kernel
theorem dX7_compares_63 : decode cX7_compares 63 = .ok (.goto 17, 3) := by decide +kernel
theorem dX7_compares_66 : decode cX7_compares 66 = .ok (.aload_n 0, 1) := by decide +kernel
theorem dX7_compares_67 : decode cX7_compares 67 = .ok (.getfield 371, 3) := by decide +kernel
theorem dX7_compares_70 : decode cX7_compares 70 = .ok (.aload_n 0, 1) := by decide +kernel
theorem dX7_compares_71 : decode cX7_compares 71 = .ok (.getfield 49, 3) := by decide +kernel
theorem dX7_compares_74 : decode cX7_compares 74 = .ok (.iload_n 1, 1) := by decide +kernel
theorem dX7_compares_75 : decode cX7_compares 75 = .ok (.bipush 35, 2) := by decide +kernel
theorem dX7_compares_77 : decode cX7_compares 77 = .ok (.iadd, 1) := by decide +kernel
theorem dX7_compares_78 : decode cX7_compares 78 = .ok (.iaload, 1) := by decide +kernel
theorem dX7_compares_79 : decode cX7_compares 79 = .ok (.isub, 1) := by decide +kernel
theorem dX7_compares_80 : decode cX7_compares 80 = .ok (.ireturn, 1) := by decide +kernel
theorem dX7_leastFed_0 : decode cX7_leastFed 0 = .ok (.iload_n 1, 1) := by decide +kernel
theorem dX7_leastFed_1 : decode cX7_leastFed 1 = .ok (.istore_n 2, 1) := by decide +kernel
theorem dX7_leastFed_2 : decode cX7_leastFed 2 = .ok (.iconst 0, 1) := by decide +kernel
theorem dX7_leastFed_3 : decode cX7_leastFed 3 = .ok (.istore_n 3, 1) := by decide +kernel
theorem dX7_leastFed_4 : decode cX7_leastFed 4 = .ok (.iload_n 3, 1) := by decide +kernel
theorem dX7_leastFed_5 : decode cX7_leastFed 5 = .ok (.iconst 4, 1) := by decide +kernel
theorem dX7_leastFed_6 : decode cX7_leastFed 6 = .ok (.if_icmp .ge 30, 3) := by decide +kernel
theorem dX7_leastFed_9 : decode cX7_leastFed 9 = .ok (.aload_n 0, 1) := by decide +kernel
theorem dX7_leastFed_10 : decode cX7_leastFed 10 = .ok (.iload_n 3, 1) := by decide +kernel
theorem dX7_leastFed_11 : decode cX7_leastFed 11 = .ok (.iload_n 1, 1) := by decide +kernel
theorem dX7_leastFed_12 : decode cX7_leastFed 12 = .ok (.invokevirtual 349, 3) := by decide +kernel
theorem dX7_leastFed_15 : decode cX7_leastFed 15 = .ok (.iload_n 2, 1) := by decide +kernel
theorem dX7_leastFed_16 : decode cX7_leastFed 16 = .ok (.if_icmp .ge 12, 3) := by decide +kernel
theorem dX7_leastFed_19 : decode cX7_leastFed 19 = .ok (.aload_n 0, 1) := by decide +kernel
theorem dX7_leastFed_20 : decode cX7_leastFed 20 = .ok (.iload_n 3, 1) := by decide +kernel
theorem dX7_leastFed_21 : decode cX7_leastFed 21 = .ok (.iload_n 1, 1) := by decide +kernel
theorem dX7_leastFed_22 : decode cX7_leastFed 22 = .ok (.invokevirtual 349, 3) := by decide +kernel
theorem dX7_leastFed_25 : decode cX7_leastFed 25 = .ok (.goto 4, 3) := by decide +kernel
theorem dX7_leastFed_28 : decode cX7_leastFed 28 = .ok (.iload_n 2, 1) := by decide +kernel
theorem dX7_leastFed_29 : decode cX7_leastFed 29 = .ok (.istore_n 2, 1) := by decide +kernel
theorem dX7_leastFed_30 : decode cX7_leastFed 30 = .ok (.iinc 3 1, 3) := by decide +kernel
theorem dX7_leastFed_33 : decode cX7_leastFed 33 = .ok (.goto (-29), 3) := by decide +kernel
theorem dX7_leastFed_36 : decode cX7_leastFed 36 = .ok (.iload_n 2, 1) := by decide +kernel
theorem dX7_leastFed_37 : decode cX7_leastFed 37 = .ok (.ireturn, 1) := by decide +kernel
theorem dX7_findBest_0 : decode cX7_findBest 0 = .ok (.bipush 40, 2) := by decide +kernel
theorem dX7_findBest_2 : decode cX7_findBest 2 = .ok (.iload_n 1, 1) := by decide +kernel
theorem dX7_findBest_3 : decode cX7_findBest 3 = .ok (.imul, 1) := by decide +kernel
theorem dX7_findBest_4 : decode cX7_findBest 4 = .ok (.istore_n 3, 1) := by decide +kernel
theorem dX7_findBest_5 : decode cX7_findBest 5 = .ok (.aload_n 0, 1) := by decide +kernel
theorem dX7_findBest_6 : decode cX7_findBest 6 = .ok (.iconst 0, 1) := by decide +kernel
theorem dX7_findBest_7 : decode cX7_findBest 7 = .ok (.putfield 374, 3) := by decide +kernel
theorem dX7_findBest_10 : decode cX7_findBest 10 = .ok (.aload_n 0, 1) := by decide +kernel
theorem dX7_findBest_11 : decode cX7_findBest 11 = .ok (.iconst 0, 1) := by decide +kernel
theorem dX7_findBest_12 : decode cX7_findBest 12 = .ok (.putfield 377, 3) := by decide +kernel
theorem dX7_findBest_15 : decode cX7_findBest 15 = .ok (.aload_n 0, 1) := by decide +kernel
theorem dX7_findBest_16 : decode cX7_findBest 16 = .ok (.invokevirtual 380, 3) := by decide +kernel
theorem dX7_findBest_19 : decode cX7_findBest 19 = .ok (.aload_n 0, 1) := by decide +kernel
theorem dX7_findBest_20 : decode cX7_findBest 20 = .ok (.iload_n 1, 1) := by decide +kernel
theorem dX7_findBest_21 : decode cX7_findBest 21 = .ok (.invokevirtual 383, 3) := by decide +kernel
theorem dX7_findBest_24 : decode cX7_findBest 24 = .ok (.ifCond .eq 181, 3) := by decide +kernel
theorem dX7_findBest_27 : decode cX7_findBest 27 = .ok (.iload_n 2, 1) := by decide +kernel
theorem dX7_findBest_28 : decode cX7_findBest 28 = .ok (.ifCond .eq 11, 3) := by decide +kernel
theorem dX7_findBest_31 : decode cX7_findBest 31 = .ok (.aload_n 0, 1) := by decide +kernel
theorem dX7_findBest_32 : decode cX7_findBest 32 = .ok (.iload_n 1, 1) := by decide +kernel
theorem dX7_findBest_33 : decode cX7_findBest 33 = .ok (.invokevirtual 386, 3) := by decide +kernel
theorem dX7_findBest_36 : decode cX7_findBest 36 = .ok (.goto 4, 3) := by decide +kernel
theorem dX7_findBest_39 : decode cX7_findBest 39 = .ok (.iconst 0, 1) := by decide +kernel
theorem dX7_findBest_40 : decode cX7_findBest 40 = .ok (.istore 4, 2) := by decide +kernel
theorem dX7_findBest_42 : decode cX7_findBest 42 = .ok (.aload_n 0, 1) := by decide +kernel
theorem dX7_findBest_43 : decode cX7_findBest 43 = .ok (.getfield 374, 3) := by decide +kernel
theorem dX7_findBest_46 : decode cX7_findBest 46 = .ok (.ifCond .eq 12, 3) := by decide +kernel
theorem dX7_findBest_49 : decode cX7_findBest 49 = .ok (.iload 4, 2) := by decide +kernel
theorem dX7_findBest_51 : decode cX7_findBest 51 = .ok (.aload_n 0, 1) := by decide +kernel
theorem dX7_findBest_52 : decode cX7_findBest 52 = .ok (.getfield 389, 3) := by decide +kernel
theorem dX7_findBest_55 : decode cX7_findBest 55 = .ok (.if_icmp .le 7, 3) := by decide +kernel
theorem dX7_findBest_58 : decode cX7_findBest 58 = .ok (.iconst (-1), 1) := by decide +kernel
theorem dX7_findBest_59 : decode cX7_findBest 59 = .ok (.goto 21, 3) := by decide +kernel
theorem dX7_findBest_62 : decode cX7_findBest 62 = .ok (.iload 4, 2) := by decide +kernel
theorem dX7_findBest_64 : decode cX7_findBest 64 = .ok (.aload_n 0, 1) := by decide +kernel
theorem dX7_findBest_65 : decode cX7_findBest 65 = .ok (.getfield 389, 3) := by decide +kernel
theorem dX7_findBest_68 : decode cX7_findBest 68 = .ok (.if_icmp .ge 7, 3) := by decide +kernel
theorem dX7_findBest_71 : decode cX7_findBest 71 = .ok (.iconst 1, 1) := by decide +kernel
theorem dX7_findBest_72 : decode cX7_findBest 72 = .ok (.goto 8, 3) := by decide +kernel
theorem dX7_findBest_75 : decode cX7_findBest 75 = .ok (.aload_n 0, 1) := by decide +kernel
theorem dX7_findBest_76 : decode cX7_findBest 76 = .ok (.iload_n 3, 1) := by decide +kernel
theorem dX7_findBest_77 : decode cX7_findBest 77 = .ok (.invokevirtual 392, 3) := by decide +kernel
theorem dX7_findBest_80 : decode cX7_findBest 80 = .ok (.istore 5, 2) := by decide +kernel
theorem dX7_findBest_82 : decode cX7_findBest 82 = .ok (.aload_n 0, 1) := by decide +kernel
theorem dX7_findBest_83 : decode cX7_findBest 83 = .ok (.dup, 1) := by decide +kernel
theorem dX7_findBest_84 : decode cX7_findBest 84 = .ok (.getfield 374, 3) := by decide +kernel
theorem dX7_findBest_87 : decode cX7_findBest 87 = .ok (.iconst 1, 1) := by decide +kernel
theorem dX7_findBest_88 : decode cX7_findBest 88 = .ok (.iadd, 1) := by decide +kernel
theorem dX7_findBest_89 : decode cX7_findBest 89 = .ok (.putfield 374, 3) := by decide +kernel
theorem dX7_findBest_92 : decode cX7_findBest 92 = .ok (.aload_n 0, 1) := by decide +kernel
theorem dX7_findBest_93 : decode cX7_findBest 93 = .ok (.iload 5, 2) := by decide +kernel
theorem dX7_findBest_95 : decode cX7_findBest 95 = .ok (.ifCond .ge 7, 3) := by decide +kernel
theorem dX7_findBest_98 : decode cX7_findBest 98 = .ok (.iconst 1, 1) := by decide +kernel
theorem dX7_findBest_99 : decode cX7_findBest 99 = .ok (.goto 21, 3) := by decide +kernel
theorem dX7_findBest_102 : decode cX7_findBest 102 = .ok (.iload 5, 2) := by decide +kernel
theorem dX7_findBest_104 : decode cX7_findBest 104 = .ok (.ifCond .ne 12, 3) := by decide +kernel
theorem dX7_findBest_107 : decode cX7_findBest 107 = .ok (.aload_n 0, 1) := by decide +kernel
theorem dX7_findBest_108 : decode cX7_findBest 108 = .ok (.getfield 377, 3) := by decide +kernel
theorem dX7_findBest_111 : decode cX7_findBest 111 = .ok (.iconst 1, 1) := by decide +kernel
theorem dX7_findBest_112 : decode cX7_findBest 112 = .ok (.iadd, 1) := by decide +kernel
theorem dX7_findBest_113 : decode cX7_findBest 113 = .ok (.goto 7, 3) := by decide +kernel
theorem dX7_findBest_116 : decode cX7_findBest 116 = .ok (.aload_n 0, 1) := by decide +kernel
theorem dX7_findBest_117 : decode cX7_findBest 117 = .ok (.getfield 377, 3) := by decide +kernel
theorem dX7_findBest_120 : decode cX7_findBest 120 = .ok (.putfield 377, 3) := by decide +kernel
theorem dX7_findBest_123 : decode cX7_findBest 123 = .ok (.iload 5, 2) := by decide +kernel
theorem dX7_findBest_125 : decode cX7_findBest 125 = .ok (.ifCond .ge 77, 3) := by decide +kernel
theorem dX7_findBest_128 : decode cX7_findBest 128 = .ok (.aload_n 0, 1) := by decide +kernel
theorem dX7_findBest_129 : decode cX7_findBest 129 = .ok (.iload 4, 2) := by decide +kernel
theorem dX7_findBest_131 : decode cX7_findBest 131 = .ok (.putfield 389, 3) := by decide +kernel
theorem dX7_findBest_134 : decode cX7_findBest 134 = .ok (.aload_n 0, 1) := by decide +kernel
theorem dX7_findBest_135 : decode cX7_findBest 135 = .ok (.aload_n 0, 1) := by decide +kernel
theorem dX7_findBest_136 : decode cX7_findBest 136 = .ok (.getfield 49, 3) := by decide +kernel
theorem dX7_findBest_139 : decode cX7_findBest 139 = .ok (.iload_n 3, 1) := by decide +kernel
theorem dX7_findBest_140 : decode cX7_findBest 140 = .ok (.bipush 34, 2) := by decide +kernel
theorem dX7_findBest_142 : decode cX7_findBest 142 = .ok (.iadd, 1) := by decide +kernel
theorem dX7_findBest_143 : decode cX7_findBest 143 = .ok (.iaload, 1) := by decide +kernel
theorem dX7_findBest_144 : decode cX7_findBest 144 = .ok (.putfield 365, 3) := by decide +kernel
theorem dX7_findBest_147 : decode cX7_findBest 147 = .ok (.aload_n 0, 1) := by decide +kernel
theorem dX7_findBest_148 : decode cX7_findBest 148 = .ok (.aload_n 0, 1) := by decide +kernel
theorem dX7_findBest_149 : decode cX7_findBest 149 = .ok (.getfield 49, 3) := by decide +kernel
theorem dX7_findBest_152 : decode cX7_findBest 152 = .ok (.iload_n 3, 1) := by decide +kernel
theorem dX7_findBest_153 : decode cX7_findBest 153 = .ok (.bipush 33, 2) := by decide +kernel
theorem dX7_findBest_155 : decode cX7_findBest 155 = .ok (.iadd, 1) := by decide +kernel
theorem dX7_findBest_156 : decode cX7_findBest 156 = .ok (.iaload, 1) := by decide +kernel
theorem dX7_findBest_157 : decode cX7_findBest 157 = .ok (.putfield 368, 3) := by decide +kernel
theorem dX7_findBest_160 : decode cX7_findBest 160 = .ok (.aload_n 0, 1) := by decide +kernel
theorem dX7_findBest_161 : decode cX7_findBest 161 = .ok (.aload_n 0, 1) := by decide +kernel
theorem dX7_findBest_162 : decode cX7_findBest 162 = .ok (.getfield 49, 3) := by decide +kernel
theorem dX7_findBest_165 : decode cX7_findBest 165 = .ok (.iload_n 3, 1) := by decide +kernel
theorem dX7_findBest_166 : decode cX7_findBest 166 = .ok (.bipush 35, 2) := by decide +kernel
theorem dX7_findBest_168 : decode cX7_findBest 168 = .ok (.iadd, 1) := by decide +kernel
theorem dX7_findBest_169 : decode cX7_findBest 169 = .ok (.iaload, 1) := by decide +kernel
theorem dX7_findBest_170 : decode cX7_findBest 170 = .ok (.putfield 371, 3) := by decide +kernel
theorem dX7_findBest_173 : decode cX7_findBest 173 = .ok (.iconst 0, 1) := by decide +kernel
theorem dX7_findBest_174 : decode cX7_findBest 174 = .ok (.istore 6, 2) := by decide +kernel
theorem dX7_findBest_176 : decode cX7_findBest 176 = .ok (.iload 6, 2) := by decide +kernel
theorem dX7_findBest_178 : decode cX7_findBest 178 = .ok (.iload_n 1, 1) := by decide +kernel
theorem dX7_findBest_179 : decode cX7_findBest 179 = .ok (.if_icmp .ge 23, 3) := by decide +kernel
theorem dX7_findBest_182 : decode cX7_findBest 182 = .ok (.aload_n 0, 1) := by decide +kernel
theorem dX7_findBest_183 : decode cX7_findBest 183 = .ok (.getfield 68, 3) := by decide +kernel
theorem dX7_findBest_186 : decode cX7_findBest 186 = .ok (.iload 6, 2) := by decide +kernel
theorem dX7_findBest_188 : decode cX7_findBest 188 = .ok (.aload_n 0, 1) := by decide +kernel
theorem dX7_findBest_189 : decode cX7_findBest 189 = .ok (.getfield 65, 3) := by decide +kernel
theorem dX7_findBest_192 : decode cX7_findBest 192 = .ok (.iload 6, 2) := by decide +kernel
theorem dX7_findBest_194 : decode cX7_findBest 194 = .ok (.iaload, 1) := by decide +kernel
theorem dX7_findBest_195 : decode cX7_findBest 195 = .ok (.iastore, 1) := by decide +kernel
theorem dX7_findBest_196 : decode cX7_findBest 196 = .ok (.iinc 6 1, 3) := by decide +kernel
theorem dX7_findBest_199 : decode cX7_findBest 199 = .ok (.goto (-23), 3) := by decide +kernel
theorem dX7_findBest_202 : decode cX7_findBest 202 = .ok (.goto (-183), 3) := by decide +kernel
theorem dX7_findBest_205 : decode cX7_findBest 205 = .ok (.return_, 1) := by decide +kernel
theorem dX7_best_0 : decode cX7_best 0 = .ok (.iload_n 1, 1) := by decide +kernel
theorem dX7_best_1 : decode cX7_best 1 = .ok (.iconst 5, 1) := by decide +kernel
theorem dX7_best_2 : decode cX7_best 2 = .ok (.invokestatic 395, 3) := by decide +kernel
theorem dX7_best_5 : decode cX7_best 5 = .ok (.ifCond .eq 31, 3) := by decide +kernel
theorem dX7_best_8 : decode cX7_best 8 = .ok (.iload_n 2, 1) := by decide +kernel
theorem dX7_best_9 : decode cX7_best 9 = .ok (.i2l, 1) := by decide +kernel
theorem dX7_best_10 : decode cX7_best 10 = .ok (.lconst 0, 1) := by decide +kernel
theorem dX7_best_11 : decode cX7_best 11 = .ok (.ldc2_w 263, 3) := by decide +kernel
theorem dX7_best_14 : decode cX7_best 14 = .ok (.invokestatic 134, 3) := by decide +kernel
theorem dX7_best_17 : decode cX7_best 17 = .ok (.ifCond .ne 21, 3) := by decide +kernel
theorem dX7_best_20 : decode cX7_best 20 = .ok (.iload_n 2, 1) := by decide +kernel
theorem dX7_best_21 : decode cX7_best 21 = .ok (.i2l, 1) := by decide +kernel
theorem dX7_best_22 : decode cX7_best 22 = .ok (.ldc2_w 227, 3) := by decide +kernel
theorem dX7_best_25 : decode cX7_best 25 = .ok (.bipush 9, 2) := by decide +kernel
theorem dX7_best_27 : decode cX7_best 27 = .ok (.iload_n 1, 1) := by decide +kernel
theorem dX7_best_28 : decode cX7_best 28 = .ok (.iadd, 1) := by decide +kernel
theorem dX7_best_29 : decode cX7_best 29 = .ok (.i2l, 1) := by decide +kernel
theorem dX7_best_30 : decode cX7_best 30 = .ok (.invokestatic 134, 3) := by decide +kernel
theorem dX7_best_33 : decode cX7_best 33 = .ok (.ifCond .ne 5, 3) := by decide +kernel
theorem dX7_best_36 : decode cX7_best 36 = .ok (.iconst (-1), 1) := by decide +kernel
theorem dX7_best_37 : decode cX7_best 37 = .ok (.ireturn, 1) := by decide +kernel
theorem dX7_best_38 : decode cX7_best 38 = .ok (.aload_n 0, 1) := by decide +kernel
theorem dX7_best_39 : decode cX7_best 39 = .ok (.iload_n 1, 1) := by decide +kernel
theorem dX7_best_40 : decode cX7_best 40 = .ok (.iconst 0, 1) := by decide +kernel
theorem dX7_best_41 : decode cX7_best 41 = .ok (.invokevirtual 398, 3) := by decide +kernel
theorem dX7_best_44 : decode cX7_best 44 = .ok (.iload_n 2, 1) := by decide +kernel
theorem dX7_best_45 : decode cX7_best 45 = .ok (.iconst 4, 1) := by decide +kernel
theorem dX7_best_46 : decode cX7_best 46 = .ok (.if_icmp .ne 8, 3) := by decide +kernel
theorem dX7_best_49 : decode cX7_best 49 = .ok (.aload_n 0, 1) := by decide +kernel
theorem dX7_best_50 : decode cX7_best 50 = .ok (.getfield 374, 3) := by decide +kernel
theorem dX7_best_53 : decode cX7_best 53 = .ok (.ireturn, 1) := by decide +kernel
theorem dX7_best_54 : decode cX7_best 54 = .ok (.aload_n 0, 1) := by decide +kernel
theorem dX7_best_55 : decode cX7_best 55 = .ok (.getfield 374, 3) := by decide +kernel
theorem dX7_best_58 : decode cX7_best 58 = .ok (.ifCond .ne 6, 3) := by decide +kernel
theorem dX7_best_61 : decode cX7_best 61 = .ok (.bipush (-4), 2) := by decide +kernel
theorem dX7_best_63 : decode cX7_best 63 = .ok (.ireturn, 1) := by decide +kernel
theorem dX7_best_64 : decode cX7_best 64 = .ok (.iload_n 2, 1) := by decide +kernel
theorem dX7_best_65 : decode cX7_best 65 = .ok (.ifCond .ne 10, 3) := by decide +kernel
theorem dX7_best_68 : decode cX7_best 68 = .ok (.aload_n 0, 1) := by decide +kernel
theorem dX7_best_69 : decode cX7_best 69 = .ok (.getfield 365, 3) := by decide +kernel
theorem dX7_best_72 : decode cX7_best 72 = .ok (.goto 48, 3) := by decide +kernel
theorem dX7_best_75 : decode cX7_best 75 = .ok (.iload_n 2, 1) := by decide +kernel
theorem dX7_best_76 : decode cX7_best 76 = .ok (.iconst 1, 1) := by decide +kernel
theorem dX7_best_77 : decode cX7_best 77 = .ok (.if_icmp .ne 10, 3) := by decide +kernel
theorem dX7_best_80 : decode cX7_best 80 = .ok (.aload_n 0, 1) := by decide +kernel
theorem dX7_best_81 : decode cX7_best 81 = .ok (.getfield 368, 3) := by decide +kernel
theorem dX7_best_84 : decode cX7_best 84 = .ok (.goto 36, 3) := by decide +kernel
theorem dX7_best_87 : decode cX7_best 87 = .ok (.iload_n 2, 1) := by decide +kernel
theorem dX7_best_88 : decode cX7_best 88 = .ok (.iconst 2, 1) := by decide +kernel
theorem dX7_best_89 : decode cX7_best 89 = .ok (.if_icmp .ne 10, 3) := by decide +kernel
theorem dX7_best_92 : decode cX7_best 92 = .ok (.aload_n 0, 1) := by decide +kernel
theorem dX7_best_93 : decode cX7_best 93 = .ok (.getfield 371, 3) := by decide +kernel
theorem dX7_best_96 : decode cX7_best 96 = .ok (.goto 24, 3) := by decide +kernel
theorem dX7_best_99 : decode cX7_best 99 = .ok (.iload_n 2, 1) := by decide +kernel
theorem dX7_best_100 : decode cX7_best 100 = .ok (.iconst 3, 1) := by decide +kernel
theorem dX7_best_101 : decode cX7_best 101 = .ok (.if_icmp .ne 10, 3) := by decide +kernel
theorem dX7_best_104 : decode cX7_best 104 = .ok (.aload_n 0, 1) := by decide +kernel
theorem dX7_best_105 : decode cX7_best 105 = .ok (.getfield 377, 3) := by decide +kernel
theorem dX7_best_108 : decode cX7_best 108 = .ok (.goto 12, 3) := by decide +kernel
theorem dX7_best_111 : decode cX7_best 111 = .ok (.aload_n 0, 1) := by decide +kernel
theorem dX7_best_112 : decode cX7_best 112 = .ok (.getfield 68, 3) := by decide +kernel
theorem dX7_best_115 : decode cX7_best 115 = .ok (.iload_n 2, 1) := by decide +kernel
theorem dX7_best_116 : decode cX7_best 116 = .ok (.bipush 10, 2) := by decide +kernel
theorem dX7_best_118 : decode cX7_best 118 = .ok (.isub, 1) := by decide +kernel
theorem dX7_best_119 : decode cX7_best 119 = .ok (.iaload, 1) := by decide +kernel
theorem dX7_best_120 : decode cX7_best 120 = .ok (.ireturn, 1) := by decide +kernel
theorem dX7_fairest_0 : decode cX7_fairest 0 = .ok (.iload_n 1, 1) := by decide +kernel
theorem dX7_fairest_1 : decode cX7_fairest 1 = .ok (.iconst 5, 1) := by decide +kernel
theorem dX7_fairest_2 : decode cX7_fairest 2 = .ok (.invokestatic 395, 3) := by decide +kernel
theorem dX7_fairest_5 : decode cX7_fairest 5 = .ok (.ifCond .eq 23, 3) := by decide +kernel
theorem dX7_fairest_8 : decode cX7_fairest 8 = .ok (.iload_n 2, 1) := by decide +kernel
theorem dX7_fairest_9 : decode cX7_fairest 9 = .ok (.ifCond .eq 21, 3) := by decide +kernel
theorem dX7_fairest_12 : decode cX7_fairest 12 = .ok (.iload_n 2, 1) := by decide +kernel
theorem dX7_fairest_13 : decode cX7_fairest 13 = .ok (.i2l, 1) := by decide +kernel
theorem dX7_fairest_14 : decode cX7_fairest 14 = .ok (.ldc2_w 227, 3) := by decide +kernel
theorem dX7_fairest_17 : decode cX7_fairest 17 = .ok (.bipush 9, 2) := by decide +kernel
theorem dX7_fairest_19 : decode cX7_fairest 19 = .ok (.iload_n 1, 1) := by decide +kernel
theorem dX7_fairest_20 : decode cX7_fairest 20 = .ok (.iadd, 1) := by decide +kernel
theorem dX7_fairest_21 : decode cX7_fairest 21 = .ok (.i2l, 1) := by decide +kernel
theorem dX7_fairest_22 : decode cX7_fairest 22 = .ok (.invokestatic 134, 3) := by decide +kernel
theorem dX7_fairest_25 : decode cX7_fairest 25 = .ok (.ifCond .ne 5, 3) := by decide +kernel
theorem dX7_fairest_28 : decode cX7_fairest 28 = .ok (.iconst (-1), 1) := by decide +kernel
theorem dX7_fairest_29 : decode cX7_fairest 29 = .ok (.ireturn, 1) := by decide +kernel
theorem dX7_fairest_30 : decode cX7_fairest 30 = .ok (.aload_n 0, 1) := by decide +kernel
theorem dX7_fairest_31 : decode cX7_fairest 31 = .ok (.iload_n 1, 1) := by decide +kernel
theorem dX7_fairest_32 : decode cX7_fairest 32 = .ok (.iconst 1, 1) := by decide +kernel
theorem dX7_fairest_33 : decode cX7_fairest 33 = .ok (.invokevirtual 398, 3) := by decide +kernel
theorem dX7_fairest_36 : decode cX7_fairest 36 = .ok (.aload_n 0, 1) := by decide +kernel
theorem dX7_fairest_37 : decode cX7_fairest 37 = .ok (.getfield 374, 3) := by decide +kernel
theorem dX7_fairest_40 : decode cX7_fairest 40 = .ok (.ifCond .ne 8, 3) := by decide +kernel
theorem dX7_fairest_43 : decode cX7_fairest 43 = .ok (.bipush (-4), 2) := by decide +kernel
theorem dX7_fairest_45 : decode cX7_fairest 45 = .ok (.goto 23, 3) := by decide +kernel
theorem dX7_fairest_48 : decode cX7_fairest 48 = .ok (.iload_n 2, 1) := by decide +kernel
theorem dX7_fairest_49 : decode cX7_fairest 49 = .ok (.ifCond .ne 10, 3) := by decide +kernel
theorem dX7_fairest_52 : decode cX7_fairest 52 = .ok (.aload_n 0, 1) := by decide +kernel
theorem dX7_fairest_53 : decode cX7_fairest 53 = .ok (.getfield 389, 3) := by decide +kernel
theorem dX7_fairest_56 : decode cX7_fairest 56 = .ok (.goto 12, 3) := by decide +kernel
theorem dX7_fairest_59 : decode cX7_fairest 59 = .ok (.aload_n 0, 1) := by decide +kernel
theorem dX7_fairest_60 : decode cX7_fairest 60 = .ok (.getfield 68, 3) := by decide +kernel
theorem dX7_fairest_63 : decode cX7_fairest 63 = .ok (.iload_n 2, 1) := by decide +kernel
theorem dX7_fairest_64 : decode cX7_fairest 64 = .ok (.bipush 10, 2) := by decide +kernel
theorem dX7_fairest_66 : decode cX7_fairest 66 = .ok (.isub, 1) := by decide +kernel
theorem dX7_fairest_67 : decode cX7_fairest 67 = .ok (.iaload, 1) := by decide +kernel
theorem dX7_fairest_68 : decode cX7_fairest 68 = .ok (.ireturn, 1) := by decide +kernel
theorem dX7_surest_0 : decode cX7_surest 0 = .ok (.iload_n 1, 1) := by decide +kernel
theorem dX7_surest_1 : decode cX7_surest 1 = .ok (.iconst 3, 1) := by decide +kernel
theorem dX7_surest_2 : decode cX7_surest 2 = .ok (.invokestatic 395, 3) := by decide +kernel
theorem dX7_surest_5 : decode cX7_surest 5 = .ok (.ifCond .eq 29, 3) := by decide +kernel
theorem dX7_surest_8 : decode cX7_surest 8 = .ok (.iload_n 2, 1) := by decide +kernel
theorem dX7_surest_9 : decode cX7_surest 9 = .ok (.i2l, 1) := by decide +kernel
theorem dX7_surest_10 : decode cX7_surest 10 = .ok (.lconst 0, 1) := by decide +kernel
theorem dX7_surest_11 : decode cX7_surest 11 = .ok (.lconst 1, 1) := by decide +kernel
theorem dX7_surest_12 : decode cX7_surest 12 = .ok (.invokestatic 134, 3) := by decide +kernel
theorem dX7_surest_15 : decode cX7_surest 15 = .ok (.ifCond .ne 21, 3) := by decide +kernel
theorem dX7_surest_18 : decode cX7_surest 18 = .ok (.iload_n 2, 1) := by decide +kernel
theorem dX7_surest_19 : decode cX7_surest 19 = .ok (.i2l, 1) := by decide +kernel
theorem dX7_surest_20 : decode cX7_surest 20 = .ok (.ldc2_w 227, 3) := by decide +kernel
theorem dX7_surest_23 : decode cX7_surest 23 = .ok (.bipush 9, 2) := by decide +kernel
theorem dX7_surest_25 : decode cX7_surest 25 = .ok (.iload_n 1, 1) := by decide +kernel
theorem dX7_surest_26 : decode cX7_surest 26 = .ok (.iadd, 1) := by decide +kernel
theorem dX7_surest_27 : decode cX7_surest 27 = .ok (.i2l, 1) := by decide +kernel
theorem dX7_surest_28 : decode cX7_surest 28 = .ok (.invokestatic 134, 3) := by decide +kernel
theorem dX7_surest_31 : decode cX7_surest 31 = .ok (.ifCond .ne 5, 3) := by decide +kernel
theorem dX7_surest_34 : decode cX7_surest 34 = .ok (.iconst (-1), 1) := by decide +kernel
theorem dX7_surest_35 : decode cX7_surest 35 = .ok (.ireturn, 1) := by decide +kernel
theorem dX7_surest_36 : decode cX7_surest 36 = .ok (.aload_n 0, 1) := by decide +kernel
theorem dX7_surest_37 : decode cX7_surest 37 = .ok (.getfield 138, 3) := by decide +kernel
theorem dX7_surest_40 : decode cX7_surest 40 = .ok (.istore_n 3, 1) := by decide +kernel
theorem dX7_surest_41 : decode cX7_surest 41 = .ok (.iconst 0, 1) := by decide +kernel
theorem dX7_surest_42 : decode cX7_surest 42 = .ok (.istore 4, 2) := by decide +kernel
theorem dX7_surest_44 : decode cX7_surest 44 = .ok (.iload 4, 2) := by decide +kernel
theorem dX7_surest_46 : decode cX7_surest 46 = .ok (.bipush 7, 2) := by decide +kernel
theorem dX7_surest_48 : decode cX7_surest 48 = .ok (.if_icmp .ge 23, 3) := by decide +kernel
theorem dX7_surest_51 : decode cX7_surest 51 = .ok (.aload_n 0, 1) := by decide +kernel
theorem dX7_surest_52 : decode cX7_surest 52 = .ok (.getfield 71, 3) := by decide +kernel
theorem dX7_surest_55 : decode cX7_surest 55 = .ok (.iload 4, 2) := by decide +kernel
theorem dX7_surest_57 : decode cX7_surest 57 = .ok (.aload_n 0, 1) := by decide +kernel
theorem dX7_surest_58 : decode cX7_surest 58 = .ok (.getfield 62, 3) := by decide +kernel
theorem dX7_surest_61 : decode cX7_surest 61 = .ok (.iload 4, 2) := by decide +kernel
theorem dX7_surest_63 : decode cX7_surest 63 = .ok (.iaload, 1) := by decide +kernel
theorem dX7_surest_64 : decode cX7_surest 64 = .ok (.iastore, 1) := by decide +kernel
theorem dX7_surest_65 : decode cX7_surest 65 = .ok (.iinc 4 1, 3) := by decide +kernel
theorem dX7_surest_68 : decode cX7_surest 68 = .ok (.goto (-24), 3) := by decide +kernel
theorem dX7_surest_71 : decode cX7_surest 71 = .ok (.bipush (-4), 2) := by decide +kernel
theorem dX7_surest_73 : decode cX7_surest 73 = .ok (.istore 4, 2) := by decide +kernel
theorem dX7_surest_75 : decode cX7_surest 75 = .ok (.aload_n 0, 1) := by decide +kernel
theorem dX7_surest_76 : decode cX7_surest 76 = .ok (.iload_n 1, 1) := by decide +kernel
theorem dX7_surest_77 : decode cX7_surest 77 = .ok (.putfield 138, 3) := by decide +kernel
theorem dX7_surest_80 : decode cX7_surest 80 = .ok (.aload_n 0, 1) := by decide +kernel
theorem dX7_surest_81 : decode cX7_surest 81 = .ok (.invokevirtual 380, 3) := by decide +kernel
theorem dX7_surest_84 : decode cX7_surest 84 = .ok (.aload_n 0, 1) := by decide +kernel
theorem dX7_surest_85 : decode cX7_surest 85 = .ok (.iload_n 1, 1) := by decide +kernel
theorem dX7_surest_86 : decode cX7_surest 86 = .ok (.invokevirtual 383, 3) := by decide +kernel
theorem dX7_surest_89 : decode cX7_surest 89 = .ok (.ifCond .eq 81, 3) := by decide +kernel
theorem dX7_surest_92 : decode cX7_surest 92 = .ok (.iconst 0, 1) := by decide +kernel
theorem dX7_surest_93 : decode cX7_surest 93 = .ok (.istore 5, 2) := by decide +kernel
theorem dX7_surest_95 : decode cX7_surest 95 = .ok (.iload 5, 2) := by decide +kernel
theorem dX7_surest_97 : decode cX7_surest 97 = .ok (.iload_n 1, 1) := by decide +kernel
theorem dX7_surest_98 : decode cX7_surest 98 = .ok (.if_icmp .ge 23, 3) := by decide +kernel
theorem dX7_surest_101 : decode cX7_surest 101 = .ok (.aload_n 0, 1) := by decide +kernel
theorem dX7_surest_102 : decode cX7_surest 102 = .ok (.getfield 62, 3) := by decide +kernel
theorem dX7_surest_105 : decode cX7_surest 105 = .ok (.iload 5, 2) := by decide +kernel
theorem dX7_surest_107 : decode cX7_surest 107 = .ok (.aload_n 0, 1) := by decide +kernel
theorem dX7_surest_108 : decode cX7_surest 108 = .ok (.getfield 65, 3) := by decide +kernel
theorem dX7_surest_111 : decode cX7_surest 111 = .ok (.iload 5, 2) := by decide +kernel
theorem dX7_surest_113 : decode cX7_surest 113 = .ok (.iaload, 1) := by decide +kernel
theorem dX7_surest_114 : decode cX7_surest 114 = .ok (.iastore, 1) := by decide +kernel
theorem dX7_surest_115 : decode cX7_surest 115 = .ok (.iinc 5 1, 3) := by decide +kernel
theorem dX7_surest_118 : decode cX7_surest 118 = .ok (.goto (-23), 3) := by decide +kernel
theorem dX7_surest_121 : decode cX7_surest 121 = .ok (.aload_n 0, 1) := by decide +kernel
theorem dX7_surest_122 : decode cX7_surest 122 = .ok (.invokevirtual 352, 3) := by decide +kernel
theorem dX7_surest_125 : decode cX7_surest 125 = .ok (.istore 5, 2) := by decide +kernel
theorem dX7_surest_127 : decode cX7_surest 127 = .ok (.iload 5, 2) := by decide +kernel
theorem dX7_surest_129 : decode cX7_surest 129 = .ok (.iload 4, 2) := by decide +kernel
theorem dX7_surest_131 : decode cX7_surest 131 = .ok (.if_icmp .le 36, 3) := by decide +kernel
theorem dX7_surest_134 : decode cX7_surest 134 = .ok (.iload 5, 2) := by decide +kernel
theorem dX7_surest_136 : decode cX7_surest 136 = .ok (.istore 4, 2) := by decide +kernel
theorem dX7_surest_138 : decode cX7_surest 138 = .ok (.iconst 0, 1) := by decide +kernel
theorem dX7_surest_139 : decode cX7_surest 139 = .ok (.istore 6, 2) := by decide +kernel
theorem dX7_surest_141 : decode cX7_surest 141 = .ok (.iload 6, 2) := by decide +kernel
theorem dX7_surest_143 : decode cX7_surest 143 = .ok (.iload_n 1, 1) := by decide +kernel
theorem dX7_surest_144 : decode cX7_surest 144 = .ok (.if_icmp .ge 23, 3) := by decide +kernel
theorem dX7_surest_147 : decode cX7_surest 147 = .ok (.aload_n 0, 1) := by decide +kernel
theorem dX7_surest_148 : decode cX7_surest 148 = .ok (.getfield 68, 3) := by decide +kernel
theorem dX7_surest_151 : decode cX7_surest 151 = .ok (.iload 6, 2) := by decide +kernel
theorem dX7_surest_153 : decode cX7_surest 153 = .ok (.aload_n 0, 1) := by decide +kernel
theorem dX7_surest_154 : decode cX7_surest 154 = .ok (.getfield 65, 3) := by decide +kernel
theorem dX7_surest_157 : decode cX7_surest 157 = .ok (.iload 6, 2) := by decide +kernel
theorem dX7_surest_159 : decode cX7_surest 159 = .ok (.iaload, 1) := by decide +kernel
theorem dX7_surest_160 : decode cX7_surest 160 = .ok (.iastore, 1) := by decide +kernel
theorem dX7_surest_161 : decode cX7_surest 161 = .ok (.iinc 6 1, 3) := by decide +kernel
theorem dX7_surest_164 : decode cX7_surest 164 = .ok (.goto (-23), 3) := by decide +kernel
theorem dX7_surest_167 : decode cX7_surest 167 = .ok (.goto (-83), 3) := by decide +kernel
theorem dX7_surest_170 : decode cX7_surest 170 = .ok (.aload_n 0, 1) := by decide +kernel
theorem dX7_surest_171 : decode cX7_surest 171 = .ok (.iload_n 3, 1) := by decide +kernel
theorem dX7_surest_172 : decode cX7_surest 172 = .ok (.putfield 138, 3) := by decide +kernel
theorem dX7_surest_175 : decode cX7_surest 175 = .ok (.iconst 0, 1) := by decide +kernel
theorem dX7_surest_176 : decode cX7_surest 176 = .ok (.istore 5, 2) := by decide +kernel
theorem dX7_surest_178 : decode cX7_surest 178 = .ok (.iload 5, 2) := by decide +kernel
theorem dX7_surest_180 : decode cX7_surest 180 = .ok (.bipush 7, 2) := by decide +kernel
theorem dX7_surest_182 : decode cX7_surest 182 = .ok (.if_icmp .ge 23, 3) := by decide +kernel
theorem dX7_surest_185 : decode cX7_surest 185 = .ok (.aload_n 0, 1) := by decide +kernel
theorem dX7_surest_186 : decode cX7_surest 186 = .ok (.getfield 62, 3) := by decide +kernel
theorem dX7_surest_189 : decode cX7_surest 189 = .ok (.iload 5, 2) := by decide +kernel
theorem dX7_surest_191 : decode cX7_surest 191 = .ok (.aload_n 0, 1) := by decide +kernel
theorem dX7_surest_192 : decode cX7_surest 192 = .ok (.getfield 71, 3) := by decide +kernel
theorem dX7_surest_195 : decode cX7_surest 195 = .ok (.iload 5, 2) := by decide +kernel
theorem dX7_surest_197 : decode cX7_surest 197 = .ok (.iaload, 1) := by decide +kernel
theorem dX7_surest_198 : decode cX7_surest 198 = .ok (.iastore, 1) := by decide +kernel
theorem dX7_surest_199 : decode cX7_surest 199 = .ok (.iinc 5 1, 3) := by decide +kernel
theorem dX7_surest_202 : decode cX7_surest 202 = .ok (.goto (-24), 3) := by decide +kernel
theorem dX7_surest_205 : decode cX7_surest 205 = .ok (.iload 4, 2) := by decide +kernel
theorem dX7_surest_207 : decode cX7_surest 207 = .ok (.bipush (-4), 2) := by decide +kernel
theorem dX7_surest_209 : decode cX7_surest 209 = .ok (.if_icmp .ne 8, 3) := by decide +kernel
theorem dX7_surest_212 : decode cX7_surest 212 = .ok (.bipush (-4), 2) := by decide +kernel
theorem dX7_surest_214 : decode cX7_surest 214 = .ok (.goto 31, 3) := by decide +kernel
theorem dX7_surest_217 : decode cX7_surest 217 = .ok (.iload_n 2, 1) := by decide +kernel
theorem dX7_surest_218 : decode cX7_surest 218 = .ok (.iconst 2, 1) := by decide +kernel
theorem dX7_surest_219 : decode cX7_surest 219 = .ok (.if_icmp .ge 17, 3) := by decide +kernel
theorem dX7_surest_222 : decode cX7_surest 222 = .ok (.iload 4, 2) := by decide +kernel
theorem dX7_surest_224 : decode cX7_surest 224 = .ok (.iconst 1, 1) := by decide +kernel
theorem dX7_surest_225 : decode cX7_surest 225 = .ok (.iconst 2, 1) := by decide +kernel
theorem dX7_surest_226 : decode cX7_surest 226 = .ok (.iload_n 1, 1) := by decide +kernel
theorem dX7_surest_227 : decode cX7_surest 227 = .ok (.imul, 1) := by decide +kernel
theorem dX7_surest_228 : decode cX7_surest 228 = .ok (.ishl, 1) := by decide +kernel
theorem dX7_surest_229 : decode cX7_surest 229 = .ok (.iload_n 2, 1) := by decide +kernel
theorem dX7_surest_230 : decode cX7_surest 230 = .ok (.invokestatic 355, 3) := by decide +kernel
theorem dX7_surest_233 : decode cX7_surest 233 = .ok (.goto 12, 3) := by decide +kernel
theorem dX7_surest_236 : decode cX7_surest 236 = .ok (.aload_n 0, 1) := by decide +kernel
theorem dX7_surest_237 : decode cX7_surest 237 = .ok (.getfield 68, 3) := by decide +kernel
theorem dX7_surest_240 : decode cX7_surest 240 = .ok (.iload_n 2, 1) := by decide +kernel
theorem dX7_surest_241 : decode cX7_surest 241 = .ok (.bipush 10, 2) := by decide +kernel
theorem dX7_surest_243 : decode cX7_surest 243 = .ok (.isub, 1) := by decide +kernel
theorem dX7_surest_244 : decode cX7_surest 244 = .ok (.iaload, 1) := by decide +kernel
theorem dX7_surest_245 : decode cX7_surest 245 = .ok (.ireturn, 1) := by decide +kernel
theorem dX7_findClosing_0 : decode cX7_findClosing 0 = .ok (.aload_n 0, 1) := by decide +kernel
theorem dX7_findClosing_1 : decode cX7_findClosing 1 = .ok (.iconst 0, 1) := by decide +kernel
theorem dX7_findClosing_2 : decode cX7_findClosing 2 = .ok (.putfield 402, 3) := by decide +kernel
theorem dX7_findClosing_5 : decode cX7_findClosing 5 = .ok (.aload_n 0, 1) := by decide +kernel
theorem dX7_findClosing_6 : decode cX7_findClosing 6 = .ok (.iconst 0, 1) := by decide +kernel
theorem dX7_findClosing_7 : decode cX7_findClosing 7 = .ok (.putfield 405, 3) := by decide +kernel
theorem dX7_findClosing_10 : decode cX7_findClosing 10 = .ok (.aload_n 0, 1) := by decide +kernel
theorem dX7_findClosing_11 : decode cX7_findClosing 11 = .ok (.invokevirtual 380, 3) := by decide +kernel
theorem dX7_findClosing_14 : decode cX7_findClosing 14 = .ok (.aload_n 0, 1) := by decide +kernel
theorem dX7_findClosing_15 : decode cX7_findClosing 15 = .ok (.iload_n 1, 1) := by decide +kernel
theorem dX7_findClosing_16 : decode cX7_findClosing 16 = .ok (.invokevirtual 383, 3) := by decide +kernel
theorem dX7_findClosing_19 : decode cX7_findClosing 19 = .ok (.ifCond .eq 101, 3) := by decide +kernel
theorem dX7_findClosing_22 : decode cX7_findClosing 22 = .ok (.aload_n 0, 1) := by decide +kernel
theorem dX7_findClosing_23 : decode cX7_findClosing 23 = .ok (.bipush 40, 2) := by decide +kernel
theorem dX7_findClosing_25 : decode cX7_findClosing 25 = .ok (.iload_n 1, 1) := by decide +kernel
theorem dX7_findClosing_26 : decode cX7_findClosing 26 = .ok (.imul, 1) := by decide +kernel
theorem dX7_findClosing_27 : decode cX7_findClosing 27 = .ok (.iload_n 1, 1) := by decide +kernel
theorem dX7_findClosing_28 : decode cX7_findClosing 28 = .ok (.invokevirtual 338, 3) := by decide +kernel
theorem dX7_findClosing_31 : decode cX7_findClosing 31 = .ok (.ifCond .eq (-17), 3) := by decide +kernel
theorem dX7_findClosing_34 : decode cX7_findClosing 34 = .ok (.iconst 0, 1) := by decide +kernel
theorem dX7_findClosing_35 : decode cX7_findClosing 35 = .ok (.istore_n 2, 1) := by decide +kernel
theorem dX7_findClosing_36 : decode cX7_findClosing 36 = .ok (.iload_n 2, 1) := by decide +kernel
theorem dX7_findClosing_37 : decode cX7_findClosing 37 = .ok (.iload_n 1, 1) := by decide +kernel
theorem dX7_findClosing_38 : decode cX7_findClosing 38 = .ok (.if_icmp .ge 69, 3) := by decide +kernel
theorem dX7_findClosing_41 : decode cX7_findClosing 41 = .ok (.aload_n 0, 1) := by decide +kernel
theorem dX7_findClosing_42 : decode cX7_findClosing 42 = .ok (.getfield 68, 3) := by decide +kernel
theorem dX7_findClosing_45 : decode cX7_findClosing 45 = .ok (.iload_n 2, 1) := by decide +kernel
theorem dX7_findClosing_46 : decode cX7_findClosing 46 = .ok (.aload_n 0, 1) := by decide +kernel
theorem dX7_findClosing_47 : decode cX7_findClosing 47 = .ok (.getfield 402, 3) := by decide +kernel
theorem dX7_findClosing_50 : decode cX7_findClosing 50 = .ok (.ifCond .ne 12, 3) := by decide +kernel
theorem dX7_findClosing_53 : decode cX7_findClosing 53 = .ok (.aload_n 0, 1) := by decide +kernel
theorem dX7_findClosing_54 : decode cX7_findClosing 54 = .ok (.getfield 65, 3) := by decide +kernel
theorem dX7_findClosing_57 : decode cX7_findClosing 57 = .ok (.iload_n 2, 1) := by decide +kernel
theorem dX7_findClosing_58 : decode cX7_findClosing 58 = .ok (.iaload, 1) := by decide +kernel
theorem dX7_findClosing_59 : decode cX7_findClosing 59 = .ok (.goto 9, 3) := by decide +kernel
theorem dX7_findClosing_62 : decode cX7_findClosing 62 = .ok (.aload_n 0, 1) := by decide +kernel
theorem dX7_findClosing_63 : decode cX7_findClosing 63 = .ok (.getfield 68, 3) := by decide +kernel
theorem dX7_findClosing_66 : decode cX7_findClosing 66 = .ok (.iload_n 2, 1) := by decide +kernel
theorem dX7_findClosing_67 : decode cX7_findClosing 67 = .ok (.iaload, 1) := by decide +kernel
theorem dX7_findClosing_68 : decode cX7_findClosing 68 = .ok (.iastore, 1) := by decide +kernel
theorem dX7_findClosing_69 : decode cX7_findClosing 69 = .ok (.aload_n 0, 1) := by decide +kernel
theorem dX7_findClosing_70 : decode cX7_findClosing 70 = .ok (.dup, 1) := by decide +kernel
theorem dX7_findClosing_71 : decode cX7_findClosing 71 = .ok (.getfield 405, 3) := by decide +kernel
theorem dX7_findClosing_74 : decode cX7_findClosing 74 = .ok (.aload_n 0, 1) := by decide +kernel
theorem dX7_findClosing_75 : decode cX7_findClosing 75 = .ok (.getfield 65, 3) := by decide +kernel
theorem dX7_findClosing_78 : decode cX7_findClosing 78 = .ok (.iload_n 2, 1) := by decide +kernel
theorem dX7_findClosing_79 : decode cX7_findClosing 79 = .ok (.iaload, 1) := by decide +kernel
theorem dX7_findClosing_80 : decode cX7_findClosing 80 = .ok (.bipush (-4), 2) := by decide +kernel
theorem dX7_findClosing_82 : decode cX7_findClosing 82 = .ok (.if_icmp .ne 7, 3) := by decide +kernel
theorem dX7_findClosing_85 : decode cX7_findClosing 85 = .ok (.iconst 0, 1) := by decide +kernel
theorem dX7_findClosing_86 : decode cX7_findClosing 86 = .ok (.goto 11, 3) := by decide +kernel
theorem dX7_findClosing_89 : decode cX7_findClosing 89 = .ok (.iconst 1, 1) := by decide +kernel
theorem dX7_findClosing_90 : decode cX7_findClosing 90 = .ok (.aload_n 0, 1) := by decide +kernel
theorem dX7_findClosing_91 : decode cX7_findClosing 91 = .ok (.getfield 65, 3) := by decide +kernel
theorem dX7_findClosing_94 : decode cX7_findClosing 94 = .ok (.iload_n 2, 1) := by decide +kernel
theorem dX7_findClosing_95 : decode cX7_findClosing 95 = .ok (.iaload, 1) := by decide +kernel
theorem dX7_findClosing_96 : decode cX7_findClosing 96 = .ok (.ishl, 1) := by decide +kernel
theorem dX7_findClosing_97 : decode cX7_findClosing 97 = .ok (.ior, 1) := by decide +kernel
theorem dX7_findClosing_98 : decode cX7_findClosing 98 = .ok (.putfield 405, 3) := by decide +kernel
theorem dX7_findClosing_101 : decode cX7_findClosing 101 = .ok (.iinc 2 1, 3) := by decide +kernel
theorem dX7_findClosing_104 : decode cX7_findClosing 104 = .ok (.goto (-68), 3) := by decide +kernel
theorem dX7_findClosing_107 : decode cX7_findClosing 107 = .ok (.aload_n 0, 1) := by decide +kernel
theorem dX7_findClosing_108 : decode cX7_findClosing 108 = .ok (.dup, 1) := by decide +kernel
theorem dX7_findClosing_109 : decode cX7_findClosing 109 = .ok (.getfield 402, 3) := by decide +kernel
theorem dX7_findClosing_112 : decode cX7_findClosing 112 = .ok (.iconst 1, 1) := by decide +kernel
theorem dX7_findClosing_113 : decode cX7_findClosing 113 = .ok (.iadd, 1) := by decide +kernel
theorem dX7_findClosing_114 : decode cX7_findClosing 114 = .ok (.putfield 402, 3) := by decide +kernel
theorem dX7_findClosing_117 : decode cX7_findClosing 117 = .ok (.goto (-103), 3) := by decide +kernel
theorem dX7_findClosing_120 : decode cX7_findClosing 120 = .ok (.return_, 1) := by decide +kernel
theorem dX7_closes_0 : decode cX7_closes 0 = .ok (.iload_n 1, 1) := by decide +kernel
theorem dX7_closes_1 : decode cX7_closes 1 = .ok (.iconst 5, 1) := by decide +kernel
theorem dX7_closes_2 : decode cX7_closes 2 = .ok (.invokestatic 395, 3) := by decide +kernel
theorem dX7_closes_5 : decode cX7_closes 5 = .ok (.ifCond .eq 31, 3) := by decide +kernel
theorem dX7_closes_8 : decode cX7_closes 8 = .ok (.iload_n 2, 1) := by decide +kernel
theorem dX7_closes_9 : decode cX7_closes 9 = .ok (.i2l, 1) := by decide +kernel
theorem dX7_closes_10 : decode cX7_closes 10 = .ok (.lconst 0, 1) := by decide +kernel
theorem dX7_closes_11 : decode cX7_closes 11 = .ok (.ldc2_w 254, 3) := by decide +kernel
theorem dX7_closes_14 : decode cX7_closes 14 = .ok (.invokestatic 134, 3) := by decide +kernel
theorem dX7_closes_17 : decode cX7_closes 17 = .ok (.ifCond .ne 21, 3) := by decide +kernel
theorem dX7_closes_20 : decode cX7_closes 20 = .ok (.iload_n 2, 1) := by decide +kernel
theorem dX7_closes_21 : decode cX7_closes 21 = .ok (.i2l, 1) := by decide +kernel
theorem dX7_closes_22 : decode cX7_closes 22 = .ok (.ldc2_w 227, 3) := by decide +kernel
theorem dX7_closes_25 : decode cX7_closes 25 = .ok (.bipush 9, 2) := by decide +kernel
theorem dX7_closes_27 : decode cX7_closes 27 = .ok (.iload_n 1, 1) := by decide +kernel
theorem dX7_closes_28 : decode cX7_closes 28 = .ok (.iadd, 1) := by decide +kernel
theorem dX7_closes_29 : decode cX7_closes 29 = .ok (.i2l, 1) := by decide +kernel
theorem dX7_closes_30 : decode cX7_closes 30 = .ok (.invokestatic 134, 3) := by decide +kernel
theorem dX7_closes_33 : decode cX7_closes 33 = .ok (.ifCond .ne 5, 3) := by decide +kernel
theorem dX7_closes_36 : decode cX7_closes 36 = .ok (.iconst (-1), 1) := by decide +kernel
theorem dX7_closes_37 : decode cX7_closes 37 = .ok (.ireturn, 1) := by decide +kernel
theorem dX7_closes_38 : decode cX7_closes 38 = .ok (.aload_n 0, 1) := by decide +kernel
theorem dX7_closes_39 : decode cX7_closes 39 = .ok (.iload_n 1, 1) := by decide +kernel
theorem dX7_closes_40 : decode cX7_closes 40 = .ok (.invokevirtual 408, 3) := by decide +kernel
theorem dX7_closes_43 : decode cX7_closes 43 = .ok (.iconst 1, 1) := by decide +kernel
theorem dX7_closes_44 : decode cX7_closes 44 = .ok (.aload_n 0, 1) := by decide +kernel
theorem dX7_closes_45 : decode cX7_closes 45 = .ok (.getfield 118, 3) := by decide +kernel
theorem dX7_closes_48 : decode cX7_closes 48 = .ok (.ishl, 1) := by decide +kernel
theorem dX7_closes_49 : decode cX7_closes 49 = .ok (.iconst 1, 1) := by decide +kernel
theorem dX7_closes_50 : decode cX7_closes 50 = .ok (.isub, 1) := by decide +kernel
theorem dX7_closes_51 : decode cX7_closes 51 = .ok (.istore_n 3, 1) := by decide +kernel
theorem dX7_closes_52 : decode cX7_closes 52 = .ok (.iload_n 2, 1) := by decide +kernel
theorem dX7_closes_53 : decode cX7_closes 53 = .ok (.ifCond .ne 10, 3) := by decide +kernel
theorem dX7_closes_56 : decode cX7_closes 56 = .ok (.aload_n 0, 1) := by decide +kernel
theorem dX7_closes_57 : decode cX7_closes 57 = .ok (.getfield 402, 3) := by decide +kernel
theorem dX7_closes_60 : decode cX7_closes 60 = .ok (.goto 52, 3) := by decide +kernel
theorem dX7_closes_63 : decode cX7_closes 63 = .ok (.iload_n 2, 1) := by decide +kernel
theorem dX7_closes_64 : decode cX7_closes 64 = .ok (.iconst 1, 1) := by decide +kernel
theorem dX7_closes_65 : decode cX7_closes 65 = .ok (.if_icmp .ne 10, 3) := by decide +kernel
theorem dX7_closes_68 : decode cX7_closes 68 = .ok (.aload_n 0, 1) := by decide +kernel
theorem dX7_closes_69 : decode cX7_closes 69 = .ok (.getfield 405, 3) := by decide +kernel
theorem dX7_closes_72 : decode cX7_closes 72 = .ok (.goto 40, 3) := by decide +kernel
theorem dX7_closes_75 : decode cX7_closes 75 = .ok (.iload_n 2, 1) := by decide +kernel
theorem dX7_closes_76 : decode cX7_closes 76 = .ok (.iconst 2, 1) := by decide +kernel
theorem dX7_closes_77 : decode cX7_closes 77 = .ok (.if_icmp .ne 14, 3) := by decide +kernel
theorem dX7_closes_80 : decode cX7_closes 80 = .ok (.iload_n 3, 1) := by decide +kernel
theorem dX7_closes_81 : decode cX7_closes 81 = .ok (.aload_n 0, 1) := by decide +kernel
theorem dX7_closes_82 : decode cX7_closes 82 = .ok (.getfield 405, 3) := by decide +kernel
theorem dX7_closes_85 : decode cX7_closes 85 = .ok (.iconst (-1), 1) := by decide +kernel
theorem dX7_closes_86 : decode cX7_closes 86 = .ok (.ixor, 1) := by decide +kernel
theorem dX7_closes_87 : decode cX7_closes 87 = .ok (.iand, 1) := by decide +kernel
theorem dX7_closes_88 : decode cX7_closes 88 = .ok (.goto 24, 3) := by decide +kernel
theorem dX7_closes_91 : decode cX7_closes 91 = .ok (.aload_n 0, 1) := by decide +kernel
theorem dX7_closes_92 : decode cX7_closes 92 = .ok (.getfield 402, 3) := by decide +kernel
theorem dX7_closes_95 : decode cX7_closes 95 = .ok (.ifCond .ne 8, 3) := by decide +kernel
theorem dX7_closes_98 : decode cX7_closes 98 = .ok (.bipush (-4), 2) := by decide +kernel
theorem dX7_closes_100 : decode cX7_closes 100 = .ok (.goto 12, 3) := by decide +kernel
theorem dX7_closes_103 : decode cX7_closes 103 = .ok (.aload_n 0, 1) := by decide +kernel
theorem dX7_closes_104 : decode cX7_closes 104 = .ok (.getfield 68, 3) := by decide +kernel
theorem dX7_closes_107 : decode cX7_closes 107 = .ok (.iload_n 2, 1) := by decide +kernel
theorem dX7_closes_108 : decode cX7_closes 108 = .ok (.bipush 10, 2) := by decide +kernel
theorem dX7_closes_110 : decode cX7_closes 110 = .ok (.isub, 1) := by decide +kernel
theorem dX7_closes_111 : decode cX7_closes 111 = .ok (.iaload, 1) := by decide +kernel
theorem dX7_closes_112 : decode cX7_closes 112 = .ok (.ireturn, 1) := by decide +kernel
theorem dX7_shortest_0 : decode cX7_shortest 0 = .ok (.iconst 1, 1) := by decide +kernel
theorem dX7_shortest_1 : decode cX7_shortest 1 = .ok (.istore_n 1, 1) := by decide +kernel
theorem dX7_shortest_2 : decode cX7_shortest 2 = .ok (.iload_n 1, 1) := by decide +kernel
theorem dX7_shortest_3 : decode cX7_shortest 3 = .ok (.bipush 6, 2) := by decide +kernel
theorem dX7_shortest_5 : decode cX7_shortest 5 = .ok (.if_icmp .ge 23, 3) := by decide +kernel
theorem dX7_shortest_8 : decode cX7_shortest 8 = .ok (.aload_n 0, 1) := by decide +kernel
theorem dX7_shortest_9 : decode cX7_shortest 9 = .ok (.iload_n 1, 1) := by decide +kernel
theorem dX7_shortest_10 : decode cX7_shortest 10 = .ok (.invokevirtual 408, 3) := by decide +kernel
theorem dX7_shortest_13 : decode cX7_shortest 13 = .ok (.aload_n 0, 1) := by decide +kernel
theorem dX7_shortest_14 : decode cX7_shortest 14 = .ok (.getfield 402, 3) := by decide +kernel
theorem dX7_shortest_17 : decode cX7_shortest 17 = .ok (.ifCond .le 5, 3) := by decide +kernel
theorem dX7_shortest_20 : decode cX7_shortest 20 = .ok (.iload_n 1, 1) := by decide +kernel
theorem dX7_shortest_21 : decode cX7_shortest 21 = .ok (.ireturn, 1) := by decide +kernel
theorem dX7_shortest_22 : decode cX7_shortest 22 = .ok (.iinc 1 1, 3) := by decide +kernel
theorem dX7_shortest_25 : decode cX7_shortest 25 = .ok (.goto (-23), 3) := by decide +kernel
theorem dX7_shortest_28 : decode cX7_shortest 28 = .ok (.bipush (-4), 2) := by decide +kernel
theorem dX7_shortest_30 : decode cX7_shortest 30 = .ok (.ireturn, 1) := by decide +kernel
theorem dX7_closingWith_0 : decode cX7_closingWith 0 = .ok (.aload_n 0, 1) := by decide +kernel
theorem dX7_closingWith_1 : decode cX7_closingWith 1 = .ok (.getfield 118, 3) := by decide +kernel
theorem dX7_closingWith_4 : decode cX7_closingWith 4 = .ok (.istore_n 3, 1) := by decide +kernel
theorem dX7_closingWith_5 : decode cX7_closingWith 5 = .ok (.iconst 0, 1) := by decide +kernel
theorem dX7_closingWith_6 : decode cX7_closingWith 6 = .ok (.istore 4, 2) := by decide +kernel
theorem dX7_closingWith_8 : decode cX7_closingWith 8 = .ok (.iload 4, 2) := by decide +kernel
theorem dX7_closingWith_10 : decode cX7_closingWith 10 = .ok (.iconst 5, 1) := by decide +kernel
theorem dX7_closingWith_11 : decode cX7_closingWith 11 = .ok (.if_icmp .ge 42, 3) := by decide +kernel
theorem dX7_closingWith_14 : decode cX7_closingWith 14 = .ok (.aload_n 0, 1) := by decide +kernel
theorem dX7_closingWith_15 : decode cX7_closingWith 15 = .ok (.getfield 13, 3) := by decide +kernel
theorem dX7_closingWith_18 : decode cX7_closingWith 18 = .ok (.iconst 5, 1) := by decide +kernel
theorem dX7_closingWith_19 : decode cX7_closingWith 19 = .ok (.iload_n 3, 1) := by decide +kernel
theorem dX7_closingWith_20 : decode cX7_closingWith 20 = .ok (.imul, 1) := by decide +kernel
theorem dX7_closingWith_21 : decode cX7_closingWith 21 = .ok (.iload 4, 2) := by decide +kernel
theorem dX7_closingWith_23 : decode cX7_closingWith 23 = .ok (.iadd, 1) := by decide +kernel
theorem dX7_closingWith_24 : decode cX7_closingWith 24 = .ok (.iload 4, 2) := by decide +kernel
theorem dX7_closingWith_26 : decode cX7_closingWith 26 = .ok (.ifCond .ne 7, 3) := by decide +kernel
theorem dX7_closingWith_29 : decode cX7_closingWith 29 = .ok (.iconst 1, 1) := by decide +kernel
theorem dX7_closingWith_30 : decode cX7_closingWith 30 = .ok (.goto 16, 3) := by decide +kernel
theorem dX7_closingWith_33 : decode cX7_closingWith 33 = .ok (.iload 4, 2) := by decide +kernel
theorem dX7_closingWith_35 : decode cX7_closingWith 35 = .ok (.iconst 4, 1) := by decide +kernel
theorem dX7_closingWith_36 : decode cX7_closingWith 36 = .ok (.if_icmp .ne 9, 3) := by decide +kernel
theorem dX7_closingWith_39 : decode cX7_closingWith 39 = .ok (.iconst 1, 1) := by decide +kernel
theorem dX7_closingWith_40 : decode cX7_closingWith 40 = .ok (.iload_n 1, 1) := by decide +kernel
theorem dX7_closingWith_41 : decode cX7_closingWith 41 = .ok (.ishl, 1) := by decide +kernel
theorem dX7_closingWith_42 : decode cX7_closingWith 42 = .ok (.goto 4, 3) := by decide +kernel
theorem dX7_closingWith_45 : decode cX7_closingWith 45 = .ok (.iconst 0, 1) := by decide +kernel
theorem dX7_closingWith_46 : decode cX7_closingWith 46 = .ok (.iastore, 1) := by decide +kernel
theorem dX7_closingWith_47 : decode cX7_closingWith 47 = .ok (.iinc 4 1, 3) := by decide +kernel
theorem dX7_closingWith_50 : decode cX7_closingWith 50 = .ok (.goto (-42), 3) := by decide +kernel
theorem dX7_closingWith_53 : decode cX7_closingWith 53 = .ok (.iconst 0, 1) := by decide +kernel
theorem dX7_closingWith_54 : decode cX7_closingWith 54 = .ok (.istore 4, 2) := by decide +kernel
theorem dX7_closingWith_56 : decode cX7_closingWith 56 = .ok (.iload 4, 2) := by decide +kernel
theorem dX7_closingWith_58 : decode cX7_closingWith 58 = .ok (.bipush 6, 2) := by decide +kernel
theorem dX7_closingWith_60 : decode cX7_closingWith 60 = .ok (.if_icmp .ge 45, 3) := by decide +kernel
theorem dX7_closingWith_63 : decode cX7_closingWith 63 = .ok (.aload_n 0, 1) := by decide +kernel
theorem dX7_closingWith_64 : decode cX7_closingWith 64 = .ok (.getfield 16, 3) := by decide +kernel
theorem dX7_closingWith_67 : decode cX7_closingWith 67 = .ok (.bipush 6, 2) := by decide +kernel
theorem dX7_closingWith_69 : decode cX7_closingWith 69 = .ok (.iload_n 3, 1) := by decide +kernel
theorem dX7_closingWith_70 : decode cX7_closingWith 70 = .ok (.imul, 1) := by decide +kernel
theorem dX7_closingWith_71 : decode cX7_closingWith 71 = .ok (.iload 4, 2) := by decide +kernel
theorem dX7_closingWith_73 : decode cX7_closingWith 73 = .ok (.iadd, 1) := by decide +kernel
theorem dX7_closingWith_74 : decode cX7_closingWith 74 = .ok (.iload 4, 2) := by decide +kernel
theorem dX7_closingWith_76 : decode cX7_closingWith 76 = .ok (.iload_n 1, 1) := by decide +kernel
theorem dX7_closingWith_77 : decode cX7_closingWith 77 = .ok (.if_icmp .ne 7, 3) := by decide +kernel
theorem dX7_closingWith_80 : decode cX7_closingWith 80 = .ok (.iconst 1, 1) := by decide +kernel
theorem dX7_closingWith_81 : decode cX7_closingWith 81 = .ok (.goto 4, 3) := by decide +kernel
theorem dX7_closingWith_84 : decode cX7_closingWith 84 = .ok (.iconst 0, 1) := by decide +kernel
theorem dX7_closingWith_85 : decode cX7_closingWith 85 = .ok (.iastore, 1) := by decide +kernel
theorem dX7_closingWith_86 : decode cX7_closingWith 86 = .ok (.aload_n 0, 1) := by decide +kernel
theorem dX7_closingWith_87 : decode cX7_closingWith 87 = .ok (.getfield 19, 3) := by decide +kernel
theorem dX7_closingWith_90 : decode cX7_closingWith 90 = .ok (.bipush 6, 2) := by decide +kernel
theorem dX7_closingWith_92 : decode cX7_closingWith 92 = .ok (.iload_n 3, 1) := by decide +kernel
theorem dX7_closingWith_93 : decode cX7_closingWith 93 = .ok (.imul, 1) := by decide +kernel
theorem dX7_closingWith_94 : decode cX7_closingWith 94 = .ok (.iload 4, 2) := by decide +kernel
theorem dX7_closingWith_96 : decode cX7_closingWith 96 = .ok (.iadd, 1) := by decide +kernel
theorem dX7_closingWith_97 : decode cX7_closingWith 97 = .ok (.iconst 0, 1) := by decide +kernel
theorem dX7_closingWith_98 : decode cX7_closingWith 98 = .ok (.iastore, 1) := by decide +kernel
theorem dX7_closingWith_99 : decode cX7_closingWith 99 = .ok (.iinc 4 1, 3) := by decide +kernel
theorem dX7_closingWith_102 : decode cX7_closingWith 102 = .ok (.goto (-46), 3) := by decide +kernel
theorem dX7_closingWith_105 : decode cX7_closingWith 105 = .ok (.aload_n 0, 1) := by decide +kernel
theorem dX7_closingWith_106 : decode cX7_closingWith 106 = .ok (.getfield 49, 3) := by decide +kernel
theorem dX7_closingWith_109 : decode cX7_closingWith 109 = .ok (.sipush 304, 3) := by decide +kernel
theorem dX7_closingWith_112 : decode cX7_closingWith 112 = .ok (.iload_n 3, 1) := by decide +kernel
theorem dX7_closingWith_113 : decode cX7_closingWith 113 = .ok (.iadd, 1) := by decide +kernel
theorem dX7_closingWith_114 : decode cX7_closingWith 114 = .ok (.bipush (-4), 2) := by decide +kernel
theorem dX7_closingWith_116 : decode cX7_closingWith 116 = .ok (.iastore, 1) := by decide +kernel
theorem dX7_closingWith_117 : decode cX7_closingWith 117 = .ok (.aload_n 0, 1) := by decide +kernel
theorem dX7_closingWith_118 : decode cX7_closingWith 118 = .ok (.dup, 1) := by decide +kernel
theorem dX7_closingWith_119 : decode cX7_closingWith 119 = .ok (.getfield 118, 3) := by decide +kernel
theorem dX7_closingWith_122 : decode cX7_closingWith 122 = .ok (.iconst 1, 1) := by decide +kernel
theorem dX7_closingWith_123 : decode cX7_closingWith 123 = .ok (.iadd, 1) := by decide +kernel
theorem dX7_closingWith_124 : decode cX7_closingWith 124 = .ok (.putfield 118, 3) := by decide +kernel
theorem dX7_closingWith_127 : decode cX7_closingWith 127 = .ok (.aload_n 0, 1) := by decide +kernel
theorem dX7_closingWith_128 : decode cX7_closingWith 128 = .ok (.iload_n 2, 1) := by decide +kernel
theorem dX7_closingWith_129 : decode cX7_closingWith 129 = .ok (.invokevirtual 408, 3) := by decide +kernel
theorem dX7_closingWith_132 : decode cX7_closingWith 132 = .ok (.aload_n 0, 1) := by decide +kernel
theorem dX7_closingWith_133 : decode cX7_closingWith 133 = .ok (.dup, 1) := by decide +kernel
theorem dX7_closingWith_134 : decode cX7_closingWith 134 = .ok (.getfield 118, 3) := by decide +kernel
theorem dX7_closingWith_137 : decode cX7_closingWith 137 = .ok (.iconst 1, 1) := by decide +kernel
theorem dX7_closingWith_138 : decode cX7_closingWith 138 = .ok (.isub, 1) := by decide +kernel
theorem dX7_closingWith_139 : decode cX7_closingWith 139 = .ok (.putfield 118, 3) := by decide +kernel
theorem dX7_closingWith_142 : decode cX7_closingWith 142 = .ok (.aload_n 0, 1) := by decide +kernel
theorem dX7_closingWith_143 : decode cX7_closingWith 143 = .ok (.getfield 402, 3) := by decide +kernel
theorem dX7_closingWith_146 : decode cX7_closingWith 146 = .ok (.ireturn, 1) := by decide +kernel
theorem dX7_small_0 : decode cX7_small 0 = .ok (.aload_n 0, 1) := by decide +kernel
theorem dX7_small_1 : decode cX7_small 1 = .ok (.iload_n 1, 1) := by decide +kernel
theorem dX7_small_2 : decode cX7_small 2 = .ok (.invokevirtual 250, 3) := by decide +kernel
theorem dX7_small_5 : decode cX7_small 5 = .ok (.ifCond .eq 20, 3) := by decide +kernel
theorem dX7_small_8 : decode cX7_small 8 = .ok (.iload_n 2, 1) := by decide +kernel
theorem dX7_small_9 : decode cX7_small 9 = .ok (.iconst 4, 1) := by decide +kernel
theorem dX7_small_10 : decode cX7_small 10 = .ok (.invokestatic 395, 3) := by decide +kernel
theorem dX7_small_13 : decode cX7_small 13 = .ok (.ifCond .eq 12, 3) := by decide +kernel
theorem dX7_small_16 : decode cX7_small 16 = .ok (.aload_n 0, 1) := by decide +kernel
theorem dX7_small_17 : decode cX7_small 17 = .ok (.iload_n 1, 1) := by decide +kernel
theorem dX7_small_18 : decode cX7_small 18 = .ok (.iload_n 2, 1) := by decide +kernel
theorem dX7_small_19 : decode cX7_small 19 = .ok (.invokevirtual 411, 3) := by decide +kernel
theorem dX7_small_22 : decode cX7_small 22 = .ok (.goto 4, 3) := by decide +kernel
theorem dX7_small_25 : decode cX7_small 25 = .ok (.iconst (-1), 1) := by decide +kernel
theorem dX7_small_26 : decode cX7_small 26 = .ok (.ireturn, 1) := by decide +kernel
theorem dX7_dish_0 : decode cX7_dish 0 = .ok (.iload_n 1, 1) := by decide +kernel
theorem dX7_dish_1 : decode cX7_dish 1 = .ok (.iconst 4, 1) := by decide +kernel
theorem dX7_dish_2 : decode cX7_dish 2 = .ok (.invokestatic 395, 3) := by decide +kernel
theorem dX7_dish_5 : decode cX7_dish 5 = .ok (.ifCond .ne 5, 3) := by decide +kernel
theorem dX7_dish_8 : decode cX7_dish 8 = .ok (.iconst (-1), 1) := by decide +kernel
theorem dX7_dish_9 : decode cX7_dish 9 = .ok (.ireturn, 1) := by decide +kernel
theorem dX7_dish_10 : decode cX7_dish 10 = .ok (.bipush (-4), 2) := by decide +kernel
theorem dX7_dish_12 : decode cX7_dish 12 = .ok (.istore_n 2, 1) := by decide +kernel
theorem dX7_dish_13 : decode cX7_dish 13 = .ok (.iconst (-1), 1) := by decide +kernel
theorem dX7_dish_14 : decode cX7_dish 14 = .ok (.istore_n 3, 1) := by decide +kernel
theorem dX7_dish_15 : decode cX7_dish 15 = .ok (.iconst 0, 1) := by decide +kernel
theorem dX7_dish_16 : decode cX7_dish 16 = .ok (.istore 4, 2) := by decide +kernel
theorem dX7_dish_18 : decode cX7_dish 18 = .ok (.iload 4, 2) := by decide +kernel
theorem dX7_dish_20 : decode cX7_dish 20 = .ok (.aload_n 0, 1) := by decide +kernel
theorem dX7_dish_21 : decode cX7_dish 21 = .ok (.getfield 115, 3) := by decide +kernel
theorem dX7_dish_24 : decode cX7_dish 24 = .ok (.if_icmp .ge 44, 3) := by decide +kernel
theorem dX7_dish_27 : decode cX7_dish 27 = .ok (.aload_n 0, 1) := by decide +kernel
theorem dX7_dish_28 : decode cX7_dish 28 = .ok (.iload 4, 2) := by decide +kernel
theorem dX7_dish_30 : decode cX7_dish 30 = .ok (.iload_n 1, 1) := by decide +kernel
theorem dX7_dish_31 : decode cX7_dish 31 = .ok (.invokevirtual 411, 3) := by decide +kernel
theorem dX7_dish_34 : decode cX7_dish 34 = .ok (.istore 5, 2) := by decide +kernel
theorem dX7_dish_36 : decode cX7_dish 36 = .ok (.iload 5, 2) := by decide +kernel
theorem dX7_dish_38 : decode cX7_dish 38 = .ok (.iload_n 3, 1) := by decide +kernel
theorem dX7_dish_39 : decode cX7_dish 39 = .ok (.if_icmp .le 8, 3) := by decide +kernel
theorem dX7_dish_42 : decode cX7_dish 42 = .ok (.iload 4, 2) := by decide +kernel
theorem dX7_dish_44 : decode cX7_dish 44 = .ok (.goto 4, 3) := by decide +kernel
theorem dX7_dish_47 : decode cX7_dish 47 = .ok (.iload_n 2, 1) := by decide +kernel
theorem dX7_dish_48 : decode cX7_dish 48 = .ok (.istore_n 2, 1) := by decide +kernel
theorem dX7_dish_49 : decode cX7_dish 49 = .ok (.iload 5, 2) := by decide +kernel
theorem dX7_dish_51 : decode cX7_dish 51 = .ok (.iload_n 3, 1) := by decide +kernel
theorem dX7_dish_52 : decode cX7_dish 52 = .ok (.if_icmp .le 8, 3) := by decide +kernel
theorem dX7_dish_55 : decode cX7_dish 55 = .ok (.iload 5, 2) := by decide +kernel
theorem dX7_dish_57 : decode cX7_dish 57 = .ok (.goto 4, 3) := by decide +kernel
theorem dX7_dish_60 : decode cX7_dish 60 = .ok (.iload_n 3, 1) := by decide +kernel
theorem dX7_dish_61 : decode cX7_dish 61 = .ok (.istore_n 3, 1) := by decide +kernel
theorem dX7_dish_62 : decode cX7_dish 62 = .ok (.iinc 4 1, 3) := by decide +kernel
theorem dX7_dish_65 : decode cX7_dish 65 = .ok (.goto (-47), 3) := by decide +kernel
theorem dX7_dish_68 : decode cX7_dish 68 = .ok (.iload_n 2, 1) := by decide +kernel
theorem dX7_dish_69 : decode cX7_dish 69 = .ok (.ireturn, 1) := by decide +kernel
theorem dX7_cheap_0 : decode cX7_cheap 0 = .ok (.aload_n 0, 1) := by decide +kernel
theorem dX7_cheap_1 : decode cX7_cheap 1 = .ok (.iload_n 1, 1) := by decide +kernel
theorem dX7_cheap_2 : decode cX7_cheap 2 = .ok (.invokevirtual 250, 3) := by decide +kernel
theorem dX7_cheap_5 : decode cX7_cheap 5 = .ok (.ifCond .eq 23, 3) := by decide +kernel
theorem dX7_cheap_8 : decode cX7_cheap 8 = .ok (.iload_n 2, 1) := by decide +kernel
theorem dX7_cheap_9 : decode cX7_cheap 9 = .ok (.i2l, 1) := by decide +kernel
theorem dX7_cheap_10 : decode cX7_cheap 10 = .ok (.lconst 0, 1) := by decide +kernel
theorem dX7_cheap_11 : decode cX7_cheap 11 = .ok (.ldc2_w 414, 3) := by decide +kernel
theorem dX7_cheap_14 : decode cX7_cheap 14 = .ok (.invokestatic 134, 3) := by decide +kernel
theorem dX7_cheap_17 : decode cX7_cheap 17 = .ok (.ifCond .eq 11, 3) := by decide +kernel
theorem dX7_cheap_20 : decode cX7_cheap 20 = .ok (.iload_n 3, 1) := by decide +kernel
theorem dX7_cheap_21 : decode cX7_cheap 21 = .ok (.iconst 5, 1) := by decide +kernel
theorem dX7_cheap_22 : decode cX7_cheap 22 = .ok (.invokestatic 395, 3) := by decide +kernel
theorem dX7_cheap_25 : decode cX7_cheap 25 = .ok (.ifCond .ne 5, 3) := by decide +kernel
theorem dX7_cheap_28 : decode cX7_cheap 28 = .ok (.iconst (-1), 1) := by decide +kernel
theorem dX7_cheap_29 : decode cX7_cheap 29 = .ok (.ireturn, 1) := by decide +kernel
theorem dX7_cheap_30 : decode cX7_cheap 30 = .ok (.aload_n 0, 1) := by decide +kernel
theorem dX7_cheap_31 : decode cX7_cheap 31 = .ok (.getfield 7, 3) := by decide +kernel
theorem dX7_cheap_34 : decode cX7_cheap 34 = .ok (.iconst 3, 1) := by decide +kernel
theorem dX7_cheap_35 : decode cX7_cheap 35 = .ok (.iload_n 1, 1) := by decide +kernel
theorem dX7_cheap_36 : decode cX7_cheap 36 = .ok (.imul, 1) := by decide +kernel
theorem dX7_cheap_37 : decode cX7_cheap 37 = .ok (.iconst 2, 1) := by decide +kernel
theorem dX7_cheap_38 : decode cX7_cheap 38 = .ok (.iadd, 1) := by decide +kernel
theorem dX7_cheap_39 : decode cX7_cheap 39 = .ok (.iaload, 1) := by decide +kernel
theorem dX7_cheap_40 : decode cX7_cheap 40 = .ok (.istore 4, 2) := by decide +kernel
theorem dX7_cheap_42 : decode cX7_cheap 42 = .ok (.aload_n 0, 1) := by decide +kernel
theorem dX7_cheap_43 : decode cX7_cheap 43 = .ok (.getfield 7, 3) := by decide +kernel
theorem dX7_cheap_46 : decode cX7_cheap 46 = .ok (.iconst 3, 1) := by decide +kernel
theorem dX7_cheap_47 : decode cX7_cheap 47 = .ok (.iload_n 1, 1) := by decide +kernel
theorem dX7_cheap_48 : decode cX7_cheap 48 = .ok (.imul, 1) := by decide +kernel
theorem dX7_cheap_49 : decode cX7_cheap 49 = .ok (.iconst 2, 1) := by decide +kernel
theorem dX7_cheap_50 : decode cX7_cheap 50 = .ok (.iadd, 1) := by decide +kernel
theorem dX7_cheap_51 : decode cX7_cheap 51 = .ok (.iload_n 2, 1) := by decide +kernel
theorem dX7_cheap_52 : decode cX7_cheap 52 = .ok (.iastore, 1) := by decide +kernel
theorem dX7_cheap_53 : decode cX7_cheap 53 = .ok (.aload_n 0, 1) := by decide +kernel
theorem dX7_cheap_54 : decode cX7_cheap 54 = .ok (.iload_n 3, 1) := by decide +kernel
theorem dX7_cheap_55 : decode cX7_cheap 55 = .ok (.iconst 0, 1) := by decide +kernel
theorem dX7_cheap_56 : decode cX7_cheap 56 = .ok (.invokevirtual 398, 3) := by decide +kernel
theorem dX7_cheap_59 : decode cX7_cheap 59 = .ok (.aload_n 0, 1) := by decide +kernel
theorem dX7_cheap_60 : decode cX7_cheap 60 = .ok (.getfield 7, 3) := by decide +kernel
theorem dX7_cheap_63 : decode cX7_cheap 63 = .ok (.iconst 3, 1) := by decide +kernel
theorem dX7_cheap_64 : decode cX7_cheap 64 = .ok (.iload_n 1, 1) := by decide +kernel
theorem dX7_cheap_65 : decode cX7_cheap 65 = .ok (.imul, 1) := by decide +kernel
theorem dX7_cheap_66 : decode cX7_cheap 66 = .ok (.iconst 2, 1) := by decide +kernel
theorem dX7_cheap_67 : decode cX7_cheap 67 = .ok (.iadd, 1) := by decide +kernel
theorem dX7_cheap_68 : decode cX7_cheap 68 = .ok (.iload 4, 2) := by decide +kernel
theorem dX7_cheap_70 : decode cX7_cheap 70 = .ok (.iastore, 1) := by decide +kernel
theorem dX7_cheap_71 : decode cX7_cheap 71 = .ok (.aload_n 0, 1) := by decide +kernel
theorem dX7_cheap_72 : decode cX7_cheap 72 = .ok (.getfield 374, 3) := by decide +kernel
theorem dX7_cheap_75 : decode cX7_cheap 75 = .ok (.ifCond .ne 8, 3) := by decide +kernel
theorem dX7_cheap_78 : decode cX7_cheap 78 = .ok (.bipush (-4), 2) := by decide +kernel
theorem dX7_cheap_80 : decode cX7_cheap 80 = .ok (.goto 7, 3) := by decide +kernel
theorem dX7_cheap_83 : decode cX7_cheap 83 = .ok (.aload_n 0, 1) := by decide +kernel
theorem dX7_cheap_84 : decode cX7_cheap 84 = .ok (.getfield 368, 3) := by decide +kernel
theorem dX7_cheap_87 : decode cX7_cheap 87 = .ok (.ireturn, 1) := by decide +kernel
theorem dX7_cold_0 : decode cX7_cold 0 = .ok (.aload_n 0, 1) := by decide +kernel
theorem dX7_cold_1 : decode cX7_cold 1 = .ok (.iload_n 1, 1) := by decide +kernel
theorem dX7_cold_2 : decode cX7_cold 2 = .ok (.invokevirtual 250, 3) := by decide +kernel
theorem dX7_cold_5 : decode cX7_cold 5 = .ok (.ifCond .eq 11, 3) := by decide +kernel
theorem dX7_cold_8 : decode cX7_cold 8 = .ok (.iload_n 2, 1) := by decide +kernel
theorem dX7_cold_9 : decode cX7_cold 9 = .ok (.iconst 5, 1) := by decide +kernel
theorem dX7_cold_10 : decode cX7_cold 10 = .ok (.invokestatic 395, 3) := by decide +kernel
theorem dX7_cold_13 : decode cX7_cold 13 = .ok (.ifCond .ne 5, 3) := by decide +kernel
theorem dX7_cold_16 : decode cX7_cold 16 = .ok (.iconst (-1), 1) := by decide +kernel
theorem dX7_cold_17 : decode cX7_cold 17 = .ok (.ireturn, 1) := by decide +kernel
theorem dX7_cold_18 : decode cX7_cold 18 = .ok (.aload_n 0, 1) := by decide +kernel
theorem dX7_cold_19 : decode cX7_cold 19 = .ok (.iload_n 1, 1) := by decide +kernel
theorem dX7_cold_20 : decode cX7_cold 20 = .ok (.invokevirtual 308, 3) := by decide +kernel
theorem dX7_cold_23 : decode cX7_cold 23 = .ok (.istore_n 3, 1) := by decide +kernel
theorem dX7_cold_24 : decode cX7_cold 24 = .ok (.aload_n 0, 1) := by decide +kernel
theorem dX7_cold_25 : decode cX7_cold 25 = .ok (.getfield 7, 3) := by decide +kernel
theorem dX7_cold_28 : decode cX7_cold 28 = .ok (.iconst 3, 1) := by decide +kernel
theorem dX7_cold_29 : decode cX7_cold 29 = .ok (.iload_n 1, 1) := by decide +kernel
theorem dX7_cold_30 : decode cX7_cold 30 = .ok (.imul, 1) := by decide +kernel
theorem dX7_cold_31 : decode cX7_cold 31 = .ok (.iload_n 3, 1) := by decide +kernel
theorem dX7_cold_32 : decode cX7_cold 32 = .ok (.iconst 4, 1) := by decide +kernel
theorem dX7_cold_33 : decode cX7_cold 33 = .ok (.if_icmp .ge 9, 3) := by decide +kernel
theorem dX7_cold_36 : decode cX7_cold 36 = .ok (.iload_n 3, 1) := by decide +kernel
theorem dX7_cold_37 : decode cX7_cold 37 = .ok (.iconst 1, 1) := by decide +kernel
theorem dX7_cold_38 : decode cX7_cold 38 = .ok (.iadd, 1) := by decide +kernel
theorem dX7_cold_39 : decode cX7_cold 39 = .ok (.goto 4, 3) := by decide +kernel
theorem dX7_cold_42 : decode cX7_cold 42 = .ok (.iconst 4, 1) := by decide +kernel
theorem dX7_cold_43 : decode cX7_cold 43 = .ok (.iastore, 1) := by decide +kernel
theorem dX7_cold_44 : decode cX7_cold 44 = .ok (.aload_n 0, 1) := by decide +kernel
theorem dX7_cold_45 : decode cX7_cold 45 = .ok (.iload_n 2, 1) := by decide +kernel
theorem dX7_cold_46 : decode cX7_cold 46 = .ok (.iconst 0, 1) := by decide +kernel
theorem dX7_cold_47 : decode cX7_cold 47 = .ok (.invokevirtual 398, 3) := by decide +kernel
theorem dX7_cold_50 : decode cX7_cold 50 = .ok (.aload_n 0, 1) := by decide +kernel
theorem dX7_cold_51 : decode cX7_cold 51 = .ok (.getfield 7, 3) := by decide +kernel
theorem dX7_cold_54 : decode cX7_cold 54 = .ok (.iconst 3, 1) := by decide +kernel
theorem dX7_cold_55 : decode cX7_cold 55 = .ok (.iload_n 1, 1) := by decide +kernel
theorem dX7_cold_56 : decode cX7_cold 56 = .ok (.imul, 1) := by decide +kernel
theorem dX7_cold_57 : decode cX7_cold 57 = .ok (.iload_n 3, 1) := by decide +kernel
theorem dX7_cold_58 : decode cX7_cold 58 = .ok (.iastore, 1) := by decide +kernel
theorem dX7_cold_59 : decode cX7_cold 59 = .ok (.aload_n 0, 1) := by decide +kernel
theorem dX7_cold_60 : decode cX7_cold 60 = .ok (.getfield 374, 3) := by decide +kernel
theorem dX7_cold_63 : decode cX7_cold 63 = .ok (.ifCond .ne 8, 3) := by decide +kernel
theorem dX7_cold_66 : decode cX7_cold 66 = .ok (.bipush (-4), 2) := by decide +kernel
theorem dX7_cold_68 : decode cX7_cold 68 = .ok (.goto 7, 3) := by decide +kernel
theorem dX7_cold_71 : decode cX7_cold 71 = .ok (.aload_n 0, 1) := by decide +kernel
theorem dX7_cold_72 : decode cX7_cold 72 = .ok (.getfield 365, 3) := by decide +kernel
theorem dX7_cold_75 : decode cX7_cold 75 = .ok (.ireturn, 1) := by decide +kernel
theorem dX7_isSheet_0 : decode cX7_isSheet 0 = .ok (.iload_n 0, 1) := by decide +kernel
theorem dX7_isSheet_1 : decode cX7_isSheet 1 = .ok (.i2l, 1) := by decide +kernel
theorem dX7_isSheet_2 : decode cX7_isSheet 2 = .ok (.lconst 0, 1) := by decide +kernel
theorem dX7_isSheet_3 : decode cX7_isSheet 3 = .ok (.ldc2_w 225, 3) := by decide +kernel
theorem dX7_isSheet_6 : decode cX7_isSheet 6 = .ok (.invokestatic 134, 3) := by decide +kernel
theorem dX7_isSheet_9 : decode cX7_isSheet 9 = .ok (.ifCond .eq 19, 3) := by decide +kernel
theorem dX7_isSheet_12 : decode cX7_isSheet 12 = .ok (.iload_n 1, 1) := by decide +kernel
theorem dX7_isSheet_13 : decode cX7_isSheet 13 = .ok (.i2l, 1) := by decide +kernel
theorem dX7_isSheet_14 : decode cX7_isSheet 14 = .ok (.lconst 0, 1) := by decide +kernel
theorem dX7_isSheet_15 : decode cX7_isSheet 15 = .ok (.ldc2_w 254, 3) := by decide +kernel
theorem dX7_isSheet_18 : decode cX7_isSheet 18 = .ok (.invokestatic 134, 3) := by decide +kernel
theorem dX7_isSheet_21 : decode cX7_isSheet 21 = .ok (.ifCond .eq 7, 3) := by decide +kernel
theorem dX7_isSheet_24 : decode cX7_isSheet 24 = .ok (.iconst 1, 1) := by decide +kernel
theorem dX7_isSheet_25 : decode cX7_isSheet 25 = .ok (.goto 4, 3) := by decide +kernel
theorem dX7_isSheet_28 : decode cX7_isSheet 28 = .ok (.iconst 0, 1) := by decide +kernel
theorem dX7_isSheet_29 : decode cX7_isSheet 29 = .ok (.ireturn, 1) := by decide +kernel
theorem dX7_sheet_0 : decode cX7_sheet 0 = .ok (.iload_n 1, 1) := by decide +kernel
theorem dX7_sheet_1 : decode cX7_sheet 1 = .ok (.iload_n 2, 1) := by decide +kernel
theorem dX7_sheet_2 : decode cX7_sheet 2 = .ok (.invokestatic 416, 3) := by decide +kernel
theorem dX7_sheet_5 : decode cX7_sheet 5 = .ok (.ifCond .eq 9, 3) := by decide +kernel
theorem dX7_sheet_8 : decode cX7_sheet 8 = .ok (.iload_n 3, 1) := by decide +kernel
theorem dX7_sheet_9 : decode cX7_sheet 9 = .ok (.bipush 40, 2) := by decide +kernel
theorem dX7_sheet_11 : decode cX7_sheet 11 = .ok (.if_icmp .le 5, 3) := by decide +kernel
theorem dX7_sheet_14 : decode cX7_sheet 14 = .ok (.iconst (-1), 1) := by decide +kernel
theorem dX7_sheet_15 : decode cX7_sheet 15 = .ok (.ireturn, 1) := by decide +kernel
theorem dX7_sheet_16 : decode cX7_sheet 16 = .ok (.iload_n 3, 1) := by decide +kernel
theorem dX7_sheet_17 : decode cX7_sheet 17 = .ok (.ifCond .ge 6, 3) := by decide +kernel
theorem dX7_sheet_20 : decode cX7_sheet 20 = .ok (.bipush (-14), 2) := by decide +kernel
theorem dX7_sheet_22 : decode cX7_sheet 22 = .ok (.ireturn, 1) := by decide +kernel
theorem dX7_sheet_23 : decode cX7_sheet 23 = .ok (.aload_n 0, 1) := by decide +kernel
theorem dX7_sheet_24 : decode cX7_sheet 24 = .ok (.getfield 74, 3) := by decide +kernel
theorem dX7_sheet_27 : decode cX7_sheet 27 = .ok (.iload_n 1, 1) := by decide +kernel
theorem dX7_sheet_28 : decode cX7_sheet 28 = .ok (.iload_n 2, 1) := by decide +kernel
theorem dX7_sheet_29 : decode cX7_sheet 29 = .ok (.iastore, 1) := by decide +kernel
theorem dX7_sheet_30 : decode cX7_sheet 30 = .ok (.aload_n 0, 1) := by decide +kernel
theorem dX7_sheet_31 : decode cX7_sheet 31 = .ok (.getfield 77, 3) := by decide +kernel
theorem dX7_sheet_34 : decode cX7_sheet 34 = .ok (.iload_n 1, 1) := by decide +kernel
theorem dX7_sheet_35 : decode cX7_sheet 35 = .ok (.iload_n 3, 1) := by decide +kernel
theorem dX7_sheet_36 : decode cX7_sheet 36 = .ok (.iastore, 1) := by decide +kernel
theorem dX7_sheet_37 : decode cX7_sheet 37 = .ok (.iconst 0, 1) := by decide +kernel
theorem dX7_sheet_38 : decode cX7_sheet 38 = .ok (.istore 4, 2) := by decide +kernel
theorem dX7_sheet_40 : decode cX7_sheet 40 = .ok (.iload 4, 2) := by decide +kernel
theorem dX7_sheet_42 : decode cX7_sheet 42 = .ok (.bipush 40, 2) := by decide +kernel
theorem dX7_sheet_44 : decode cX7_sheet 44 = .ok (.if_icmp .ge 22, 3) := by decide +kernel
theorem dX7_sheet_47 : decode cX7_sheet 47 = .ok (.aload_n 0, 1) := by decide +kernel
theorem dX7_sheet_48 : decode cX7_sheet 48 = .ok (.getfield 80, 3) := by decide +kernel
theorem dX7_sheet_51 : decode cX7_sheet 51 = .ok (.bipush 40, 2) := by decide +kernel
theorem dX7_sheet_53 : decode cX7_sheet 53 = .ok (.iload_n 1, 1) := by decide +kernel
theorem dX7_sheet_54 : decode cX7_sheet 54 = .ok (.imul, 1) := by decide +kernel
theorem dX7_sheet_55 : decode cX7_sheet 55 = .ok (.iload 4, 2) := by decide +kernel
theorem dX7_sheet_57 : decode cX7_sheet 57 = .ok (.iadd, 1) := by decide +kernel
theorem dX7_sheet_58 : decode cX7_sheet 58 = .ok (.iconst 0, 1) := by decide +kernel
theorem dX7_sheet_59 : decode cX7_sheet 59 = .ok (.iastore, 1) := by decide +kernel
theorem dX7_sheet_60 : decode cX7_sheet 60 = .ok (.iinc 4 1, 3) := by decide +kernel
theorem dX7_sheet_63 : decode cX7_sheet 63 = .ok (.goto (-23), 3) := by decide +kernel
theorem dX7_sheet_66 : decode cX7_sheet 66 = .ok (.iconst 1, 1) := by decide +kernel
theorem dX7_sheet_67 : decode cX7_sheet 67 = .ok (.ireturn, 1) := by decide +kernel
theorem dX7_lay_0 : decode cX7_lay 0 = .ok (.iload_n 1, 1) := by decide +kernel
theorem dX7_lay_1 : decode cX7_lay 1 = .ok (.iconst 0, 1) := by decide +kernel
theorem dX7_lay_2 : decode cX7_lay 2 = .ok (.invokestatic 416, 3) := by decide +kernel
theorem dX7_lay_5 : decode cX7_lay 5 = .ok (.ifCond .ne 5, 3) := by decide +kernel
theorem dX7_lay_8 : decode cX7_lay 8 = .ok (.iconst (-1), 1) := by decide +kernel
theorem dX7_lay_9 : decode cX7_lay 9 = .ok (.ireturn, 1) := by decide +kernel
theorem dX7_lay_10 : decode cX7_lay 10 = .ok (.aload_n 0, 1) := by decide +kernel
theorem dX7_lay_11 : decode cX7_lay 11 = .ok (.getfield 74, 3) := by decide +kernel
theorem dX7_lay_14 : decode cX7_lay 14 = .ok (.iload_n 1, 1) := by decide +kernel
theorem dX7_lay_15 : decode cX7_lay 15 = .ok (.iaload, 1) := by decide +kernel
theorem dX7_lay_16 : decode cX7_lay 16 = .ok (.bipush (-4), 2) := by decide +kernel
theorem dX7_lay_18 : decode cX7_lay 18 = .ok (.if_icmp .ne 6, 3) := by decide +kernel
theorem dX7_lay_21 : decode cX7_lay 21 = .ok (.bipush (-11), 2) := by decide +kernel
theorem dX7_lay_23 : decode cX7_lay 23 = .ok (.ireturn, 1) := by decide +kernel
theorem dX7_lay_24 : decode cX7_lay 24 = .ok (.iload_n 2, 1) := by decide +kernel
theorem dX7_lay_25 : decode cX7_lay 25 = .ok (.i2l, 1) := by decide +kernel
theorem dX7_lay_26 : decode cX7_lay 26 = .ok (.lconst 0, 1) := by decide +kernel
theorem dX7_lay_27 : decode cX7_lay 27 = .ok (.aload_n 0, 1) := by decide +kernel
theorem dX7_lay_28 : decode cX7_lay 28 = .ok (.getfield 77, 3) := by decide +kernel
theorem dX7_lay_31 : decode cX7_lay 31 = .ok (.iload_n 1, 1) := by decide +kernel
theorem dX7_lay_32 : decode cX7_lay 32 = .ok (.iaload, 1) := by decide +kernel
theorem dX7_lay_33 : decode cX7_lay 33 = .ok (.iconst 1, 1) := by decide +kernel
theorem dX7_lay_34 : decode cX7_lay 34 = .ok (.isub, 1) := by decide +kernel
theorem dX7_lay_35 : decode cX7_lay 35 = .ok (.i2l, 1) := by decide +kernel
theorem dX7_lay_36 : decode cX7_lay 36 = .ok (.invokestatic 134, 3) := by decide +kernel
theorem dX7_lay_39 : decode cX7_lay 39 = .ok (.ifCond .ne 6, 3) := by decide +kernel
theorem dX7_lay_42 : decode cX7_lay 42 = .ok (.bipush (-12), 2) := by decide +kernel
theorem dX7_lay_44 : decode cX7_lay 44 = .ok (.ireturn, 1) := by decide +kernel
theorem dX7_lay_45 : decode cX7_lay 45 = .ok (.aload_n 0, 1) := by decide +kernel
theorem dX7_lay_46 : decode cX7_lay 46 = .ok (.getfield 80, 3) := by decide +kernel
theorem dX7_lay_49 : decode cX7_lay 49 = .ok (.bipush 40, 2) := by decide +kernel
theorem dX7_lay_51 : decode cX7_lay 51 = .ok (.iload_n 1, 1) := by decide +kernel
theorem dX7_lay_52 : decode cX7_lay 52 = .ok (.imul, 1) := by decide +kernel
theorem dX7_lay_53 : decode cX7_lay 53 = .ok (.iload_n 2, 1) := by decide +kernel
theorem dX7_lay_54 : decode cX7_lay 54 = .ok (.iadd, 1) := by decide +kernel
theorem dX7_lay_55 : decode cX7_lay 55 = .ok (.aload_n 0, 1) := by decide +kernel
theorem dX7_lay_56 : decode cX7_lay 56 = .ok (.getfield 74, 3) := by decide +kernel
theorem dX7_lay_59 : decode cX7_lay 59 = .ok (.iload_n 1, 1) := by decide +kernel
theorem dX7_lay_60 : decode cX7_lay 60 = .ok (.iaload, 1) := by decide +kernel
theorem dX7_lay_61 : decode cX7_lay 61 = .ok (.ifCond .ne 8, 3) := by decide +kernel
theorem dX7_lay_64 : decode cX7_lay 64 = .ok (.iload_n 3, 1) := by decide +kernel
theorem dX7_lay_65 : decode cX7_lay 65 = .ok (.i2b, 1) := by decide +kernel
theorem dX7_lay_66 : decode cX7_lay 66 = .ok (.goto 19, 3) := by decide +kernel
theorem dX7_lay_69 : decode cX7_lay 69 = .ok (.aload_n 0, 1) := by decide +kernel
theorem dX7_lay_70 : decode cX7_lay 70 = .ok (.getfield 74, 3) := by decide +kernel
theorem dX7_lay_73 : decode cX7_lay 73 = .ok (.iload_n 1, 1) := by decide +kernel
theorem dX7_lay_74 : decode cX7_lay 74 = .ok (.iaload, 1) := by decide +kernel
theorem dX7_lay_75 : decode cX7_lay 75 = .ok (.iconst 1, 1) := by decide +kernel
theorem dX7_lay_76 : decode cX7_lay 76 = .ok (.if_icmp .ne 8, 3) := by decide +kernel
theorem dX7_lay_79 : decode cX7_lay 79 = .ok (.iload_n 3, 1) := by decide +kernel
theorem dX7_lay_80 : decode cX7_lay 80 = .ok (.i2s, 1) := by decide +kernel
theorem dX7_lay_81 : decode cX7_lay 81 = .ok (.goto 4, 3) := by decide +kernel
theorem dX7_lay_84 : decode cX7_lay 84 = .ok (.iload_n 3, 1) := by decide +kernel
theorem dX7_lay_85 : decode cX7_lay 85 = .ok (.iastore, 1) := by decide +kernel
theorem dX7_lay_86 : decode cX7_lay 86 = .ok (.iconst 1, 1) := by decide +kernel
theorem dX7_lay_87 : decode cX7_lay 87 = .ok (.ireturn, 1) := by decide +kernel
theorem dX7_read_0 : decode cX7_read 0 = .ok (.iload_n 1, 1) := by decide +kernel
theorem dX7_read_1 : decode cX7_read 1 = .ok (.iload_n 2, 1) := by decide +kernel
theorem dX7_read_2 : decode cX7_read 2 = .ok (.invokestatic 416, 3) := by decide +kernel
theorem dX7_read_5 : decode cX7_read 5 = .ok (.ifCond .eq 16, 3) := by decide +kernel
theorem dX7_read_8 : decode cX7_read 8 = .ok (.iload 4, 2) := by decide +kernel
theorem dX7_read_10 : decode cX7_read 10 = .ok (.i2l, 1) := by decide +kernel
theorem dX7_read_11 : decode cX7_read 11 = .ok (.lconst 0, 1) := by decide +kernel
theorem dX7_read_12 : decode cX7_read 12 = .ok (.ldc2_w 419, 3) := by decide +kernel
theorem dX7_read_15 : decode cX7_read 15 = .ok (.invokestatic 134, 3) := by decide +kernel
theorem dX7_read_18 : decode cX7_read 18 = .ok (.ifCond .ne 5, 3) := by decide +kernel
theorem dX7_read_21 : decode cX7_read 21 = .ok (.iconst (-1), 1) := by decide +kernel
theorem dX7_read_22 : decode cX7_read 22 = .ok (.ireturn, 1) := by decide +kernel
theorem dX7_read_23 : decode cX7_read 23 = .ok (.iconst 0, 1) := by decide +kernel
theorem dX7_read_24 : decode cX7_read 24 = .ok (.istore 5, 2) := by decide +kernel
theorem dX7_read_26 : decode cX7_read 26 = .ok (.iconst 0, 1) := by decide +kernel
theorem dX7_read_27 : decode cX7_read 27 = .ok (.istore 6, 2) := by decide +kernel
theorem dX7_read_29 : decode cX7_read 29 = .ok (.iconst 0, 1) := by decide +kernel
theorem dX7_read_30 : decode cX7_read 30 = .ok (.istore 7, 2) := by decide +kernel
theorem dX7_read_32 : decode cX7_read 32 = .ok (.iload 7, 2) := by decide +kernel
theorem dX7_read_34 : decode cX7_read 34 = .ok (.iload 4, 2) := by decide +kernel
theorem dX7_read_36 : decode cX7_read 36 = .ok (.if_icmp .ge 163, 3) := by decide +kernel
theorem dX7_read_39 : decode cX7_read 39 = .ok (.iload 5, 2) := by decide +kernel
theorem dX7_read_41 : decode cX7_read 41 = .ok (.ifCond .ne 158, 3) := by decide +kernel
theorem dX7_read_44 : decode cX7_read 44 = .ok (.iconst 0, 1) := by decide +kernel
theorem dX7_read_45 : decode cX7_read 45 = .ok (.istore 8, 2) := by decide +kernel
theorem dX7_read_47 : decode cX7_read 47 = .ok (.iload 8, 2) := by decide +kernel
theorem dX7_read_49 : decode cX7_read 49 = .ok (.iconst 3, 1) := by decide +kernel
theorem dX7_read_50 : decode cX7_read 50 = .ok (.if_icmp .ge 84, 3) := by decide +kernel
theorem dX7_read_53 : decode cX7_read 53 = .ok (.iload 5, 2) := by decide +kernel
theorem dX7_read_55 : decode cX7_read 55 = .ok (.ifCond .ne 79, 3) := by decide +kernel
theorem dX7_read_58 : decode cX7_read 58 = .ok (.iload_n 3, 1) := by decide +kernel
theorem dX7_read_59 : decode cX7_read 59 = .ok (.i2l, 1) := by decide +kernel
theorem dX7_read_60 : decode cX7_read 60 = .ok (.iconst 3, 1) := by decide +kernel
theorem dX7_read_61 : decode cX7_read 61 = .ok (.iload 7, 2) := by decide +kernel
theorem dX7_read_63 : decode cX7_read 63 = .ok (.imul, 1) := by decide +kernel
theorem dX7_read_64 : decode cX7_read 64 = .ok (.i2l, 1) := by decide +kernel
theorem dX7_read_65 : decode cX7_read 65 = .ok (.ladd, 1) := by decide +kernel
theorem dX7_read_66 : decode cX7_read 66 = .ok (.iload 8, 2) := by decide +kernel
theorem dX7_read_68 : decode cX7_read 68 = .ok (.i2l, 1) := by decide +kernel
theorem dX7_read_69 : decode cX7_read 69 = .ok (.ladd, 1) := by decide +kernel
theorem dX7_read_70 : decode cX7_read 70 = .ok (.lstore 9, 2) := by decide +kernel
theorem dX7_read_72 : decode cX7_read 72 = .ok (.aload_n 0, 1) := by decide +kernel
theorem dX7_read_73 : decode cX7_read 73 = .ok (.getfield 74, 3) := by decide +kernel
theorem dX7_read_76 : decode cX7_read 76 = .ok (.iload_n 1, 1) := by decide +kernel
theorem dX7_read_77 : decode cX7_read 77 = .ok (.iaload, 1) := by decide +kernel
theorem dX7_read_78 : decode cX7_read 78 = .ok (.bipush (-4), 2) := by decide +kernel
theorem dX7_read_80 : decode cX7_read 80 = .ok (.if_icmp .ne 7, 3) := by decide +kernel
theorem dX7_read_83 : decode cX7_read 83 = .ok (.iconst 1, 1) := by decide +kernel
theorem dX7_read_84 : decode cX7_read 84 = .ok (.goto 42, 3) := by decide +kernel
theorem dX7_read_87 : decode cX7_read 87 = .ok (.aload_n 0, 1) := by decide +kernel
theorem dX7_read_88 : decode cX7_read 88 = .ok (.getfield 74, 3) := by decide +kernel
theorem dX7_read_91 : decode cX7_read 91 = .ok (.iload_n 1, 1) := by decide +kernel
theorem dX7_read_92 : decode cX7_read 92 = .ok (.iaload, 1) := by decide +kernel
theorem dX7_read_93 : decode cX7_read 93 = .ok (.iload_n 2, 1) := by decide +kernel
theorem dX7_read_94 : decode cX7_read 94 = .ok (.if_icmp .eq 7, 3) := by decide +kernel
theorem dX7_read_97 : decode cX7_read 97 = .ok (.iconst 3, 1) := by decide +kernel
theorem dX7_read_98 : decode cX7_read 98 = .ok (.goto 28, 3) := by decide +kernel
theorem dX7_read_101 : decode cX7_read 101 = .ok (.lload 9, 2) := by decide +kernel
theorem dX7_read_103 : decode cX7_read 103 = .ok (.lconst 0, 1) := by decide +kernel
theorem dX7_read_104 : decode cX7_read 104 = .ok (.lcmp, 1) := by decide +kernel
theorem dX7_read_105 : decode cX7_read 105 = .ok (.ifCond .lt 16, 3) := by decide +kernel
theorem dX7_read_108 : decode cX7_read 108 = .ok (.lload 9, 2) := by decide +kernel
theorem dX7_read_110 : decode cX7_read 110 = .ok (.aload_n 0, 1) := by decide +kernel
theorem dX7_read_111 : decode cX7_read 111 = .ok (.getfield 77, 3) := by decide +kernel
theorem dX7_read_114 : decode cX7_read 114 = .ok (.iload_n 1, 1) := by decide +kernel
theorem dX7_read_115 : decode cX7_read 115 = .ok (.iaload, 1) := by decide +kernel
theorem dX7_read_116 : decode cX7_read 116 = .ok (.i2l, 1) := by decide +kernel
theorem dX7_read_117 : decode cX7_read 117 = .ok (.lcmp, 1) := by decide +kernel
theorem dX7_read_118 : decode cX7_read 118 = .ok (.ifCond .lt 7, 3) := by decide +kernel
theorem dX7_read_121 : decode cX7_read 121 = .ok (.iconst 2, 1) := by decide +kernel
theorem dX7_read_122 : decode cX7_read 122 = .ok (.goto 4, 3) := by decide +kernel
theorem dX7_read_125 : decode cX7_read 125 = .ok (.iconst 0, 1) := by decide +kernel
theorem dX7_read_126 : decode cX7_read 126 = .ok (.istore 5, 2) := by decide +kernel
theorem dX7_read_128 : decode cX7_read 128 = .ok (.iinc 8 1, 3) := by decide +kernel
theorem dX7_read_131 : decode cX7_read 131 = .ok (.goto (-84), 3) := by decide +kernel
theorem dX7_read_134 : decode cX7_read 134 = .ok (.iload 5, 2) := by decide +kernel
theorem dX7_read_136 : decode cX7_read 136 = .ok (.ifCond .ne 57, 3) := by decide +kernel
theorem dX7_read_139 : decode cX7_read 139 = .ok (.bipush 40, 2) := by decide +kernel
theorem dX7_read_141 : decode cX7_read 141 = .ok (.iload_n 1, 1) := by decide +kernel
theorem dX7_read_142 : decode cX7_read 142 = .ok (.imul, 1) := by decide +kernel
theorem dX7_read_143 : decode cX7_read 143 = .ok (.iload_n 3, 1) := by decide +kernel
theorem dX7_read_144 : decode cX7_read 144 = .ok (.iadd, 1) := by decide +kernel
theorem dX7_read_145 : decode cX7_read 145 = .ok (.iconst 3, 1) := by decide +kernel
theorem dX7_read_146 : decode cX7_read 146 = .ok (.iload 7, 2) := by decide +kernel
theorem dX7_read_148 : decode cX7_read 148 = .ok (.imul, 1) := by decide +kernel
theorem dX7_read_149 : decode cX7_read 149 = .ok (.iadd, 1) := by decide +kernel
theorem dX7_read_150 : decode cX7_read 150 = .ok (.istore 8, 2) := by decide +kernel
theorem dX7_read_152 : decode cX7_read 152 = .ok (.aload_n 0, 1) := by decide +kernel
theorem dX7_read_153 : decode cX7_read 153 = .ok (.aload_n 0, 1) := by decide +kernel
theorem dX7_read_154 : decode cX7_read 154 = .ok (.getfield 80, 3) := by decide +kernel
theorem dX7_read_157 : decode cX7_read 157 = .ok (.iload 8, 2) := by decide +kernel
theorem dX7_read_159 : decode cX7_read 159 = .ok (.iaload, 1) := by decide +kernel
theorem dX7_read_160 : decode cX7_read 160 = .ok (.aload_n 0, 1) := by decide +kernel
theorem dX7_read_161 : decode cX7_read 161 = .ok (.getfield 80, 3) := by decide +kernel
theorem dX7_read_164 : decode cX7_read 164 = .ok (.iload 8, 2) := by decide +kernel
theorem dX7_read_166 : decode cX7_read 166 = .ok (.iconst 1, 1) := by decide +kernel
theorem dX7_read_167 : decode cX7_read 167 = .ok (.iadd, 1) := by decide +kernel
theorem dX7_read_168 : decode cX7_read 168 = .ok (.iaload, 1) := by decide +kernel
theorem dX7_read_169 : decode cX7_read 169 = .ok (.aload_n 0, 1) := by decide +kernel
theorem dX7_read_170 : decode cX7_read 170 = .ok (.getfield 80, 3) := by decide +kernel
theorem dX7_read_173 : decode cX7_read 173 = .ok (.iload 8, 2) := by decide +kernel
theorem dX7_read_175 : decode cX7_read 175 = .ok (.iconst 2, 1) := by decide +kernel
theorem dX7_read_176 : decode cX7_read 176 = .ok (.iadd, 1) := by decide +kernel
theorem dX7_read_177 : decode cX7_read 177 = .ok (.iaload, 1) := by decide +kernel
theorem dX7_read_178 : decode cX7_read 178 = .ok (.invokevirtual 313, 3) := by decide +kernel
theorem dX7_read_181 : decode cX7_read 181 = .ok (.ifCond .ne 9, 3) := by decide +kernel
theorem dX7_read_184 : decode cX7_read 184 = .ok (.bipush (-20), 2) := by decide +kernel
theorem dX7_read_186 : decode cX7_read 186 = .ok (.iload 7, 2) := by decide +kernel
theorem dX7_read_188 : decode cX7_read 188 = .ok (.isub, 1) := by decide +kernel
theorem dX7_read_189 : decode cX7_read 189 = .ok (.ireturn, 1) := by decide +kernel
theorem dX7_read_190 : decode cX7_read 190 = .ok (.iinc 6 1, 3) := by decide +kernel
theorem dX7_read_193 : decode cX7_read 193 = .ok (.iinc 7 1, 3) := by decide +kernel
theorem dX7_read_196 : decode cX7_read 196 = .ok (.goto (-164), 3) := by decide +kernel
theorem dX7_read_199 : decode cX7_read 199 = .ok (.aload_n 0, 1) := by decide +kernel
theorem dX7_read_200 : decode cX7_read 200 = .ok (.iload 5, 2) := by decide +kernel
theorem dX7_read_202 : decode cX7_read 202 = .ok (.putfield 421, 3) := by decide +kernel
theorem dX7_read_205 : decode cX7_read 205 = .ok (.iconst 0, 1) := by decide +kernel
theorem dX7_read_206 : decode cX7_read 206 = .ok (.istore 7, 2) := by decide +kernel
theorem dX7_read_208 : decode cX7_read 208 = .ok (.iload 7, 2) := by decide +kernel
theorem dX7_read_210 : decode cX7_read 210 = .ok (.iload 6, 2) := by decide +kernel
theorem dX7_read_212 : decode cX7_read 212 = .ok (.if_icmp .ge 52, 3) := by decide +kernel
theorem dX7_read_215 : decode cX7_read 215 = .ok (.bipush 40, 2) := by decide +kernel
theorem dX7_read_217 : decode cX7_read 217 = .ok (.iload_n 1, 1) := by decide +kernel
theorem dX7_read_218 : decode cX7_read 218 = .ok (.imul, 1) := by decide +kernel
theorem dX7_read_219 : decode cX7_read 219 = .ok (.iload_n 3, 1) := by decide +kernel
theorem dX7_read_220 : decode cX7_read 220 = .ok (.iadd, 1) := by decide +kernel
theorem dX7_read_221 : decode cX7_read 221 = .ok (.iconst 3, 1) := by decide +kernel
theorem dX7_read_222 : decode cX7_read 222 = .ok (.iload 7, 2) := by decide +kernel
theorem dX7_read_224 : decode cX7_read 224 = .ok (.imul, 1) := by decide +kernel
theorem dX7_read_225 : decode cX7_read 225 = .ok (.iadd, 1) := by decide +kernel
theorem dX7_read_226 : decode cX7_read 226 = .ok (.istore 8, 2) := by decide +kernel
theorem dX7_read_228 : decode cX7_read 228 = .ok (.aload_n 0, 1) := by decide +kernel
theorem dX7_read_229 : decode cX7_read 229 = .ok (.aload_n 0, 1) := by decide +kernel
theorem dX7_read_230 : decode cX7_read 230 = .ok (.getfield 80, 3) := by decide +kernel
theorem dX7_read_233 : decode cX7_read 233 = .ok (.iload 8, 2) := by decide +kernel
theorem dX7_read_235 : decode cX7_read 235 = .ok (.iaload, 1) := by decide +kernel
theorem dX7_read_236 : decode cX7_read 236 = .ok (.aload_n 0, 1) := by decide +kernel
theorem dX7_read_237 : decode cX7_read 237 = .ok (.getfield 80, 3) := by decide +kernel
theorem dX7_read_240 : decode cX7_read 240 = .ok (.iload 8, 2) := by decide +kernel
theorem dX7_read_242 : decode cX7_read 242 = .ok (.iconst 1, 1) := by decide +kernel
theorem dX7_read_243 : decode cX7_read 243 = .ok (.iadd, 1) := by decide +kernel
theorem dX7_read_244 : decode cX7_read 244 = .ok (.iaload, 1) := by decide +kernel
theorem dX7_read_245 : decode cX7_read 245 = .ok (.aload_n 0, 1) := by decide +kernel
theorem dX7_read_246 : decode cX7_read 246 = .ok (.getfield 80, 3) := by decide +kernel
theorem dX7_read_249 : decode cX7_read 249 = .ok (.iload 8, 2) := by decide +kernel
theorem dX7_read_251 : decode cX7_read 251 = .ok (.iconst 2, 1) := by decide +kernel
theorem dX7_read_252 : decode cX7_read 252 = .ok (.iadd, 1) := by decide +kernel
theorem dX7_read_253 : decode cX7_read 253 = .ok (.iaload, 1) := by decide +kernel
theorem dX7_read_254 : decode cX7_read 254 = .ok (.invokevirtual 424, 3) := by decide +kernel
theorem dX7_read_257 : decode cX7_read 257 = .ok (.pop, 1) := by decide +kernel
theorem dX7_read_258 : decode cX7_read 258 = .ok (.iinc 7 1, 3) := by decide +kernel
theorem dX7_read_261 : decode cX7_read 261 = .ok (.goto (-53), 3) := by decide +kernel
theorem dX7_read_264 : decode cX7_read 264 = .ok (.iload 6, 2) := by decide +kernel
theorem dX7_read_266 : decode cX7_read 266 = .ok (.ireturn, 1) := by decide +kernel
theorem dX7_torn_0 : decode cX7_torn 0 = .ok (.aload_n 0, 1) := by decide +kernel
theorem dX7_torn_1 : decode cX7_torn 1 = .ok (.getfield 421, 3) := by decide +kernel
theorem dX7_torn_4 : decode cX7_torn 4 = .ok (.ireturn, 1) := by decide +kernel
theorem dX7_count_0 : decode cX7_count 0 = .ok (.iload_n 1, 1) := by decide +kernel
theorem dX7_count_1 : decode cX7_count 1 = .ok (.tableswitch 102 0 5 #[39, 44, 49, 54, 74, 79], 39) := by decide +kernel
theorem dX7_count_40 : decode cX7_count 40 = .ok (.aload_n 0, 1) := by decide +kernel
theorem dX7_count_41 : decode cX7_count 41 = .ok (.getfield 115, 3) := by decide +kernel
theorem dX7_count_44 : decode cX7_count 44 = .ok (.ireturn, 1) := by decide +kernel
theorem dX7_count_45 : decode cX7_count 45 = .ok (.aload_n 0, 1) := by decide +kernel
theorem dX7_count_46 : decode cX7_count 46 = .ok (.getfield 118, 3) := by decide +kernel
theorem dX7_count_49 : decode cX7_count 49 = .ok (.ireturn, 1) := by decide +kernel
theorem dX7_count_50 : decode cX7_count 50 = .ok (.aload_n 0, 1) := by decide +kernel
theorem dX7_count_51 : decode cX7_count 51 = .ok (.getfield 138, 3) := by decide +kernel
theorem dX7_count_54 : decode cX7_count 54 = .ok (.ireturn, 1) := by decide +kernel
theorem dX7_count_55 : decode cX7_count 55 = .ok (.aload_n 0, 1) := by decide +kernel
theorem dX7_count_56 : decode cX7_count 56 = .ok (.getfield 52, 3) := by decide +kernel
theorem dX7_count_59 : decode cX7_count 59 = .ok (.iconst 0, 1) := by decide +kernel
theorem dX7_count_60 : decode cX7_count 60 = .ok (.baload, 1) := by decide +kernel
theorem dX7_count_61 : decode cX7_count 61 = .ok (.invokestatic 270, 3) := by decide +kernel
theorem dX7_count_64 : decode cX7_count 64 = .ok (.aload_n 0, 1) := by decide +kernel
theorem dX7_count_65 : decode cX7_count 65 = .ok (.getfield 52, 3) := by decide +kernel
theorem dX7_count_68 : decode cX7_count 68 = .ok (.iconst 1, 1) := by decide +kernel
theorem dX7_count_69 : decode cX7_count 69 = .ok (.baload, 1) := by decide +kernel
theorem dX7_count_70 : decode cX7_count 70 = .ok (.invokestatic 270, 3) := by decide +kernel
theorem dX7_count_73 : decode cX7_count 73 = .ok (.iadd, 1) := by decide +kernel
theorem dX7_count_74 : decode cX7_count 74 = .ok (.ireturn, 1) := by decide +kernel
theorem dX7_count_75 : decode cX7_count 75 = .ok (.aload_n 0, 1) := by decide +kernel
theorem dX7_count_76 : decode cX7_count 76 = .ok (.getfield 141, 3) := by decide +kernel
theorem dX7_count_79 : decode cX7_count 79 = .ok (.ireturn, 1) := by decide +kernel
theorem dX7_count_80 : decode cX7_count 80 = .ok (.aload_n 0, 1) := by decide +kernel
theorem dX7_count_81 : decode cX7_count 81 = .ok (.getfield 74, 3) := by decide +kernel
theorem dX7_count_84 : decode cX7_count 84 = .ok (.iconst 0, 1) := by decide +kernel
theorem dX7_count_85 : decode cX7_count 85 = .ok (.iaload, 1) := by decide +kernel
theorem dX7_count_86 : decode cX7_count 86 = .ok (.bipush (-4), 2) := by decide +kernel
theorem dX7_count_88 : decode cX7_count 88 = .ok (.if_icmp .ne 8, 3) := by decide +kernel
theorem dX7_count_91 : decode cX7_count 91 = .ok (.bipush (-4), 2) := by decide +kernel
theorem dX7_count_93 : decode cX7_count 93 = .ok (.goto 9, 3) := by decide +kernel
theorem dX7_count_96 : decode cX7_count 96 = .ok (.aload_n 0, 1) := by decide +kernel
theorem dX7_count_97 : decode cX7_count 97 = .ok (.getfield 77, 3) := by decide +kernel
theorem dX7_count_100 : decode cX7_count 100 = .ok (.iconst 0, 1) := by decide +kernel
theorem dX7_count_101 : decode cX7_count 101 = .ok (.iaload, 1) := by decide +kernel
theorem dX7_count_102 : decode cX7_count 102 = .ok (.ireturn, 1) := by decide +kernel
theorem dX7_count_103 : decode cX7_count 103 = .ok (.iconst (-1), 1) := by decide +kernel
theorem dX7_count_104 : decode cX7_count 104 = .ok (.ireturn, 1) := by decide +kernel
theorem dJ9_floorMod_7cf53_0 : decode cJ9_floorMod_7cf53 0 = .ok (.iload_n 0, 1) := by decide +kernel
theorem dJ9_floorMod_7cf53_1 : decode cJ9_floorMod_7cf53 1 = .ok (.iload_n 1, 1) := by decide +kernel
theorem dJ9_floorMod_7cf53_2 : decode cJ9_floorMod_7cf53 2 = .ok (.irem, 1) := by decide +kernel
theorem dJ9_floorMod_7cf53_3 : decode cJ9_floorMod_7cf53 3 = .ok (.istore_n 2, 1) := by decide +kernel
theorem dJ9_floorMod_7cf53_4 : decode cJ9_floorMod_7cf53 4 = .ok (.iload_n 0, 1) := by decide +kernel
theorem dJ9_floorMod_7cf53_5 : decode cJ9_floorMod_7cf53 5 = .ok (.iload_n 1, 1) := by decide +kernel
theorem dJ9_floorMod_7cf53_6 : decode cJ9_floorMod_7cf53 6 = .ok (.ixor, 1) := by decide +kernel
theorem dJ9_floorMod_7cf53_7 : decode cJ9_floorMod_7cf53 7 = .ok (.ifCond .ge 11, 3) := by decide +kernel
theorem dJ9_floorMod_7cf53_10 : decode cJ9_floorMod_7cf53 10 = .ok (.iload_n 2, 1) := by decide +kernel
theorem dJ9_floorMod_7cf53_11 : decode cJ9_floorMod_7cf53 11 = .ok (.ifCond .eq 7, 3) := by decide +kernel
theorem dJ9_floorMod_7cf53_14 : decode cJ9_floorMod_7cf53 14 = .ok (.iload_n 2, 1) := by decide +kernel
theorem dJ9_floorMod_7cf53_15 : decode cJ9_floorMod_7cf53 15 = .ok (.iload_n 1, 1) := by decide +kernel
theorem dJ9_floorMod_7cf53_16 : decode cJ9_floorMod_7cf53 16 = .ok (.iadd, 1) := by decide +kernel
theorem dJ9_floorMod_7cf53_17 : decode cJ9_floorMod_7cf53 17 = .ok (.ireturn, 1) := by decide +kernel
theorem dJ9_floorMod_7cf53_18 : decode cJ9_floorMod_7cf53 18 = .ok (.iload_n 2, 1) := by decide +kernel
theorem dJ9_floorMod_7cf53_19 : decode cJ9_floorMod_7cf53 19 = .ok (.ireturn, 1) := by decide +kernel
theorem dJ9_max_7cf53_0 : decode cJ9_max_7cf53 0 = .ok (.iload_n 0, 1) := by decide +kernel
theorem dJ9_max_7cf53_1 : decode cJ9_max_7cf53 1 = .ok (.iload_n 1, 1) := by decide +kernel
theorem dJ9_max_7cf53_2 : decode cJ9_max_7cf53 2 = .ok (.if_icmp .lt 7, 3) := by decide +kernel
theorem dJ9_max_7cf53_5 : decode cJ9_max_7cf53 5 = .ok (.iload_n 0, 1) := by decide +kernel
theorem dJ9_max_7cf53_6 : decode cJ9_max_7cf53 6 = .ok (.goto 4, 3) := by decide +kernel
theorem dJ9_max_7cf53_9 : decode cJ9_max_7cf53 9 = .ok (.iload_n 1, 1) := by decide +kernel
theorem dJ9_max_7cf53_10 : decode cJ9_max_7cf53 10 = .ok (.ireturn, 1) := by decide +kernel
theorem dJ9_min_7cf53_0 : decode cJ9_min_7cf53 0 = .ok (.iload_n 0, 1) := by decide +kernel
theorem dJ9_min_7cf53_1 : decode cJ9_min_7cf53 1 = .ok (.iload_n 1, 1) := by decide +kernel
theorem dJ9_min_7cf53_2 : decode cJ9_min_7cf53 2 = .ok (.if_icmp .gt 7, 3) := by decide +kernel
theorem dJ9_min_7cf53_5 : decode cJ9_min_7cf53 5 = .ok (.iload_n 0, 1) := by decide +kernel
theorem dJ9_min_7cf53_6 : decode cJ9_min_7cf53 6 = .ok (.goto 4, 3) := by decide +kernel
theorem dJ9_min_7cf53_9 : decode cJ9_min_7cf53 9 = .ok (.iload_n 1, 1) := by decide +kernel
theorem dJ9_min_7cf53_10 : decode cJ9_min_7cf53 10 = .ok (.ireturn, 1) := by decide +kernel
theorem dJ0_length_8abf5_0 : decode cJ0_length_8abf5 0 = .ok (.aload_n 0, 1) := by decide +kernel
theorem dJ0_length_8abf5_1 : decode cJ0_length_8abf5 1 = .ok (.getfield 9, 3) := by decide +kernel
theorem dJ0_length_8abf5_4 : decode cJ0_length_8abf5 4 = .ok (.arraylength, 1) := by decide +kernel
theorem dJ0_length_8abf5_5 : decode cJ0_length_8abf5 5 = .ok (.aload_n 0, 1) := by decide +kernel
theorem dJ0_length_8abf5_6 : decode cJ0_length_8abf5 6 = .ok (.invokevirtual 335, 3) := by decide +kernel
theorem dJ0_length_8abf5_9 : decode cJ0_length_8abf5 9 = .ok (.ishr, 1) := by decide +kernel
theorem dJ0_length_8abf5_10 : decode cJ0_length_8abf5 10 = .ok (.ireturn, 1) := by decide +kernel
theorem dJ0_charAt_5068e_0 : decode cJ0_charAt_5068e 0 = .ok (.aload_n 0, 1) := by decide +kernel
theorem dJ0_charAt_5068e_1 : decode cJ0_charAt_5068e 1 = .ok (.invokevirtual 492, 3) := by decide +kernel
theorem dJ0_charAt_5068e_4 : decode cJ0_charAt_5068e 4 = .ok (.ifCond .eq 12, 3) := by decide +kernel
theorem dJ0_charAt_5068e_7 : decode cJ0_charAt_5068e 7 = .ok (.aload_n 0, 1) := by decide +kernel
theorem dJ0_charAt_5068e_8 : decode cJ0_charAt_5068e 8 = .ok (.getfield 9, 3) := by decide +kernel
theorem dJ0_charAt_5068e_11 : decode cJ0_charAt_5068e 11 = .ok (.iload_n 1, 1) := by decide +kernel
theorem dJ0_charAt_5068e_12 : decode cJ0_charAt_5068e 12 = .ok (.invokestatic 495, 3) := by decide +kernel
theorem dJ0_charAt_5068e_15 : decode cJ0_charAt_5068e 15 = .ok (.ireturn, 1) := by decide +kernel
theorem dJ0_charAt_5068e_16 : decode cJ0_charAt_5068e 16 = .ok (.aload_n 0, 1) := by decide +kernel
theorem dJ0_charAt_5068e_17 : decode cJ0_charAt_5068e 17 = .ok (.getfield 9, 3) := by decide +kernel
theorem dJ0_charAt_5068e_20 : decode cJ0_charAt_5068e 20 = .ok (.iload_n 1, 1) := by decide +kernel
theorem dJ0_charAt_5068e_21 : decode cJ0_charAt_5068e 21 = .ok (.invokestatic 498, 3) := by decide +kernel
theorem dJ0_charAt_5068e_24 : decode cJ0_charAt_5068e 24 = .ok (.ireturn, 1) := by decide +kernel
theorem dJ0_coder_7d493_0 : decode cJ0_coder_7d493 0 = .ok (.getstatic 38, 3) := by decide +kernel
theorem dJ0_coder_7d493_3 : decode cJ0_coder_7d493 3 = .ok (.ifCond .eq 10, 3) := by decide +kernel
theorem dJ0_coder_7d493_6 : decode cJ0_coder_7d493 6 = .ok (.aload_n 0, 1) := by decide +kernel
theorem dJ0_coder_7d493_7 : decode cJ0_coder_7d493 7 = .ok (.getfield 15, 3) := by decide +kernel
theorem dJ0_coder_7d493_10 : decode cJ0_coder_7d493 10 = .ok (.goto 4, 3) := by decide +kernel
theorem dJ0_coder_7d493_13 : decode cJ0_coder_7d493 13 = .ok (.iconst 1, 1) := by decide +kernel
theorem dJ0_coder_7d493_14 : decode cJ0_coder_7d493 14 = .ok (.ireturn, 1) := by decide +kernel
theorem dJ0_isLatin1_aae02_0 : decode cJ0_isLatin1_aae02 0 = .ok (.getstatic 38, 3) := by decide +kernel
theorem dJ0_isLatin1_aae02_3 : decode cJ0_isLatin1_aae02 3 = .ok (.ifCond .eq 14, 3) := by decide +kernel
theorem dJ0_isLatin1_aae02_6 : decode cJ0_isLatin1_aae02 6 = .ok (.aload_n 0, 1) := by decide +kernel
theorem dJ0_isLatin1_aae02_7 : decode cJ0_isLatin1_aae02 7 = .ok (.getfield 15, 3) := by decide +kernel
theorem dJ0_isLatin1_aae02_10 : decode cJ0_isLatin1_aae02 10 = .ok (.ifCond .ne 7, 3) := by decide +kernel
theorem dJ0_isLatin1_aae02_13 : decode cJ0_isLatin1_aae02 13 = .ok (.iconst 1, 1) := by decide +kernel
theorem dJ0_isLatin1_aae02_14 : decode cJ0_isLatin1_aae02 14 = .ok (.goto 4, 3) := by decide +kernel
theorem dJ0_isLatin1_aae02_17 : decode cJ0_isLatin1_aae02 17 = .ok (.iconst 0, 1) := by decide +kernel
theorem dJ0_isLatin1_aae02_18 : decode cJ0_isLatin1_aae02 18 = .ok (.ireturn, 1) := by decide +kernel
theorem dJ0_checkIndex_df160_0 : decode cJ0_checkIndex_df160 0 = .ok (.iload_n 0, 1) := by decide +kernel
theorem dJ0_checkIndex_df160_1 : decode cJ0_checkIndex_df160 1 = .ok (.iload_n 1, 1) := by decide +kernel
theorem dJ0_checkIndex_df160_2 : decode cJ0_checkIndex_df160 2 = .ok (.getstatic 1053, 3) := by decide +kernel
theorem dJ0_checkIndex_df160_5 : decode cJ0_checkIndex_df160 5 = .ok (.invokestatic 1059, 3) := by decide +kernel
theorem dJ0_checkIndex_df160_8 : decode cJ0_checkIndex_df160 8 = .ok (.pop, 1) := by decide +kernel
theorem dJ0_checkIndex_df160_9 : decode cJ0_checkIndex_df160 9 = .ok (.return_, 1) := by decide +kernel
theorem dJ1_charAt_3b067_0 : decode cJ1_charAt_3b067 0 = .ok (.iload_n 1, 1) := by decide +kernel
theorem dJ1_charAt_3b067_1 : decode cJ1_charAt_3b067 1 = .ok (.aload_n 0, 1) := by decide +kernel
theorem dJ1_charAt_3b067_2 : decode cJ1_charAt_3b067 2 = .ok (.arraylength, 1) := by decide +kernel
theorem dJ1_charAt_3b067_3 : decode cJ1_charAt_3b067 3 = .ok (.invokestatic 9, 3) := by decide +kernel
theorem dJ1_charAt_3b067_6 : decode cJ1_charAt_3b067 6 = .ok (.aload_n 0, 1) := by decide +kernel
theorem dJ1_charAt_3b067_7 : decode cJ1_charAt_3b067 7 = .ok (.iload_n 1, 1) := by decide +kernel
theorem dJ1_charAt_3b067_8 : decode cJ1_charAt_3b067 8 = .ok (.baload, 1) := by decide +kernel
theorem dJ1_charAt_3b067_9 : decode cJ1_charAt_3b067 9 = .ok (.sipush 255, 3) := by decide +kernel
theorem dJ1_charAt_3b067_12 : decode cJ1_charAt_3b067 12 = .ok (.iand, 1) := by decide +kernel
theorem dJ1_charAt_3b067_13 : decode cJ1_charAt_3b067 13 = .ok (.i2c, 1) := by decide +kernel
theorem dJ1_charAt_3b067_14 : decode cJ1_charAt_3b067 14 = .ok (.ireturn, 1) := by decide +kernel
theorem dJ2_getChar_3b067_0 : decode cJ2_getChar_3b067 0 = .ok (.getstatic 44, 3) := by decide +kernel
theorem dJ2_getChar_3b067_3 : decode cJ2_getChar_3b067 3 = .ok (.ifCond .ne 25, 3) := by decide +kernel
theorem dJ2_getChar_3b067_6 : decode cJ2_getChar_3b067 6 = .ok (.iload_n 1, 1) := by decide +kernel
theorem dJ2_getChar_3b067_7 : decode cJ2_getChar_3b067 7 = .ok (.ifCond .lt 11, 3) := by decide +kernel
theorem dJ2_getChar_3b067_10 : decode cJ2_getChar_3b067 10 = .ok (.iload_n 1, 1) := by decide +kernel
theorem dJ2_getChar_3b067_11 : decode cJ2_getChar_3b067 11 = .ok (.aload_n 0, 1) := by decide +kernel
theorem dJ2_getChar_3b067_12 : decode cJ2_getChar_3b067 12 = .ok (.invokestatic 48, 3) := by decide +kernel
theorem dJ2_getChar_3b067_15 : decode cJ2_getChar_3b067 15 = .ok (.if_icmp .lt 13, 3) := by decide +kernel
theorem dJ2_getChar_3b067_18 : decode cJ2_getChar_3b067 18 = .ok (.new 52, 3) := by decide +kernel
theorem dJ2_getChar_3b067_21 : decode cJ2_getChar_3b067 21 = .ok (.dup, 1) := by decide +kernel
theorem dJ2_getChar_3b067_22 : decode cJ2_getChar_3b067 22 = .ok (.ldc 54, 2) := by decide +kernel
theorem dJ2_getChar_3b067_24 : decode cJ2_getChar_3b067 24 = .ok (.invokespecial 56, 3) := by decide +kernel
theorem dJ2_getChar_3b067_27 : decode cJ2_getChar_3b067 27 = .ok (.athrow, 1) := by decide +kernel
theorem dJ2_getChar_3b067_28 : decode cJ2_getChar_3b067 28 = .ok (.iload_n 1, 1) := by decide +kernel
theorem dJ2_getChar_3b067_29 : decode cJ2_getChar_3b067 29 = .ok (.iconst 1, 1) := by decide +kernel
theorem dJ2_getChar_3b067_30 : decode cJ2_getChar_3b067 30 = .ok (.ishl, 1) := by decide +kernel
theorem dJ2_getChar_3b067_31 : decode cJ2_getChar_3b067 31 = .ok (.istore_n 1, 1) := by decide +kernel
theorem dJ2_getChar_3b067_32 : decode cJ2_getChar_3b067 32 = .ok (.aload_n 0, 1) := by decide +kernel
theorem dJ2_getChar_3b067_33 : decode cJ2_getChar_3b067 33 = .ok (.iload_n 1, 1) := by decide +kernel
theorem dJ2_getChar_3b067_34 : decode cJ2_getChar_3b067 34 = .ok (.iinc 1 1, 3) := by decide +kernel
theorem dJ2_getChar_3b067_37 : decode cJ2_getChar_3b067 37 = .ok (.baload, 1) := by decide +kernel
theorem dJ2_getChar_3b067_38 : decode cJ2_getChar_3b067 38 = .ok (.sipush 255, 3) := by decide +kernel
theorem dJ2_getChar_3b067_41 : decode cJ2_getChar_3b067 41 = .ok (.iand, 1) := by decide +kernel
theorem dJ2_getChar_3b067_42 : decode cJ2_getChar_3b067 42 = .ok (.getstatic 59, 3) := by decide +kernel
theorem dJ2_getChar_3b067_45 : decode cJ2_getChar_3b067 45 = .ok (.ishl, 1) := by decide +kernel
theorem dJ2_getChar_3b067_46 : decode cJ2_getChar_3b067 46 = .ok (.aload_n 0, 1) := by decide +kernel
theorem dJ2_getChar_3b067_47 : decode cJ2_getChar_3b067 47 = .ok (.iload_n 1, 1) := by decide +kernel
theorem dJ2_getChar_3b067_48 : decode cJ2_getChar_3b067 48 = .ok (.baload, 1) := by decide +kernel
theorem dJ2_getChar_3b067_49 : decode cJ2_getChar_3b067 49 = .ok (.sipush 255, 3) := by decide +kernel
theorem dJ2_getChar_3b067_52 : decode cJ2_getChar_3b067 52 = .ok (.iand, 1) := by decide +kernel
theorem dJ2_getChar_3b067_53 : decode cJ2_getChar_3b067 53 = .ok (.getstatic 63, 3) := by decide +kernel
theorem dJ2_getChar_3b067_56 : decode cJ2_getChar_3b067 56 = .ok (.ishl, 1) := by decide +kernel
theorem dJ2_getChar_3b067_57 : decode cJ2_getChar_3b067 57 = .ok (.ior, 1) := by decide +kernel
theorem dJ2_getChar_3b067_58 : decode cJ2_getChar_3b067 58 = .ok (.i2c, 1) := by decide +kernel
theorem dJ2_getChar_3b067_59 : decode cJ2_getChar_3b067 59 = .ok (.ireturn, 1) := by decide +kernel
theorem dJ2_length_9d52b_0 : decode cJ2_length_9d52b 0 = .ok (.aload_n 0, 1) := by decide +kernel
theorem dJ2_length_9d52b_1 : decode cJ2_length_9d52b 1 = .ok (.arraylength, 1) := by decide +kernel
theorem dJ2_length_9d52b_2 : decode cJ2_length_9d52b 2 = .ok (.iconst 1, 1) := by decide +kernel
theorem dJ2_length_9d52b_3 : decode cJ2_length_9d52b 3 = .ok (.ishr, 1) := by decide +kernel
theorem dJ2_length_9d52b_4 : decode cJ2_length_9d52b 4 = .ok (.ireturn, 1) := by decide +kernel
theorem dJ2_charAt_3b067_0 : decode cJ2_charAt_3b067 0 = .ok (.iload_n 1, 1) := by decide +kernel
theorem dJ2_charAt_3b067_1 : decode cJ2_charAt_3b067 1 = .ok (.aload_n 0, 1) := by decide +kernel
theorem dJ2_charAt_3b067_2 : decode cJ2_charAt_3b067 2 = .ok (.invokestatic 67, 3) := by decide +kernel
theorem dJ2_charAt_3b067_5 : decode cJ2_charAt_3b067 5 = .ok (.aload_n 0, 1) := by decide +kernel
theorem dJ2_charAt_3b067_6 : decode cJ2_charAt_3b067 6 = .ok (.iload_n 1, 1) := by decide +kernel
theorem dJ2_charAt_3b067_7 : decode cJ2_charAt_3b067 7 = .ok (.invokestatic 71, 3) := by decide +kernel
theorem dJ2_charAt_3b067_10 : decode cJ2_charAt_3b067 10 = .ok (.ireturn, 1) := by decide +kernel
theorem dJ2_checkIndex_2214a_0 : decode cJ2_checkIndex_2214a 0 = .ok (.iload_n 0, 1) := by decide +kernel
theorem dJ2_checkIndex_2214a_1 : decode cJ2_checkIndex_2214a 1 = .ok (.aload_n 1, 1) := by decide +kernel
theorem dJ2_checkIndex_2214a_2 : decode cJ2_checkIndex_2214a 2 = .ok (.invokestatic 48, 3) := by decide +kernel
theorem dJ2_checkIndex_2214a_5 : decode cJ2_checkIndex_2214a 5 = .ok (.invokestatic 414, 3) := by decide +kernel
theorem dJ2_checkIndex_2214a_8 : decode cJ2_checkIndex_2214a 8 = .ok (.return_, 1) := by decide +kernel
theorem dJ3_checkIndex_8e157_0 : decode cJ3_checkIndex_8e157 0 = .ok (.iload_n 0, 1) := by decide +kernel
theorem dJ3_checkIndex_8e157_1 : decode cJ3_checkIndex_8e157 1 = .ok (.ifCond .lt 8, 3) := by decide +kernel
theorem dJ3_checkIndex_8e157_4 : decode cJ3_checkIndex_8e157 4 = .ok (.iload_n 0, 1) := by decide +kernel
theorem dJ3_checkIndex_8e157_5 : decode cJ3_checkIndex_8e157 5 = .ok (.iload_n 1, 1) := by decide +kernel
theorem dJ3_checkIndex_8e157_6 : decode cJ3_checkIndex_8e157 6 = .ok (.if_icmp .lt 10, 3) := by decide +kernel
theorem dJ3_checkIndex_8e157_9 : decode cJ3_checkIndex_8e157 9 = .ok (.aload_n 2, 1) := by decide +kernel
theorem dJ3_checkIndex_8e157_10 : decode cJ3_checkIndex_8e157 10 = .ok (.iload_n 0, 1) := by decide +kernel
theorem dJ3_checkIndex_8e157_11 : decode cJ3_checkIndex_8e157 11 = .ok (.iload_n 1, 1) := by decide +kernel
theorem dJ3_checkIndex_8e157_12 : decode cJ3_checkIndex_8e157 12 = .ok (.invokestatic 95, 3) := by decide +kernel
theorem dJ3_checkIndex_8e157_15 : decode cJ3_checkIndex_8e157 15 = .ok (.athrow, 1) := by decide +kernel
theorem dJ3_checkIndex_8e157_16 : decode cJ3_checkIndex_8e157 16 = .ok (.iload_n 0, 1) := by decide +kernel
theorem dJ3_checkIndex_8e157_17 : decode cJ3_checkIndex_8e157 17 = .ok (.ireturn, 1) := by decide +kernel
theorem dL_law_0 : decode cL_law 0 = .ok (.new 7, 3) := by decide +kernel
theorem dL_law_3 : decode cL_law 3 = .ok (.dup, 1) := by decide +kernel
theorem dL_law_4 : decode cL_law 4 = .ok (.invokespecial 9, 3) := by decide +kernel
theorem dL_law_7 : decode cL_law 7 = .ok (.astore_n 1, 1) := by decide +kernel
theorem dL_law_8 : decode cL_law 8 = .ok (.new 10, 3) := by decide +kernel
theorem dL_law_11 : decode cL_law 11 = .ok (.dup, 1) := by decide +kernel
theorem dL_law_12 : decode cL_law 12 = .ok (.invokespecial 12, 3) := by decide +kernel
theorem dL_law_15 : decode cL_law 15 = .ok (.astore_n 2, 1) := by decide +kernel
theorem dL_law_16 : decode cL_law 16 = .ok (.iconst 0, 1) := by decide +kernel
theorem dL_law_17 : decode cL_law 17 = .ok (.istore_n 3, 1) := by decide +kernel
theorem dL_law_18 : decode cL_law 18 = .ok (.iload_n 3, 1) := by decide +kernel
theorem dL_law_19 : decode cL_law 19 = .ok (.aload_n 0, 1) := by decide +kernel
theorem dL_law_20 : decode cL_law 20 = .ok (.arraylength, 1) := by decide +kernel
theorem dL_law_21 : decode cL_law 21 = .ok (.iconst 5, 1) := by decide +kernel
theorem dL_law_22 : decode cL_law 22 = .ok (.isub, 1) := by decide +kernel
theorem dL_law_23 : decode cL_law 23 = .ok (.if_icmp .gt 1244, 3) := by decide +kernel
theorem dL_law_26 : decode cL_law 26 = .ok (.aload_n 0, 1) := by decide +kernel
theorem dL_law_27 : decode cL_law 27 = .ok (.iload_n 3, 1) := by decide +kernel
theorem dL_law_28 : decode cL_law 28 = .ok (.iaload, 1) := by decide +kernel
theorem dL_law_29 : decode cL_law 29 = .ok (.bipush 63, 2) := by decide +kernel
theorem dL_law_31 : decode cL_law 31 = .ok (.iand, 1) := by decide +kernel
theorem dL_law_32 : decode cL_law 32 = .ok (.tableswitch 1229 0 34 #[156, 209, 232, 245, 258, 291, 324, 347, 390, 423, 472, 541, 590, 603, 626, 649, 672, 695, 718, 731, 754, 777, 810, 843, 876, 909, 922, 955, 978, 1021, 1054, 1097, 1140, 1193, 1206], 156) := by decide +kernel
theorem dL_law_188 : decode cL_law 188 = .ok (.aload_n 1, 1) := by decide +kernel
theorem dL_law_189 : decode cL_law 189 = .ok (.aload_n 0, 1) := by decide +kernel
theorem dL_law_190 : decode cL_law 190 = .ok (.iload_n 3, 1) := by decide +kernel
theorem dL_law_191 : decode cL_law 191 = .ok (.iconst 1, 1) := by decide +kernel
theorem dL_law_192 : decode cL_law 192 = .ok (.iadd, 1) := by decide +kernel
theorem dL_law_193 : decode cL_law 193 = .ok (.iaload, 1) := by decide +kernel
theorem dL_law_194 : decode cL_law 194 = .ok (.i2l, 1) := by decide +kernel
theorem dL_law_195 : decode cL_law 195 = .ok (.bipush 32, 2) := by decide +kernel
theorem dL_law_197 : decode cL_law 197 = .ok (.lshl, 1) := by decide +kernel
theorem dL_law_198 : decode cL_law 198 = .ok (.aload_n 0, 1) := by decide +kernel
theorem dL_law_199 : decode cL_law 199 = .ok (.iload_n 3, 1) := by decide +kernel
theorem dL_law_200 : decode cL_law 200 = .ok (.iconst 2, 1) := by decide +kernel
theorem dL_law_201 : decode cL_law 201 = .ok (.iadd, 1) := by decide +kernel
theorem dL_law_202 : decode cL_law 202 = .ok (.iaload, 1) := by decide +kernel
theorem dL_law_203 : decode cL_law 203 = .ok (.i2l, 1) := by decide +kernel
theorem dL_law_204 : decode cL_law 204 = .ok (.ldc2_w 13, 3) := by decide +kernel
theorem dL_law_207 : decode cL_law 207 = .ok (.land, 1) := by decide +kernel
theorem dL_law_208 : decode cL_law 208 = .ok (.lor, 1) := by decide +kernel
theorem dL_law_209 : decode cL_law 209 = .ok (.invokevirtual 15, 3) := by decide +kernel
theorem dL_law_212 : decode cL_law 212 = .ok (.aload_n 2, 1) := by decide +kernel
theorem dL_law_213 : decode cL_law 213 = .ok (.aload_n 0, 1) := by decide +kernel
theorem dL_law_214 : decode cL_law 214 = .ok (.iload_n 3, 1) := by decide +kernel
theorem dL_law_215 : decode cL_law 215 = .ok (.iconst 1, 1) := by decide +kernel
theorem dL_law_216 : decode cL_law 216 = .ok (.iadd, 1) := by decide +kernel
theorem dL_law_217 : decode cL_law 217 = .ok (.iaload, 1) := by decide +kernel
theorem dL_law_218 : decode cL_law 218 = .ok (.i2l, 1) := by decide +kernel
theorem dL_law_219 : decode cL_law 219 = .ok (.bipush 32, 2) := by decide +kernel
theorem dL_law_221 : decode cL_law 221 = .ok (.lshl, 1) := by decide +kernel
theorem dL_law_222 : decode cL_law 222 = .ok (.aload_n 0, 1) := by decide +kernel
theorem dL_law_223 : decode cL_law 223 = .ok (.iload_n 3, 1) := by decide +kernel
theorem dL_law_224 : decode cL_law 224 = .ok (.iconst 2, 1) := by decide +kernel
theorem dL_law_225 : decode cL_law 225 = .ok (.iadd, 1) := by decide +kernel
theorem dL_law_226 : decode cL_law 226 = .ok (.iaload, 1) := by decide +kernel
theorem dL_law_227 : decode cL_law 227 = .ok (.i2l, 1) := by decide +kernel
theorem dL_law_228 : decode cL_law 228 = .ok (.ldc2_w 13, 3) := by decide +kernel
theorem dL_law_231 : decode cL_law 231 = .ok (.land, 1) := by decide +kernel
theorem dL_law_232 : decode cL_law 232 = .ok (.lor, 1) := by decide +kernel
theorem dL_law_233 : decode cL_law 233 = .ok (.invokevirtual 19, 3) := by decide +kernel
theorem dL_law_236 : decode cL_law 236 = .ok (.if_icmp .eq 1025, 3) := by decide +kernel
theorem dL_law_239 : decode cL_law 239 = .ok (.iconst 0, 1) := by decide +kernel
theorem dL_law_240 : decode cL_law 240 = .ok (.ireturn, 1) := by decide +kernel
theorem dL_law_241 : decode cL_law 241 = .ok (.aload_n 1, 1) := by decide +kernel
theorem dL_law_242 : decode cL_law 242 = .ok (.aload_n 0, 1) := by decide +kernel
theorem dL_law_243 : decode cL_law 243 = .ok (.iload_n 3, 1) := by decide +kernel
theorem dL_law_244 : decode cL_law 244 = .ok (.iconst 1, 1) := by decide +kernel
theorem dL_law_245 : decode cL_law 245 = .ok (.iadd, 1) := by decide +kernel
theorem dL_law_246 : decode cL_law 246 = .ok (.iaload, 1) := by decide +kernel
theorem dL_law_247 : decode cL_law 247 = .ok (.invokevirtual 20, 3) := by decide +kernel
theorem dL_law_250 : decode cL_law 250 = .ok (.aload_n 2, 1) := by decide +kernel
theorem dL_law_251 : decode cL_law 251 = .ok (.aload_n 0, 1) := by decide +kernel
theorem dL_law_252 : decode cL_law 252 = .ok (.iload_n 3, 1) := by decide +kernel
theorem dL_law_253 : decode cL_law 253 = .ok (.iconst 1, 1) := by decide +kernel
theorem dL_law_254 : decode cL_law 254 = .ok (.iadd, 1) := by decide +kernel
theorem dL_law_255 : decode cL_law 255 = .ok (.iaload, 1) := by decide +kernel
theorem dL_law_256 : decode cL_law 256 = .ok (.invokevirtual 24, 3) := by decide +kernel
theorem dL_law_259 : decode cL_law 259 = .ok (.if_icmp .eq 1002, 3) := by decide +kernel
theorem dL_law_262 : decode cL_law 262 = .ok (.iconst 0, 1) := by decide +kernel
theorem dL_law_263 : decode cL_law 263 = .ok (.ireturn, 1) := by decide +kernel
theorem dL_law_264 : decode cL_law 264 = .ok (.aload_n 1, 1) := by decide +kernel
theorem dL_law_265 : decode cL_law 265 = .ok (.invokevirtual 25, 3) := by decide +kernel
theorem dL_law_268 : decode cL_law 268 = .ok (.aload_n 2, 1) := by decide +kernel
theorem dL_law_269 : decode cL_law 269 = .ok (.invokevirtual 29, 3) := by decide +kernel
theorem dL_law_272 : decode cL_law 272 = .ok (.if_icmp .eq 989, 3) := by decide +kernel
theorem dL_law_275 : decode cL_law 275 = .ok (.iconst 0, 1) := by decide +kernel
theorem dL_law_276 : decode cL_law 276 = .ok (.ireturn, 1) := by decide +kernel
theorem dL_law_277 : decode cL_law 277 = .ok (.aload_n 1, 1) := by decide +kernel
theorem dL_law_278 : decode cL_law 278 = .ok (.invokevirtual 30, 3) := by decide +kernel
theorem dL_law_281 : decode cL_law 281 = .ok (.aload_n 2, 1) := by decide +kernel
theorem dL_law_282 : decode cL_law 282 = .ok (.invokevirtual 33, 3) := by decide +kernel
theorem dL_law_285 : decode cL_law 285 = .ok (.if_icmp .eq 976, 3) := by decide +kernel
theorem dL_law_288 : decode cL_law 288 = .ok (.iconst 0, 1) := by decide +kernel
theorem dL_law_289 : decode cL_law 289 = .ok (.ireturn, 1) := by decide +kernel
theorem dL_law_290 : decode cL_law 290 = .ok (.aload_n 1, 1) := by decide +kernel
theorem dL_law_291 : decode cL_law 291 = .ok (.aload_n 0, 1) := by decide +kernel
theorem dL_law_292 : decode cL_law 292 = .ok (.iload_n 3, 1) := by decide +kernel
theorem dL_law_293 : decode cL_law 293 = .ok (.iconst 1, 1) := by decide +kernel
theorem dL_law_294 : decode cL_law 294 = .ok (.iadd, 1) := by decide +kernel
theorem dL_law_295 : decode cL_law 295 = .ok (.iaload, 1) := by decide +kernel
theorem dL_law_296 : decode cL_law 296 = .ok (.aload_n 0, 1) := by decide +kernel
theorem dL_law_297 : decode cL_law 297 = .ok (.iload_n 3, 1) := by decide +kernel
theorem dL_law_298 : decode cL_law 298 = .ok (.iconst 2, 1) := by decide +kernel
theorem dL_law_299 : decode cL_law 299 = .ok (.iadd, 1) := by decide +kernel
theorem dL_law_300 : decode cL_law 300 = .ok (.iaload, 1) := by decide +kernel
theorem dL_law_301 : decode cL_law 301 = .ok (.invokevirtual 34, 3) := by decide +kernel
theorem dL_law_304 : decode cL_law 304 = .ok (.aload_n 2, 1) := by decide +kernel
theorem dL_law_305 : decode cL_law 305 = .ok (.aload_n 0, 1) := by decide +kernel
theorem dL_law_306 : decode cL_law 306 = .ok (.iload_n 3, 1) := by decide +kernel
theorem dL_law_307 : decode cL_law 307 = .ok (.iconst 1, 1) := by decide +kernel
theorem dL_law_308 : decode cL_law 308 = .ok (.iadd, 1) := by decide +kernel
theorem dL_law_309 : decode cL_law 309 = .ok (.iaload, 1) := by decide +kernel
theorem dL_law_310 : decode cL_law 310 = .ok (.aload_n 0, 1) := by decide +kernel
theorem dL_law_311 : decode cL_law 311 = .ok (.iload_n 3, 1) := by decide +kernel
theorem dL_law_312 : decode cL_law 312 = .ok (.iconst 2, 1) := by decide +kernel
theorem dL_law_313 : decode cL_law 313 = .ok (.iadd, 1) := by decide +kernel
theorem dL_law_314 : decode cL_law 314 = .ok (.iaload, 1) := by decide +kernel
theorem dL_law_315 : decode cL_law 315 = .ok (.invokevirtual 38, 3) := by decide +kernel
theorem dL_law_318 : decode cL_law 318 = .ok (.if_icmp .eq 943, 3) := by decide +kernel
theorem dL_law_321 : decode cL_law 321 = .ok (.iconst 0, 1) := by decide +kernel
theorem dL_law_322 : decode cL_law 322 = .ok (.ireturn, 1) := by decide +kernel
theorem dL_law_323 : decode cL_law 323 = .ok (.aload_n 1, 1) := by decide +kernel
theorem dL_law_324 : decode cL_law 324 = .ok (.aload_n 0, 1) := by decide +kernel
theorem dL_law_325 : decode cL_law 325 = .ok (.iload_n 3, 1) := by decide +kernel
theorem dL_law_326 : decode cL_law 326 = .ok (.iconst 1, 1) := by decide +kernel
theorem dL_law_327 : decode cL_law 327 = .ok (.iadd, 1) := by decide +kernel
theorem dL_law_328 : decode cL_law 328 = .ok (.iaload, 1) := by decide +kernel
theorem dL_law_329 : decode cL_law 329 = .ok (.aload_n 0, 1) := by decide +kernel
theorem dL_law_330 : decode cL_law 330 = .ok (.iload_n 3, 1) := by decide +kernel
theorem dL_law_331 : decode cL_law 331 = .ok (.iconst 2, 1) := by decide +kernel
theorem dL_law_332 : decode cL_law 332 = .ok (.iadd, 1) := by decide +kernel
theorem dL_law_333 : decode cL_law 333 = .ok (.iaload, 1) := by decide +kernel
theorem dL_law_334 : decode cL_law 334 = .ok (.invokevirtual 39, 3) := by decide +kernel
theorem dL_law_337 : decode cL_law 337 = .ok (.aload_n 2, 1) := by decide +kernel
theorem dL_law_338 : decode cL_law 338 = .ok (.aload_n 0, 1) := by decide +kernel
theorem dL_law_339 : decode cL_law 339 = .ok (.iload_n 3, 1) := by decide +kernel
theorem dL_law_340 : decode cL_law 340 = .ok (.iconst 1, 1) := by decide +kernel
theorem dL_law_341 : decode cL_law 341 = .ok (.iadd, 1) := by decide +kernel
theorem dL_law_342 : decode cL_law 342 = .ok (.iaload, 1) := by decide +kernel
theorem dL_law_343 : decode cL_law 343 = .ok (.aload_n 0, 1) := by decide +kernel
theorem dL_law_344 : decode cL_law 344 = .ok (.iload_n 3, 1) := by decide +kernel
theorem dL_law_345 : decode cL_law 345 = .ok (.iconst 2, 1) := by decide +kernel
theorem dL_law_346 : decode cL_law 346 = .ok (.iadd, 1) := by decide +kernel
theorem dL_law_347 : decode cL_law 347 = .ok (.iaload, 1) := by decide +kernel
theorem dL_law_348 : decode cL_law 348 = .ok (.invokevirtual 42, 3) := by decide +kernel
theorem dL_law_351 : decode cL_law 351 = .ok (.if_icmp .eq 910, 3) := by decide +kernel
theorem dL_law_354 : decode cL_law 354 = .ok (.iconst 0, 1) := by decide +kernel
theorem dL_law_355 : decode cL_law 355 = .ok (.ireturn, 1) := by decide +kernel
theorem dL_law_356 : decode cL_law 356 = .ok (.aload_n 1, 1) := by decide +kernel
theorem dL_law_357 : decode cL_law 357 = .ok (.aload_n 0, 1) := by decide +kernel
theorem dL_law_358 : decode cL_law 358 = .ok (.iload_n 3, 1) := by decide +kernel
theorem dL_law_359 : decode cL_law 359 = .ok (.iconst 1, 1) := by decide +kernel
theorem dL_law_360 : decode cL_law 360 = .ok (.iadd, 1) := by decide +kernel
theorem dL_law_361 : decode cL_law 361 = .ok (.iaload, 1) := by decide +kernel
theorem dL_law_362 : decode cL_law 362 = .ok (.invokevirtual 43, 3) := by decide +kernel
theorem dL_law_365 : decode cL_law 365 = .ok (.aload_n 2, 1) := by decide +kernel
theorem dL_law_366 : decode cL_law 366 = .ok (.aload_n 0, 1) := by decide +kernel
theorem dL_law_367 : decode cL_law 367 = .ok (.iload_n 3, 1) := by decide +kernel
theorem dL_law_368 : decode cL_law 368 = .ok (.iconst 1, 1) := by decide +kernel
theorem dL_law_369 : decode cL_law 369 = .ok (.iadd, 1) := by decide +kernel
theorem dL_law_370 : decode cL_law 370 = .ok (.iaload, 1) := by decide +kernel
theorem dL_law_371 : decode cL_law 371 = .ok (.invokevirtual 46, 3) := by decide +kernel
theorem dL_law_374 : decode cL_law 374 = .ok (.if_icmp .eq 887, 3) := by decide +kernel
theorem dL_law_377 : decode cL_law 377 = .ok (.iconst 0, 1) := by decide +kernel
theorem dL_law_378 : decode cL_law 378 = .ok (.ireturn, 1) := by decide +kernel
theorem dL_law_379 : decode cL_law 379 = .ok (.aload_n 1, 1) := by decide +kernel
theorem dL_law_380 : decode cL_law 380 = .ok (.aload_n 0, 1) := by decide +kernel
theorem dL_law_381 : decode cL_law 381 = .ok (.iload_n 3, 1) := by decide +kernel
theorem dL_law_382 : decode cL_law 382 = .ok (.iconst 1, 1) := by decide +kernel
theorem dL_law_383 : decode cL_law 383 = .ok (.iadd, 1) := by decide +kernel
theorem dL_law_384 : decode cL_law 384 = .ok (.iaload, 1) := by decide +kernel
theorem dL_law_385 : decode cL_law 385 = .ok (.aload_n 0, 1) := by decide +kernel
theorem dL_law_386 : decode cL_law 386 = .ok (.iload_n 3, 1) := by decide +kernel
theorem dL_law_387 : decode cL_law 387 = .ok (.iconst 2, 1) := by decide +kernel
theorem dL_law_388 : decode cL_law 388 = .ok (.iadd, 1) := by decide +kernel
theorem dL_law_389 : decode cL_law 389 = .ok (.iaload, 1) := by decide +kernel
theorem dL_law_390 : decode cL_law 390 = .ok (.aload_n 0, 1) := by decide +kernel
theorem dL_law_391 : decode cL_law 391 = .ok (.iload_n 3, 1) := by decide +kernel
theorem dL_law_392 : decode cL_law 392 = .ok (.iconst 3, 1) := by decide +kernel
theorem dL_law_393 : decode cL_law 393 = .ok (.iadd, 1) := by decide +kernel
theorem dL_law_394 : decode cL_law 394 = .ok (.iaload, 1) := by decide +kernel
theorem dL_law_395 : decode cL_law 395 = .ok (.invokevirtual 47, 3) := by decide +kernel
theorem dL_law_398 : decode cL_law 398 = .ok (.aload_n 2, 1) := by decide +kernel
theorem dL_law_399 : decode cL_law 399 = .ok (.aload_n 0, 1) := by decide +kernel
theorem dL_law_400 : decode cL_law 400 = .ok (.iload_n 3, 1) := by decide +kernel
theorem dL_law_401 : decode cL_law 401 = .ok (.iconst 1, 1) := by decide +kernel
theorem dL_law_402 : decode cL_law 402 = .ok (.iadd, 1) := by decide +kernel
theorem dL_law_403 : decode cL_law 403 = .ok (.iaload, 1) := by decide +kernel
theorem dL_law_404 : decode cL_law 404 = .ok (.aload_n 0, 1) := by decide +kernel
theorem dL_law_405 : decode cL_law 405 = .ok (.iload_n 3, 1) := by decide +kernel
theorem dL_law_406 : decode cL_law 406 = .ok (.iconst 2, 1) := by decide +kernel
theorem dL_law_407 : decode cL_law 407 = .ok (.iadd, 1) := by decide +kernel
theorem dL_law_408 : decode cL_law 408 = .ok (.iaload, 1) := by decide +kernel
theorem dL_law_409 : decode cL_law 409 = .ok (.aload_n 0, 1) := by decide +kernel
theorem dL_law_410 : decode cL_law 410 = .ok (.iload_n 3, 1) := by decide +kernel
theorem dL_law_411 : decode cL_law 411 = .ok (.iconst 3, 1) := by decide +kernel
theorem dL_law_412 : decode cL_law 412 = .ok (.iadd, 1) := by decide +kernel
theorem dL_law_413 : decode cL_law 413 = .ok (.iaload, 1) := by decide +kernel
theorem dL_law_414 : decode cL_law 414 = .ok (.invokevirtual 51, 3) := by decide +kernel
theorem dL_law_417 : decode cL_law 417 = .ok (.if_icmp .eq 844, 3) := by decide +kernel
theorem dL_law_420 : decode cL_law 420 = .ok (.iconst 0, 1) := by decide +kernel
theorem dL_law_421 : decode cL_law 421 = .ok (.ireturn, 1) := by decide +kernel
theorem dL_law_422 : decode cL_law 422 = .ok (.aload_n 1, 1) := by decide +kernel
theorem dL_law_423 : decode cL_law 423 = .ok (.aload_n 0, 1) := by decide +kernel
theorem dL_law_424 : decode cL_law 424 = .ok (.iload_n 3, 1) := by decide +kernel
theorem dL_law_425 : decode cL_law 425 = .ok (.iconst 1, 1) := by decide +kernel
theorem dL_law_426 : decode cL_law 426 = .ok (.iadd, 1) := by decide +kernel
theorem dL_law_427 : decode cL_law 427 = .ok (.iaload, 1) := by decide +kernel
theorem dL_law_428 : decode cL_law 428 = .ok (.aload_n 0, 1) := by decide +kernel
theorem dL_law_429 : decode cL_law 429 = .ok (.iload_n 3, 1) := by decide +kernel
theorem dL_law_430 : decode cL_law 430 = .ok (.iconst 2, 1) := by decide +kernel
theorem dL_law_431 : decode cL_law 431 = .ok (.iadd, 1) := by decide +kernel
theorem dL_law_432 : decode cL_law 432 = .ok (.iaload, 1) := by decide +kernel
theorem dL_law_433 : decode cL_law 433 = .ok (.invokevirtual 52, 3) := by decide +kernel
theorem dL_law_436 : decode cL_law 436 = .ok (.aload_n 2, 1) := by decide +kernel
theorem dL_law_437 : decode cL_law 437 = .ok (.aload_n 0, 1) := by decide +kernel
theorem dL_law_438 : decode cL_law 438 = .ok (.iload_n 3, 1) := by decide +kernel
theorem dL_law_439 : decode cL_law 439 = .ok (.iconst 1, 1) := by decide +kernel
theorem dL_law_440 : decode cL_law 440 = .ok (.iadd, 1) := by decide +kernel
theorem dL_law_441 : decode cL_law 441 = .ok (.iaload, 1) := by decide +kernel
theorem dL_law_442 : decode cL_law 442 = .ok (.aload_n 0, 1) := by decide +kernel
theorem dL_law_443 : decode cL_law 443 = .ok (.iload_n 3, 1) := by decide +kernel
theorem dL_law_444 : decode cL_law 444 = .ok (.iconst 2, 1) := by decide +kernel
theorem dL_law_445 : decode cL_law 445 = .ok (.iadd, 1) := by decide +kernel
theorem dL_law_446 : decode cL_law 446 = .ok (.iaload, 1) := by decide +kernel
theorem dL_law_447 : decode cL_law 447 = .ok (.invokevirtual 55, 3) := by decide +kernel
theorem dL_law_450 : decode cL_law 450 = .ok (.if_icmp .eq 811, 3) := by decide +kernel
theorem dL_law_453 : decode cL_law 453 = .ok (.iconst 0, 1) := by decide +kernel
theorem dL_law_454 : decode cL_law 454 = .ok (.ireturn, 1) := by decide +kernel
theorem dL_law_455 : decode cL_law 455 = .ok (.aload_n 1, 1) := by decide +kernel
theorem dL_law_456 : decode cL_law 456 = .ok (.aload_n 0, 1) := by decide +kernel
theorem dL_law_457 : decode cL_law 457 = .ok (.iload_n 3, 1) := by decide +kernel
theorem dL_law_458 : decode cL_law 458 = .ok (.iconst 1, 1) := by decide +kernel
theorem dL_law_459 : decode cL_law 459 = .ok (.iadd, 1) := by decide +kernel
theorem dL_law_460 : decode cL_law 460 = .ok (.iaload, 1) := by decide +kernel
theorem dL_law_461 : decode cL_law 461 = .ok (.aload_n 0, 1) := by decide +kernel
theorem dL_law_462 : decode cL_law 462 = .ok (.iload_n 3, 1) := by decide +kernel
theorem dL_law_463 : decode cL_law 463 = .ok (.iconst 2, 1) := by decide +kernel
theorem dL_law_464 : decode cL_law 464 = .ok (.iadd, 1) := by decide +kernel
theorem dL_law_465 : decode cL_law 465 = .ok (.iaload, 1) := by decide +kernel
theorem dL_law_466 : decode cL_law 466 = .ok (.ifCond .eq 7, 3) := by decide +kernel
theorem dL_law_469 : decode cL_law 469 = .ok (.iconst 1, 1) := by decide +kernel
theorem dL_law_470 : decode cL_law 470 = .ok (.goto 4, 3) := by decide +kernel
theorem dL_law_473 : decode cL_law 473 = .ok (.iconst 0, 1) := by decide +kernel
theorem dL_law_474 : decode cL_law 474 = .ok (.invokevirtual 56, 3) := by decide +kernel
theorem dL_law_477 : decode cL_law 477 = .ok (.aload_n 2, 1) := by decide +kernel
theorem dL_law_478 : decode cL_law 478 = .ok (.aload_n 0, 1) := by decide +kernel
theorem dL_law_479 : decode cL_law 479 = .ok (.iload_n 3, 1) := by decide +kernel
theorem dL_law_480 : decode cL_law 480 = .ok (.iconst 1, 1) := by decide +kernel
theorem dL_law_481 : decode cL_law 481 = .ok (.iadd, 1) := by decide +kernel
theorem dL_law_482 : decode cL_law 482 = .ok (.iaload, 1) := by decide +kernel
theorem dL_law_483 : decode cL_law 483 = .ok (.aload_n 0, 1) := by decide +kernel
theorem dL_law_484 : decode cL_law 484 = .ok (.iload_n 3, 1) := by decide +kernel
theorem dL_law_485 : decode cL_law 485 = .ok (.iconst 2, 1) := by decide +kernel
theorem dL_law_486 : decode cL_law 486 = .ok (.iadd, 1) := by decide +kernel
theorem dL_law_487 : decode cL_law 487 = .ok (.iaload, 1) := by decide +kernel
theorem dL_law_488 : decode cL_law 488 = .ok (.ifCond .eq 7, 3) := by decide +kernel
theorem dL_law_491 : decode cL_law 491 = .ok (.iconst 1, 1) := by decide +kernel
theorem dL_law_492 : decode cL_law 492 = .ok (.goto 4, 3) := by decide +kernel
theorem dL_law_495 : decode cL_law 495 = .ok (.iconst 0, 1) := by decide +kernel
theorem dL_law_496 : decode cL_law 496 = .ok (.invokevirtual 60, 3) := by decide +kernel
theorem dL_law_499 : decode cL_law 499 = .ok (.if_icmp .eq 762, 3) := by decide +kernel
theorem dL_law_502 : decode cL_law 502 = .ok (.iconst 0, 1) := by decide +kernel
theorem dL_law_503 : decode cL_law 503 = .ok (.ireturn, 1) := by decide +kernel
theorem dL_law_504 : decode cL_law 504 = .ok (.aload_n 1, 1) := by decide +kernel
theorem dL_law_505 : decode cL_law 505 = .ok (.aload_n 0, 1) := by decide +kernel
theorem dL_law_506 : decode cL_law 506 = .ok (.iload_n 3, 1) := by decide +kernel
theorem dL_law_507 : decode cL_law 507 = .ok (.iconst 1, 1) := by decide +kernel
theorem dL_law_508 : decode cL_law 508 = .ok (.iadd, 1) := by decide +kernel
theorem dL_law_509 : decode cL_law 509 = .ok (.iaload, 1) := by decide +kernel
theorem dL_law_510 : decode cL_law 510 = .ok (.aload_n 0, 1) := by decide +kernel
theorem dL_law_511 : decode cL_law 511 = .ok (.iload_n 3, 1) := by decide +kernel
theorem dL_law_512 : decode cL_law 512 = .ok (.iconst 2, 1) := by decide +kernel
theorem dL_law_513 : decode cL_law 513 = .ok (.iadd, 1) := by decide +kernel
theorem dL_law_514 : decode cL_law 514 = .ok (.iaload, 1) := by decide +kernel
theorem dL_law_515 : decode cL_law 515 = .ok (.ifCond .eq 7, 3) := by decide +kernel
theorem dL_law_518 : decode cL_law 518 = .ok (.iconst 1, 1) := by decide +kernel
theorem dL_law_519 : decode cL_law 519 = .ok (.goto 4, 3) := by decide +kernel
theorem dL_law_522 : decode cL_law 522 = .ok (.iconst 0, 1) := by decide +kernel
theorem dL_law_523 : decode cL_law 523 = .ok (.aload_n 0, 1) := by decide +kernel
theorem dL_law_524 : decode cL_law 524 = .ok (.iload_n 3, 1) := by decide +kernel
theorem dL_law_525 : decode cL_law 525 = .ok (.iconst 3, 1) := by decide +kernel
theorem dL_law_526 : decode cL_law 526 = .ok (.iadd, 1) := by decide +kernel
theorem dL_law_527 : decode cL_law 527 = .ok (.iaload, 1) := by decide +kernel
theorem dL_law_528 : decode cL_law 528 = .ok (.aload_n 0, 1) := by decide +kernel
theorem dL_law_529 : decode cL_law 529 = .ok (.iload_n 3, 1) := by decide +kernel
theorem dL_law_530 : decode cL_law 530 = .ok (.iconst 4, 1) := by decide +kernel
theorem dL_law_531 : decode cL_law 531 = .ok (.iadd, 1) := by decide +kernel
theorem dL_law_532 : decode cL_law 532 = .ok (.iaload, 1) := by decide +kernel
theorem dL_law_533 : decode cL_law 533 = .ok (.invokevirtual 61, 3) := by decide +kernel
theorem dL_law_536 : decode cL_law 536 = .ok (.aload_n 2, 1) := by decide +kernel
theorem dL_law_537 : decode cL_law 537 = .ok (.aload_n 0, 1) := by decide +kernel
theorem dL_law_538 : decode cL_law 538 = .ok (.iload_n 3, 1) := by decide +kernel
theorem dL_law_539 : decode cL_law 539 = .ok (.iconst 1, 1) := by decide +kernel
theorem dL_law_540 : decode cL_law 540 = .ok (.iadd, 1) := by decide +kernel
theorem dL_law_541 : decode cL_law 541 = .ok (.iaload, 1) := by decide +kernel
theorem dL_law_542 : decode cL_law 542 = .ok (.aload_n 0, 1) := by decide +kernel
theorem dL_law_543 : decode cL_law 543 = .ok (.iload_n 3, 1) := by decide +kernel
theorem dL_law_544 : decode cL_law 544 = .ok (.iconst 2, 1) := by decide +kernel
theorem dL_law_545 : decode cL_law 545 = .ok (.iadd, 1) := by decide +kernel
theorem dL_law_546 : decode cL_law 546 = .ok (.iaload, 1) := by decide +kernel
theorem dL_law_547 : decode cL_law 547 = .ok (.ifCond .eq 7, 3) := by decide +kernel
theorem dL_law_550 : decode cL_law 550 = .ok (.iconst 1, 1) := by decide +kernel
theorem dL_law_551 : decode cL_law 551 = .ok (.goto 4, 3) := by decide +kernel
theorem dL_law_554 : decode cL_law 554 = .ok (.iconst 0, 1) := by decide +kernel
theorem dL_law_555 : decode cL_law 555 = .ok (.aload_n 0, 1) := by decide +kernel
theorem dL_law_556 : decode cL_law 556 = .ok (.iload_n 3, 1) := by decide +kernel
theorem dL_law_557 : decode cL_law 557 = .ok (.iconst 3, 1) := by decide +kernel
theorem dL_law_558 : decode cL_law 558 = .ok (.iadd, 1) := by decide +kernel
theorem dL_law_559 : decode cL_law 559 = .ok (.iaload, 1) := by decide +kernel
theorem dL_law_560 : decode cL_law 560 = .ok (.aload_n 0, 1) := by decide +kernel
theorem dL_law_561 : decode cL_law 561 = .ok (.iload_n 3, 1) := by decide +kernel
theorem dL_law_562 : decode cL_law 562 = .ok (.iconst 4, 1) := by decide +kernel
theorem dL_law_563 : decode cL_law 563 = .ok (.iadd, 1) := by decide +kernel
theorem dL_law_564 : decode cL_law 564 = .ok (.iaload, 1) := by decide +kernel
theorem dL_law_565 : decode cL_law 565 = .ok (.invokevirtual 65, 3) := by decide +kernel
theorem dL_law_568 : decode cL_law 568 = .ok (.if_icmp .eq 693, 3) := by decide +kernel
theorem dL_law_571 : decode cL_law 571 = .ok (.iconst 0, 1) := by decide +kernel
theorem dL_law_572 : decode cL_law 572 = .ok (.ireturn, 1) := by decide +kernel
theorem dL_law_573 : decode cL_law 573 = .ok (.aload_n 1, 1) := by decide +kernel
theorem dL_law_574 : decode cL_law 574 = .ok (.aload_n 0, 1) := by decide +kernel
theorem dL_law_575 : decode cL_law 575 = .ok (.iload_n 3, 1) := by decide +kernel
theorem dL_law_576 : decode cL_law 576 = .ok (.iconst 1, 1) := by decide +kernel
theorem dL_law_577 : decode cL_law 577 = .ok (.iadd, 1) := by decide +kernel
theorem dL_law_578 : decode cL_law 578 = .ok (.iaload, 1) := by decide +kernel
theorem dL_law_579 : decode cL_law 579 = .ok (.aload_n 0, 1) := by decide +kernel
theorem dL_law_580 : decode cL_law 580 = .ok (.iload_n 3, 1) := by decide +kernel
theorem dL_law_581 : decode cL_law 581 = .ok (.iconst 2, 1) := by decide +kernel
theorem dL_law_582 : decode cL_law 582 = .ok (.iadd, 1) := by decide +kernel
theorem dL_law_583 : decode cL_law 583 = .ok (.iaload, 1) := by decide +kernel
theorem dL_law_584 : decode cL_law 584 = .ok (.ifCond .eq 7, 3) := by decide +kernel
theorem dL_law_587 : decode cL_law 587 = .ok (.iconst 1, 1) := by decide +kernel
theorem dL_law_588 : decode cL_law 588 = .ok (.goto 4, 3) := by decide +kernel
theorem dL_law_591 : decode cL_law 591 = .ok (.iconst 0, 1) := by decide +kernel
theorem dL_law_592 : decode cL_law 592 = .ok (.invokevirtual 66, 3) := by decide +kernel
theorem dL_law_595 : decode cL_law 595 = .ok (.aload_n 2, 1) := by decide +kernel
theorem dL_law_596 : decode cL_law 596 = .ok (.aload_n 0, 1) := by decide +kernel
theorem dL_law_597 : decode cL_law 597 = .ok (.iload_n 3, 1) := by decide +kernel
theorem dL_law_598 : decode cL_law 598 = .ok (.iconst 1, 1) := by decide +kernel
theorem dL_law_599 : decode cL_law 599 = .ok (.iadd, 1) := by decide +kernel
theorem dL_law_600 : decode cL_law 600 = .ok (.iaload, 1) := by decide +kernel
theorem dL_law_601 : decode cL_law 601 = .ok (.aload_n 0, 1) := by decide +kernel
theorem dL_law_602 : decode cL_law 602 = .ok (.iload_n 3, 1) := by decide +kernel
theorem dL_law_603 : decode cL_law 603 = .ok (.iconst 2, 1) := by decide +kernel
theorem dL_law_604 : decode cL_law 604 = .ok (.iadd, 1) := by decide +kernel
theorem dL_law_605 : decode cL_law 605 = .ok (.iaload, 1) := by decide +kernel
theorem dL_law_606 : decode cL_law 606 = .ok (.ifCond .eq 7, 3) := by decide +kernel
theorem dL_law_609 : decode cL_law 609 = .ok (.iconst 1, 1) := by decide +kernel
theorem dL_law_610 : decode cL_law 610 = .ok (.goto 4, 3) := by decide +kernel
theorem dL_law_613 : decode cL_law 613 = .ok (.iconst 0, 1) := by decide +kernel
theorem dL_law_614 : decode cL_law 614 = .ok (.invokevirtual 69, 3) := by decide +kernel
theorem dL_law_617 : decode cL_law 617 = .ok (.if_icmp .eq 644, 3) := by decide +kernel
theorem dL_law_620 : decode cL_law 620 = .ok (.iconst 0, 1) := by decide +kernel
theorem dL_law_621 : decode cL_law 621 = .ok (.ireturn, 1) := by decide +kernel
theorem dL_law_622 : decode cL_law 622 = .ok (.aload_n 1, 1) := by decide +kernel
theorem dL_law_623 : decode cL_law 623 = .ok (.invokevirtual 70, 3) := by decide +kernel
theorem dL_law_626 : decode cL_law 626 = .ok (.aload_n 2, 1) := by decide +kernel
theorem dL_law_627 : decode cL_law 627 = .ok (.invokevirtual 73, 3) := by decide +kernel
theorem dL_law_630 : decode cL_law 630 = .ok (.if_icmp .eq 631, 3) := by decide +kernel
theorem dL_law_633 : decode cL_law 633 = .ok (.iconst 0, 1) := by decide +kernel
theorem dL_law_634 : decode cL_law 634 = .ok (.ireturn, 1) := by decide +kernel
theorem dL_law_635 : decode cL_law 635 = .ok (.aload_n 1, 1) := by decide +kernel
theorem dL_law_636 : decode cL_law 636 = .ok (.aload_n 0, 1) := by decide +kernel
theorem dL_law_637 : decode cL_law 637 = .ok (.iload_n 3, 1) := by decide +kernel
theorem dL_law_638 : decode cL_law 638 = .ok (.iconst 1, 1) := by decide +kernel
theorem dL_law_639 : decode cL_law 639 = .ok (.iadd, 1) := by decide +kernel
theorem dL_law_640 : decode cL_law 640 = .ok (.iaload, 1) := by decide +kernel
theorem dL_law_641 : decode cL_law 641 = .ok (.invokevirtual 74, 3) := by decide +kernel
theorem dL_law_644 : decode cL_law 644 = .ok (.aload_n 2, 1) := by decide +kernel
theorem dL_law_645 : decode cL_law 645 = .ok (.aload_n 0, 1) := by decide +kernel
theorem dL_law_646 : decode cL_law 646 = .ok (.iload_n 3, 1) := by decide +kernel
theorem dL_law_647 : decode cL_law 647 = .ok (.iconst 1, 1) := by decide +kernel
theorem dL_law_648 : decode cL_law 648 = .ok (.iadd, 1) := by decide +kernel
theorem dL_law_649 : decode cL_law 649 = .ok (.iaload, 1) := by decide +kernel
theorem dL_law_650 : decode cL_law 650 = .ok (.invokevirtual 77, 3) := by decide +kernel
theorem dL_law_653 : decode cL_law 653 = .ok (.if_icmp .eq 608, 3) := by decide +kernel
theorem dL_law_656 : decode cL_law 656 = .ok (.iconst 0, 1) := by decide +kernel
theorem dL_law_657 : decode cL_law 657 = .ok (.ireturn, 1) := by decide +kernel
theorem dL_law_658 : decode cL_law 658 = .ok (.aload_n 1, 1) := by decide +kernel
theorem dL_law_659 : decode cL_law 659 = .ok (.aload_n 0, 1) := by decide +kernel
theorem dL_law_660 : decode cL_law 660 = .ok (.iload_n 3, 1) := by decide +kernel
theorem dL_law_661 : decode cL_law 661 = .ok (.iconst 1, 1) := by decide +kernel
theorem dL_law_662 : decode cL_law 662 = .ok (.iadd, 1) := by decide +kernel
theorem dL_law_663 : decode cL_law 663 = .ok (.iaload, 1) := by decide +kernel
theorem dL_law_664 : decode cL_law 664 = .ok (.invokevirtual 78, 3) := by decide +kernel
theorem dL_law_667 : decode cL_law 667 = .ok (.aload_n 2, 1) := by decide +kernel
theorem dL_law_668 : decode cL_law 668 = .ok (.aload_n 0, 1) := by decide +kernel
theorem dL_law_669 : decode cL_law 669 = .ok (.iload_n 3, 1) := by decide +kernel
theorem dL_law_670 : decode cL_law 670 = .ok (.iconst 1, 1) := by decide +kernel
theorem dL_law_671 : decode cL_law 671 = .ok (.iadd, 1) := by decide +kernel
theorem dL_law_672 : decode cL_law 672 = .ok (.iaload, 1) := by decide +kernel
theorem dL_law_673 : decode cL_law 673 = .ok (.invokevirtual 81, 3) := by decide +kernel
theorem dL_law_676 : decode cL_law 676 = .ok (.if_icmp .eq 585, 3) := by decide +kernel
theorem dL_law_679 : decode cL_law 679 = .ok (.iconst 0, 1) := by decide +kernel
theorem dL_law_680 : decode cL_law 680 = .ok (.ireturn, 1) := by decide +kernel
theorem dL_law_681 : decode cL_law 681 = .ok (.aload_n 1, 1) := by decide +kernel
theorem dL_law_682 : decode cL_law 682 = .ok (.aload_n 0, 1) := by decide +kernel
theorem dL_law_683 : decode cL_law 683 = .ok (.iload_n 3, 1) := by decide +kernel
theorem dL_law_684 : decode cL_law 684 = .ok (.iconst 1, 1) := by decide +kernel
theorem dL_law_685 : decode cL_law 685 = .ok (.iadd, 1) := by decide +kernel
theorem dL_law_686 : decode cL_law 686 = .ok (.iaload, 1) := by decide +kernel
theorem dL_law_687 : decode cL_law 687 = .ok (.invokevirtual 82, 3) := by decide +kernel
theorem dL_law_690 : decode cL_law 690 = .ok (.aload_n 2, 1) := by decide +kernel
theorem dL_law_691 : decode cL_law 691 = .ok (.aload_n 0, 1) := by decide +kernel
theorem dL_law_692 : decode cL_law 692 = .ok (.iload_n 3, 1) := by decide +kernel
theorem dL_law_693 : decode cL_law 693 = .ok (.iconst 1, 1) := by decide +kernel
theorem dL_law_694 : decode cL_law 694 = .ok (.iadd, 1) := by decide +kernel
theorem dL_law_695 : decode cL_law 695 = .ok (.iaload, 1) := by decide +kernel
theorem dL_law_696 : decode cL_law 696 = .ok (.invokevirtual 85, 3) := by decide +kernel
theorem dL_law_699 : decode cL_law 699 = .ok (.if_icmp .eq 562, 3) := by decide +kernel
theorem dL_law_702 : decode cL_law 702 = .ok (.iconst 0, 1) := by decide +kernel
theorem dL_law_703 : decode cL_law 703 = .ok (.ireturn, 1) := by decide +kernel
theorem dL_law_704 : decode cL_law 704 = .ok (.aload_n 1, 1) := by decide +kernel
theorem dL_law_705 : decode cL_law 705 = .ok (.aload_n 0, 1) := by decide +kernel
theorem dL_law_706 : decode cL_law 706 = .ok (.iload_n 3, 1) := by decide +kernel
theorem dL_law_707 : decode cL_law 707 = .ok (.iconst 1, 1) := by decide +kernel
theorem dL_law_708 : decode cL_law 708 = .ok (.iadd, 1) := by decide +kernel
theorem dL_law_709 : decode cL_law 709 = .ok (.iaload, 1) := by decide +kernel
theorem dL_law_710 : decode cL_law 710 = .ok (.invokevirtual 86, 3) := by decide +kernel
theorem dL_law_713 : decode cL_law 713 = .ok (.aload_n 2, 1) := by decide +kernel
theorem dL_law_714 : decode cL_law 714 = .ok (.aload_n 0, 1) := by decide +kernel
theorem dL_law_715 : decode cL_law 715 = .ok (.iload_n 3, 1) := by decide +kernel
theorem dL_law_716 : decode cL_law 716 = .ok (.iconst 1, 1) := by decide +kernel
theorem dL_law_717 : decode cL_law 717 = .ok (.iadd, 1) := by decide +kernel
theorem dL_law_718 : decode cL_law 718 = .ok (.iaload, 1) := by decide +kernel
theorem dL_law_719 : decode cL_law 719 = .ok (.invokevirtual 89, 3) := by decide +kernel
theorem dL_law_722 : decode cL_law 722 = .ok (.if_icmp .eq 539, 3) := by decide +kernel
theorem dL_law_725 : decode cL_law 725 = .ok (.iconst 0, 1) := by decide +kernel
theorem dL_law_726 : decode cL_law 726 = .ok (.ireturn, 1) := by decide +kernel
theorem dL_law_727 : decode cL_law 727 = .ok (.aload_n 1, 1) := by decide +kernel
theorem dL_law_728 : decode cL_law 728 = .ok (.aload_n 0, 1) := by decide +kernel
theorem dL_law_729 : decode cL_law 729 = .ok (.iload_n 3, 1) := by decide +kernel
theorem dL_law_730 : decode cL_law 730 = .ok (.iconst 1, 1) := by decide +kernel
theorem dL_law_731 : decode cL_law 731 = .ok (.iadd, 1) := by decide +kernel
theorem dL_law_732 : decode cL_law 732 = .ok (.iaload, 1) := by decide +kernel
theorem dL_law_733 : decode cL_law 733 = .ok (.invokevirtual 90, 3) := by decide +kernel
theorem dL_law_736 : decode cL_law 736 = .ok (.aload_n 2, 1) := by decide +kernel
theorem dL_law_737 : decode cL_law 737 = .ok (.aload_n 0, 1) := by decide +kernel
theorem dL_law_738 : decode cL_law 738 = .ok (.iload_n 3, 1) := by decide +kernel
theorem dL_law_739 : decode cL_law 739 = .ok (.iconst 1, 1) := by decide +kernel
theorem dL_law_740 : decode cL_law 740 = .ok (.iadd, 1) := by decide +kernel
theorem dL_law_741 : decode cL_law 741 = .ok (.iaload, 1) := by decide +kernel
theorem dL_law_742 : decode cL_law 742 = .ok (.invokevirtual 93, 3) := by decide +kernel
theorem dL_law_745 : decode cL_law 745 = .ok (.if_icmp .eq 516, 3) := by decide +kernel
theorem dL_law_748 : decode cL_law 748 = .ok (.iconst 0, 1) := by decide +kernel
theorem dL_law_749 : decode cL_law 749 = .ok (.ireturn, 1) := by decide +kernel
theorem dL_law_750 : decode cL_law 750 = .ok (.aload_n 1, 1) := by decide +kernel
theorem dL_law_751 : decode cL_law 751 = .ok (.invokevirtual 94, 3) := by decide +kernel
theorem dL_law_754 : decode cL_law 754 = .ok (.aload_n 2, 1) := by decide +kernel
theorem dL_law_755 : decode cL_law 755 = .ok (.invokevirtual 97, 3) := by decide +kernel
theorem dL_law_758 : decode cL_law 758 = .ok (.if_icmp .eq 503, 3) := by decide +kernel
theorem dL_law_761 : decode cL_law 761 = .ok (.iconst 0, 1) := by decide +kernel
theorem dL_law_762 : decode cL_law 762 = .ok (.ireturn, 1) := by decide +kernel
theorem dL_law_763 : decode cL_law 763 = .ok (.aload_n 1, 1) := by decide +kernel
theorem dL_law_764 : decode cL_law 764 = .ok (.aload_n 0, 1) := by decide +kernel
theorem dL_law_765 : decode cL_law 765 = .ok (.iload_n 3, 1) := by decide +kernel
theorem dL_law_766 : decode cL_law 766 = .ok (.iconst 1, 1) := by decide +kernel
theorem dL_law_767 : decode cL_law 767 = .ok (.iadd, 1) := by decide +kernel
theorem dL_law_768 : decode cL_law 768 = .ok (.iaload, 1) := by decide +kernel
theorem dL_law_769 : decode cL_law 769 = .ok (.invokevirtual 98, 3) := by decide +kernel
theorem dL_law_772 : decode cL_law 772 = .ok (.aload_n 2, 1) := by decide +kernel
theorem dL_law_773 : decode cL_law 773 = .ok (.aload_n 0, 1) := by decide +kernel
theorem dL_law_774 : decode cL_law 774 = .ok (.iload_n 3, 1) := by decide +kernel
theorem dL_law_775 : decode cL_law 775 = .ok (.iconst 1, 1) := by decide +kernel
theorem dL_law_776 : decode cL_law 776 = .ok (.iadd, 1) := by decide +kernel
theorem dL_law_777 : decode cL_law 777 = .ok (.iaload, 1) := by decide +kernel
theorem dL_law_778 : decode cL_law 778 = .ok (.invokevirtual 101, 3) := by decide +kernel
theorem dL_law_781 : decode cL_law 781 = .ok (.if_icmp .eq 480, 3) := by decide +kernel
theorem dL_law_784 : decode cL_law 784 = .ok (.iconst 0, 1) := by decide +kernel
theorem dL_law_785 : decode cL_law 785 = .ok (.ireturn, 1) := by decide +kernel
theorem dL_law_786 : decode cL_law 786 = .ok (.aload_n 1, 1) := by decide +kernel
theorem dL_law_787 : decode cL_law 787 = .ok (.aload_n 0, 1) := by decide +kernel
theorem dL_law_788 : decode cL_law 788 = .ok (.iload_n 3, 1) := by decide +kernel
theorem dL_law_789 : decode cL_law 789 = .ok (.iconst 1, 1) := by decide +kernel
theorem dL_law_790 : decode cL_law 790 = .ok (.iadd, 1) := by decide +kernel
theorem dL_law_791 : decode cL_law 791 = .ok (.iaload, 1) := by decide +kernel
theorem dL_law_792 : decode cL_law 792 = .ok (.invokevirtual 102, 3) := by decide +kernel
theorem dL_law_795 : decode cL_law 795 = .ok (.aload_n 2, 1) := by decide +kernel
theorem dL_law_796 : decode cL_law 796 = .ok (.aload_n 0, 1) := by decide +kernel
theorem dL_law_797 : decode cL_law 797 = .ok (.iload_n 3, 1) := by decide +kernel
theorem dL_law_798 : decode cL_law 798 = .ok (.iconst 1, 1) := by decide +kernel
theorem dL_law_799 : decode cL_law 799 = .ok (.iadd, 1) := by decide +kernel
theorem dL_law_800 : decode cL_law 800 = .ok (.iaload, 1) := by decide +kernel
theorem dL_law_801 : decode cL_law 801 = .ok (.invokevirtual 105, 3) := by decide +kernel
theorem dL_law_804 : decode cL_law 804 = .ok (.if_icmp .eq 457, 3) := by decide +kernel
theorem dL_law_807 : decode cL_law 807 = .ok (.iconst 0, 1) := by decide +kernel
theorem dL_law_808 : decode cL_law 808 = .ok (.ireturn, 1) := by decide +kernel
theorem dL_law_809 : decode cL_law 809 = .ok (.aload_n 1, 1) := by decide +kernel
theorem dL_law_810 : decode cL_law 810 = .ok (.aload_n 0, 1) := by decide +kernel
theorem dL_law_811 : decode cL_law 811 = .ok (.iload_n 3, 1) := by decide +kernel
theorem dL_law_812 : decode cL_law 812 = .ok (.iconst 1, 1) := by decide +kernel
theorem dL_law_813 : decode cL_law 813 = .ok (.iadd, 1) := by decide +kernel
theorem dL_law_814 : decode cL_law 814 = .ok (.iaload, 1) := by decide +kernel
theorem dL_law_815 : decode cL_law 815 = .ok (.aload_n 0, 1) := by decide +kernel
theorem dL_law_816 : decode cL_law 816 = .ok (.iload_n 3, 1) := by decide +kernel
theorem dL_law_817 : decode cL_law 817 = .ok (.iconst 2, 1) := by decide +kernel
theorem dL_law_818 : decode cL_law 818 = .ok (.iadd, 1) := by decide +kernel
theorem dL_law_819 : decode cL_law 819 = .ok (.iaload, 1) := by decide +kernel
theorem dL_law_820 : decode cL_law 820 = .ok (.invokevirtual 106, 3) := by decide +kernel
theorem dL_law_823 : decode cL_law 823 = .ok (.aload_n 2, 1) := by decide +kernel
theorem dL_law_824 : decode cL_law 824 = .ok (.aload_n 0, 1) := by decide +kernel
theorem dL_law_825 : decode cL_law 825 = .ok (.iload_n 3, 1) := by decide +kernel
theorem dL_law_826 : decode cL_law 826 = .ok (.iconst 1, 1) := by decide +kernel
theorem dL_law_827 : decode cL_law 827 = .ok (.iadd, 1) := by decide +kernel
theorem dL_law_828 : decode cL_law 828 = .ok (.iaload, 1) := by decide +kernel
theorem dL_law_829 : decode cL_law 829 = .ok (.aload_n 0, 1) := by decide +kernel
theorem dL_law_830 : decode cL_law 830 = .ok (.iload_n 3, 1) := by decide +kernel
theorem dL_law_831 : decode cL_law 831 = .ok (.iconst 2, 1) := by decide +kernel
theorem dL_law_832 : decode cL_law 832 = .ok (.iadd, 1) := by decide +kernel
theorem dL_law_833 : decode cL_law 833 = .ok (.iaload, 1) := by decide +kernel
theorem dL_law_834 : decode cL_law 834 = .ok (.invokevirtual 109, 3) := by decide +kernel
theorem dL_law_837 : decode cL_law 837 = .ok (.if_icmp .eq 424, 3) := by decide +kernel
theorem dL_law_840 : decode cL_law 840 = .ok (.iconst 0, 1) := by decide +kernel
theorem dL_law_841 : decode cL_law 841 = .ok (.ireturn, 1) := by decide +kernel
theorem dL_law_842 : decode cL_law 842 = .ok (.aload_n 1, 1) := by decide +kernel
theorem dL_law_843 : decode cL_law 843 = .ok (.aload_n 0, 1) := by decide +kernel
theorem dL_law_844 : decode cL_law 844 = .ok (.iload_n 3, 1) := by decide +kernel
theorem dL_law_845 : decode cL_law 845 = .ok (.iconst 1, 1) := by decide +kernel
theorem dL_law_846 : decode cL_law 846 = .ok (.iadd, 1) := by decide +kernel
theorem dL_law_847 : decode cL_law 847 = .ok (.iaload, 1) := by decide +kernel
theorem dL_law_848 : decode cL_law 848 = .ok (.aload_n 0, 1) := by decide +kernel
theorem dL_law_849 : decode cL_law 849 = .ok (.iload_n 3, 1) := by decide +kernel
theorem dL_law_850 : decode cL_law 850 = .ok (.iconst 2, 1) := by decide +kernel
theorem dL_law_851 : decode cL_law 851 = .ok (.iadd, 1) := by decide +kernel
theorem dL_law_852 : decode cL_law 852 = .ok (.iaload, 1) := by decide +kernel
theorem dL_law_853 : decode cL_law 853 = .ok (.invokevirtual 110, 3) := by decide +kernel
theorem dL_law_856 : decode cL_law 856 = .ok (.aload_n 2, 1) := by decide +kernel
theorem dL_law_857 : decode cL_law 857 = .ok (.aload_n 0, 1) := by decide +kernel
theorem dL_law_858 : decode cL_law 858 = .ok (.iload_n 3, 1) := by decide +kernel
theorem dL_law_859 : decode cL_law 859 = .ok (.iconst 1, 1) := by decide +kernel
theorem dL_law_860 : decode cL_law 860 = .ok (.iadd, 1) := by decide +kernel
theorem dL_law_861 : decode cL_law 861 = .ok (.iaload, 1) := by decide +kernel
theorem dL_law_862 : decode cL_law 862 = .ok (.aload_n 0, 1) := by decide +kernel
theorem dL_law_863 : decode cL_law 863 = .ok (.iload_n 3, 1) := by decide +kernel
theorem dL_law_864 : decode cL_law 864 = .ok (.iconst 2, 1) := by decide +kernel
theorem dL_law_865 : decode cL_law 865 = .ok (.iadd, 1) := by decide +kernel
theorem dL_law_866 : decode cL_law 866 = .ok (.iaload, 1) := by decide +kernel
theorem dL_law_867 : decode cL_law 867 = .ok (.invokevirtual 113, 3) := by decide +kernel
theorem dL_law_870 : decode cL_law 870 = .ok (.if_icmp .eq 391, 3) := by decide +kernel
theorem dL_law_873 : decode cL_law 873 = .ok (.iconst 0, 1) := by decide +kernel
theorem dL_law_874 : decode cL_law 874 = .ok (.ireturn, 1) := by decide +kernel
theorem dL_law_875 : decode cL_law 875 = .ok (.aload_n 1, 1) := by decide +kernel
theorem dL_law_876 : decode cL_law 876 = .ok (.aload_n 0, 1) := by decide +kernel
theorem dL_law_877 : decode cL_law 877 = .ok (.iload_n 3, 1) := by decide +kernel
theorem dL_law_878 : decode cL_law 878 = .ok (.iconst 1, 1) := by decide +kernel
theorem dL_law_879 : decode cL_law 879 = .ok (.iadd, 1) := by decide +kernel
theorem dL_law_880 : decode cL_law 880 = .ok (.iaload, 1) := by decide +kernel
theorem dL_law_881 : decode cL_law 881 = .ok (.aload_n 0, 1) := by decide +kernel
theorem dL_law_882 : decode cL_law 882 = .ok (.iload_n 3, 1) := by decide +kernel
theorem dL_law_883 : decode cL_law 883 = .ok (.iconst 2, 1) := by decide +kernel
theorem dL_law_884 : decode cL_law 884 = .ok (.iadd, 1) := by decide +kernel
theorem dL_law_885 : decode cL_law 885 = .ok (.iaload, 1) := by decide +kernel
theorem dL_law_886 : decode cL_law 886 = .ok (.invokevirtual 114, 3) := by decide +kernel
theorem dL_law_889 : decode cL_law 889 = .ok (.aload_n 2, 1) := by decide +kernel
theorem dL_law_890 : decode cL_law 890 = .ok (.aload_n 0, 1) := by decide +kernel
theorem dL_law_891 : decode cL_law 891 = .ok (.iload_n 3, 1) := by decide +kernel
theorem dL_law_892 : decode cL_law 892 = .ok (.iconst 1, 1) := by decide +kernel
theorem dL_law_893 : decode cL_law 893 = .ok (.iadd, 1) := by decide +kernel
theorem dL_law_894 : decode cL_law 894 = .ok (.iaload, 1) := by decide +kernel
theorem dL_law_895 : decode cL_law 895 = .ok (.aload_n 0, 1) := by decide +kernel
theorem dL_law_896 : decode cL_law 896 = .ok (.iload_n 3, 1) := by decide +kernel
theorem dL_law_897 : decode cL_law 897 = .ok (.iconst 2, 1) := by decide +kernel
theorem dL_law_898 : decode cL_law 898 = .ok (.iadd, 1) := by decide +kernel
theorem dL_law_899 : decode cL_law 899 = .ok (.iaload, 1) := by decide +kernel
theorem dL_law_900 : decode cL_law 900 = .ok (.invokevirtual 117, 3) := by decide +kernel
theorem dL_law_903 : decode cL_law 903 = .ok (.if_icmp .eq 358, 3) := by decide +kernel
theorem dL_law_906 : decode cL_law 906 = .ok (.iconst 0, 1) := by decide +kernel
theorem dL_law_907 : decode cL_law 907 = .ok (.ireturn, 1) := by decide +kernel
theorem dL_law_908 : decode cL_law 908 = .ok (.aload_n 1, 1) := by decide +kernel
theorem dL_law_909 : decode cL_law 909 = .ok (.aload_n 0, 1) := by decide +kernel
theorem dL_law_910 : decode cL_law 910 = .ok (.iload_n 3, 1) := by decide +kernel
theorem dL_law_911 : decode cL_law 911 = .ok (.iconst 1, 1) := by decide +kernel
theorem dL_law_912 : decode cL_law 912 = .ok (.iadd, 1) := by decide +kernel
theorem dL_law_913 : decode cL_law 913 = .ok (.iaload, 1) := by decide +kernel
theorem dL_law_914 : decode cL_law 914 = .ok (.aload_n 0, 1) := by decide +kernel
theorem dL_law_915 : decode cL_law 915 = .ok (.iload_n 3, 1) := by decide +kernel
theorem dL_law_916 : decode cL_law 916 = .ok (.iconst 2, 1) := by decide +kernel
theorem dL_law_917 : decode cL_law 917 = .ok (.iadd, 1) := by decide +kernel
theorem dL_law_918 : decode cL_law 918 = .ok (.iaload, 1) := by decide +kernel
theorem dL_law_919 : decode cL_law 919 = .ok (.invokevirtual 118, 3) := by decide +kernel
theorem dL_law_922 : decode cL_law 922 = .ok (.aload_n 2, 1) := by decide +kernel
theorem dL_law_923 : decode cL_law 923 = .ok (.aload_n 0, 1) := by decide +kernel
theorem dL_law_924 : decode cL_law 924 = .ok (.iload_n 3, 1) := by decide +kernel
theorem dL_law_925 : decode cL_law 925 = .ok (.iconst 1, 1) := by decide +kernel
theorem dL_law_926 : decode cL_law 926 = .ok (.iadd, 1) := by decide +kernel
theorem dL_law_927 : decode cL_law 927 = .ok (.iaload, 1) := by decide +kernel
theorem dL_law_928 : decode cL_law 928 = .ok (.aload_n 0, 1) := by decide +kernel
theorem dL_law_929 : decode cL_law 929 = .ok (.iload_n 3, 1) := by decide +kernel
theorem dL_law_930 : decode cL_law 930 = .ok (.iconst 2, 1) := by decide +kernel
theorem dL_law_931 : decode cL_law 931 = .ok (.iadd, 1) := by decide +kernel
theorem dL_law_932 : decode cL_law 932 = .ok (.iaload, 1) := by decide +kernel
theorem dL_law_933 : decode cL_law 933 = .ok (.invokevirtual 121, 3) := by decide +kernel
theorem dL_law_936 : decode cL_law 936 = .ok (.if_icmp .eq 325, 3) := by decide +kernel
theorem dL_law_939 : decode cL_law 939 = .ok (.iconst 0, 1) := by decide +kernel
theorem dL_law_940 : decode cL_law 940 = .ok (.ireturn, 1) := by decide +kernel
theorem dL_law_941 : decode cL_law 941 = .ok (.aload_n 1, 1) := by decide +kernel
theorem dL_law_942 : decode cL_law 942 = .ok (.invokevirtual 122, 3) := by decide +kernel
theorem dL_law_945 : decode cL_law 945 = .ok (.aload_n 2, 1) := by decide +kernel
theorem dL_law_946 : decode cL_law 946 = .ok (.invokevirtual 125, 3) := by decide +kernel
theorem dL_law_949 : decode cL_law 949 = .ok (.if_icmp .eq 312, 3) := by decide +kernel
theorem dL_law_952 : decode cL_law 952 = .ok (.iconst 0, 1) := by decide +kernel
theorem dL_law_953 : decode cL_law 953 = .ok (.ireturn, 1) := by decide +kernel
theorem dL_law_954 : decode cL_law 954 = .ok (.aload_n 1, 1) := by decide +kernel
theorem dL_law_955 : decode cL_law 955 = .ok (.aload_n 0, 1) := by decide +kernel
theorem dL_law_956 : decode cL_law 956 = .ok (.iload_n 3, 1) := by decide +kernel
theorem dL_law_957 : decode cL_law 957 = .ok (.iconst 1, 1) := by decide +kernel
theorem dL_law_958 : decode cL_law 958 = .ok (.iadd, 1) := by decide +kernel
theorem dL_law_959 : decode cL_law 959 = .ok (.iaload, 1) := by decide +kernel
theorem dL_law_960 : decode cL_law 960 = .ok (.aload_n 0, 1) := by decide +kernel
theorem dL_law_961 : decode cL_law 961 = .ok (.iload_n 3, 1) := by decide +kernel
theorem dL_law_962 : decode cL_law 962 = .ok (.iconst 2, 1) := by decide +kernel
theorem dL_law_963 : decode cL_law 963 = .ok (.iadd, 1) := by decide +kernel
theorem dL_law_964 : decode cL_law 964 = .ok (.iaload, 1) := by decide +kernel
theorem dL_law_965 : decode cL_law 965 = .ok (.invokevirtual 126, 3) := by decide +kernel
theorem dL_law_968 : decode cL_law 968 = .ok (.aload_n 2, 1) := by decide +kernel
theorem dL_law_969 : decode cL_law 969 = .ok (.aload_n 0, 1) := by decide +kernel
theorem dL_law_970 : decode cL_law 970 = .ok (.iload_n 3, 1) := by decide +kernel
theorem dL_law_971 : decode cL_law 971 = .ok (.iconst 1, 1) := by decide +kernel
theorem dL_law_972 : decode cL_law 972 = .ok (.iadd, 1) := by decide +kernel
theorem dL_law_973 : decode cL_law 973 = .ok (.iaload, 1) := by decide +kernel
theorem dL_law_974 : decode cL_law 974 = .ok (.aload_n 0, 1) := by decide +kernel
theorem dL_law_975 : decode cL_law 975 = .ok (.iload_n 3, 1) := by decide +kernel
theorem dL_law_976 : decode cL_law 976 = .ok (.iconst 2, 1) := by decide +kernel
theorem dL_law_977 : decode cL_law 977 = .ok (.iadd, 1) := by decide +kernel
theorem dL_law_978 : decode cL_law 978 = .ok (.iaload, 1) := by decide +kernel
theorem dL_law_979 : decode cL_law 979 = .ok (.invokevirtual 129, 3) := by decide +kernel
theorem dL_law_982 : decode cL_law 982 = .ok (.if_icmp .eq 279, 3) := by decide +kernel
theorem dL_law_985 : decode cL_law 985 = .ok (.iconst 0, 1) := by decide +kernel
theorem dL_law_986 : decode cL_law 986 = .ok (.ireturn, 1) := by decide +kernel
theorem dL_law_987 : decode cL_law 987 = .ok (.aload_n 1, 1) := by decide +kernel
theorem dL_law_988 : decode cL_law 988 = .ok (.aload_n 0, 1) := by decide +kernel
theorem dL_law_989 : decode cL_law 989 = .ok (.iload_n 3, 1) := by decide +kernel
theorem dL_law_990 : decode cL_law 990 = .ok (.iconst 1, 1) := by decide +kernel
theorem dL_law_991 : decode cL_law 991 = .ok (.iadd, 1) := by decide +kernel
theorem dL_law_992 : decode cL_law 992 = .ok (.iaload, 1) := by decide +kernel
theorem dL_law_993 : decode cL_law 993 = .ok (.invokevirtual 130, 3) := by decide +kernel
theorem dL_law_996 : decode cL_law 996 = .ok (.aload_n 2, 1) := by decide +kernel
theorem dL_law_997 : decode cL_law 997 = .ok (.aload_n 0, 1) := by decide +kernel
theorem dL_law_998 : decode cL_law 998 = .ok (.iload_n 3, 1) := by decide +kernel
theorem dL_law_999 : decode cL_law 999 = .ok (.iconst 1, 1) := by decide +kernel
theorem dL_law_1000 : decode cL_law 1000 = .ok (.iadd, 1) := by decide +kernel
theorem dL_law_1001 : decode cL_law 1001 = .ok (.iaload, 1) := by decide +kernel
theorem dL_law_1002 : decode cL_law 1002 = .ok (.invokevirtual 133, 3) := by decide +kernel
theorem dL_law_1005 : decode cL_law 1005 = .ok (.if_icmp .eq 256, 3) := by decide +kernel
theorem dL_law_1008 : decode cL_law 1008 = .ok (.iconst 0, 1) := by decide +kernel
theorem dL_law_1009 : decode cL_law 1009 = .ok (.ireturn, 1) := by decide +kernel
theorem dL_law_1010 : decode cL_law 1010 = .ok (.aload_n 1, 1) := by decide +kernel
theorem dL_law_1011 : decode cL_law 1011 = .ok (.aload_n 0, 1) := by decide +kernel
theorem dL_law_1012 : decode cL_law 1012 = .ok (.iload_n 3, 1) := by decide +kernel
theorem dL_law_1013 : decode cL_law 1013 = .ok (.iconst 1, 1) := by decide +kernel
theorem dL_law_1014 : decode cL_law 1014 = .ok (.iadd, 1) := by decide +kernel
theorem dL_law_1015 : decode cL_law 1015 = .ok (.iaload, 1) := by decide +kernel
theorem dL_law_1016 : decode cL_law 1016 = .ok (.aload_n 0, 1) := by decide +kernel
theorem dL_law_1017 : decode cL_law 1017 = .ok (.iload_n 3, 1) := by decide +kernel
theorem dL_law_1018 : decode cL_law 1018 = .ok (.iconst 2, 1) := by decide +kernel
theorem dL_law_1019 : decode cL_law 1019 = .ok (.iadd, 1) := by decide +kernel
theorem dL_law_1020 : decode cL_law 1020 = .ok (.iaload, 1) := by decide +kernel
theorem dL_law_1021 : decode cL_law 1021 = .ok (.aload_n 0, 1) := by decide +kernel
theorem dL_law_1022 : decode cL_law 1022 = .ok (.iload_n 3, 1) := by decide +kernel
theorem dL_law_1023 : decode cL_law 1023 = .ok (.iconst 3, 1) := by decide +kernel
theorem dL_law_1024 : decode cL_law 1024 = .ok (.iadd, 1) := by decide +kernel
theorem dL_law_1025 : decode cL_law 1025 = .ok (.iaload, 1) := by decide +kernel
theorem dL_law_1026 : decode cL_law 1026 = .ok (.invokevirtual 134, 3) := by decide +kernel
theorem dL_law_1029 : decode cL_law 1029 = .ok (.aload_n 2, 1) := by decide +kernel
theorem dL_law_1030 : decode cL_law 1030 = .ok (.aload_n 0, 1) := by decide +kernel
theorem dL_law_1031 : decode cL_law 1031 = .ok (.iload_n 3, 1) := by decide +kernel
theorem dL_law_1032 : decode cL_law 1032 = .ok (.iconst 1, 1) := by decide +kernel
theorem dL_law_1033 : decode cL_law 1033 = .ok (.iadd, 1) := by decide +kernel
theorem dL_law_1034 : decode cL_law 1034 = .ok (.iaload, 1) := by decide +kernel
theorem dL_law_1035 : decode cL_law 1035 = .ok (.aload_n 0, 1) := by decide +kernel
theorem dL_law_1036 : decode cL_law 1036 = .ok (.iload_n 3, 1) := by decide +kernel
theorem dL_law_1037 : decode cL_law 1037 = .ok (.iconst 2, 1) := by decide +kernel
theorem dL_law_1038 : decode cL_law 1038 = .ok (.iadd, 1) := by decide +kernel
theorem dL_law_1039 : decode cL_law 1039 = .ok (.iaload, 1) := by decide +kernel
theorem dL_law_1040 : decode cL_law 1040 = .ok (.aload_n 0, 1) := by decide +kernel
theorem dL_law_1041 : decode cL_law 1041 = .ok (.iload_n 3, 1) := by decide +kernel
theorem dL_law_1042 : decode cL_law 1042 = .ok (.iconst 3, 1) := by decide +kernel
theorem dL_law_1043 : decode cL_law 1043 = .ok (.iadd, 1) := by decide +kernel
theorem dL_law_1044 : decode cL_law 1044 = .ok (.iaload, 1) := by decide +kernel
theorem dL_law_1045 : decode cL_law 1045 = .ok (.invokevirtual 137, 3) := by decide +kernel
theorem dL_law_1048 : decode cL_law 1048 = .ok (.if_icmp .eq 213, 3) := by decide +kernel
theorem dL_law_1051 : decode cL_law 1051 = .ok (.iconst 0, 1) := by decide +kernel
theorem dL_law_1052 : decode cL_law 1052 = .ok (.ireturn, 1) := by decide +kernel
theorem dL_law_1053 : decode cL_law 1053 = .ok (.aload_n 1, 1) := by decide +kernel
theorem dL_law_1054 : decode cL_law 1054 = .ok (.aload_n 0, 1) := by decide +kernel
theorem dL_law_1055 : decode cL_law 1055 = .ok (.iload_n 3, 1) := by decide +kernel
theorem dL_law_1056 : decode cL_law 1056 = .ok (.iconst 1, 1) := by decide +kernel
theorem dL_law_1057 : decode cL_law 1057 = .ok (.iadd, 1) := by decide +kernel
theorem dL_law_1058 : decode cL_law 1058 = .ok (.iaload, 1) := by decide +kernel
theorem dL_law_1059 : decode cL_law 1059 = .ok (.aload_n 0, 1) := by decide +kernel
theorem dL_law_1060 : decode cL_law 1060 = .ok (.iload_n 3, 1) := by decide +kernel
theorem dL_law_1061 : decode cL_law 1061 = .ok (.iconst 2, 1) := by decide +kernel
theorem dL_law_1062 : decode cL_law 1062 = .ok (.iadd, 1) := by decide +kernel
theorem dL_law_1063 : decode cL_law 1063 = .ok (.iaload, 1) := by decide +kernel
theorem dL_law_1064 : decode cL_law 1064 = .ok (.invokevirtual 138, 3) := by decide +kernel
theorem dL_law_1067 : decode cL_law 1067 = .ok (.aload_n 2, 1) := by decide +kernel
theorem dL_law_1068 : decode cL_law 1068 = .ok (.aload_n 0, 1) := by decide +kernel
theorem dL_law_1069 : decode cL_law 1069 = .ok (.iload_n 3, 1) := by decide +kernel
theorem dL_law_1070 : decode cL_law 1070 = .ok (.iconst 1, 1) := by decide +kernel
theorem dL_law_1071 : decode cL_law 1071 = .ok (.iadd, 1) := by decide +kernel
theorem dL_law_1072 : decode cL_law 1072 = .ok (.iaload, 1) := by decide +kernel
theorem dL_law_1073 : decode cL_law 1073 = .ok (.aload_n 0, 1) := by decide +kernel
theorem dL_law_1074 : decode cL_law 1074 = .ok (.iload_n 3, 1) := by decide +kernel
theorem dL_law_1075 : decode cL_law 1075 = .ok (.iconst 2, 1) := by decide +kernel
theorem dL_law_1076 : decode cL_law 1076 = .ok (.iadd, 1) := by decide +kernel
theorem dL_law_1077 : decode cL_law 1077 = .ok (.iaload, 1) := by decide +kernel
theorem dL_law_1078 : decode cL_law 1078 = .ok (.invokevirtual 141, 3) := by decide +kernel
theorem dL_law_1081 : decode cL_law 1081 = .ok (.if_icmp .eq 180, 3) := by decide +kernel
theorem dL_law_1084 : decode cL_law 1084 = .ok (.iconst 0, 1) := by decide +kernel
theorem dL_law_1085 : decode cL_law 1085 = .ok (.ireturn, 1) := by decide +kernel
theorem dL_law_1086 : decode cL_law 1086 = .ok (.aload_n 1, 1) := by decide +kernel
theorem dL_law_1087 : decode cL_law 1087 = .ok (.aload_n 0, 1) := by decide +kernel
theorem dL_law_1088 : decode cL_law 1088 = .ok (.iload_n 3, 1) := by decide +kernel
theorem dL_law_1089 : decode cL_law 1089 = .ok (.iconst 1, 1) := by decide +kernel
theorem dL_law_1090 : decode cL_law 1090 = .ok (.iadd, 1) := by decide +kernel
theorem dL_law_1091 : decode cL_law 1091 = .ok (.iaload, 1) := by decide +kernel
theorem dL_law_1092 : decode cL_law 1092 = .ok (.aload_n 0, 1) := by decide +kernel
theorem dL_law_1093 : decode cL_law 1093 = .ok (.iload_n 3, 1) := by decide +kernel
theorem dL_law_1094 : decode cL_law 1094 = .ok (.iconst 2, 1) := by decide +kernel
theorem dL_law_1095 : decode cL_law 1095 = .ok (.iadd, 1) := by decide +kernel
theorem dL_law_1096 : decode cL_law 1096 = .ok (.iaload, 1) := by decide +kernel
theorem dL_law_1097 : decode cL_law 1097 = .ok (.aload_n 0, 1) := by decide +kernel
theorem dL_law_1098 : decode cL_law 1098 = .ok (.iload_n 3, 1) := by decide +kernel
theorem dL_law_1099 : decode cL_law 1099 = .ok (.iconst 3, 1) := by decide +kernel
theorem dL_law_1100 : decode cL_law 1100 = .ok (.iadd, 1) := by decide +kernel
theorem dL_law_1101 : decode cL_law 1101 = .ok (.iaload, 1) := by decide +kernel
theorem dL_law_1102 : decode cL_law 1102 = .ok (.invokevirtual 142, 3) := by decide +kernel
theorem dL_law_1105 : decode cL_law 1105 = .ok (.aload_n 2, 1) := by decide +kernel
theorem dL_law_1106 : decode cL_law 1106 = .ok (.aload_n 0, 1) := by decide +kernel
theorem dL_law_1107 : decode cL_law 1107 = .ok (.iload_n 3, 1) := by decide +kernel
theorem dL_law_1108 : decode cL_law 1108 = .ok (.iconst 1, 1) := by decide +kernel
theorem dL_law_1109 : decode cL_law 1109 = .ok (.iadd, 1) := by decide +kernel
theorem dL_law_1110 : decode cL_law 1110 = .ok (.iaload, 1) := by decide +kernel
theorem dL_law_1111 : decode cL_law 1111 = .ok (.aload_n 0, 1) := by decide +kernel
theorem dL_law_1112 : decode cL_law 1112 = .ok (.iload_n 3, 1) := by decide +kernel
theorem dL_law_1113 : decode cL_law 1113 = .ok (.iconst 2, 1) := by decide +kernel
theorem dL_law_1114 : decode cL_law 1114 = .ok (.iadd, 1) := by decide +kernel
theorem dL_law_1115 : decode cL_law 1115 = .ok (.iaload, 1) := by decide +kernel
theorem dL_law_1116 : decode cL_law 1116 = .ok (.aload_n 0, 1) := by decide +kernel
theorem dL_law_1117 : decode cL_law 1117 = .ok (.iload_n 3, 1) := by decide +kernel
theorem dL_law_1118 : decode cL_law 1118 = .ok (.iconst 3, 1) := by decide +kernel
theorem dL_law_1119 : decode cL_law 1119 = .ok (.iadd, 1) := by decide +kernel
theorem dL_law_1120 : decode cL_law 1120 = .ok (.iaload, 1) := by decide +kernel
theorem dL_law_1121 : decode cL_law 1121 = .ok (.invokevirtual 145, 3) := by decide +kernel
theorem dL_law_1124 : decode cL_law 1124 = .ok (.if_icmp .eq 137, 3) := by decide +kernel
theorem dL_law_1127 : decode cL_law 1127 = .ok (.iconst 0, 1) := by decide +kernel
theorem dL_law_1128 : decode cL_law 1128 = .ok (.ireturn, 1) := by decide +kernel
theorem dL_law_1129 : decode cL_law 1129 = .ok (.aload_n 1, 1) := by decide +kernel
theorem dL_law_1130 : decode cL_law 1130 = .ok (.aload_n 0, 1) := by decide +kernel
theorem dL_law_1131 : decode cL_law 1131 = .ok (.iload_n 3, 1) := by decide +kernel
theorem dL_law_1132 : decode cL_law 1132 = .ok (.iconst 1, 1) := by decide +kernel
theorem dL_law_1133 : decode cL_law 1133 = .ok (.iadd, 1) := by decide +kernel
theorem dL_law_1134 : decode cL_law 1134 = .ok (.iaload, 1) := by decide +kernel
theorem dL_law_1135 : decode cL_law 1135 = .ok (.aload_n 0, 1) := by decide +kernel
theorem dL_law_1136 : decode cL_law 1136 = .ok (.iload_n 3, 1) := by decide +kernel
theorem dL_law_1137 : decode cL_law 1137 = .ok (.iconst 2, 1) := by decide +kernel
theorem dL_law_1138 : decode cL_law 1138 = .ok (.iadd, 1) := by decide +kernel
theorem dL_law_1139 : decode cL_law 1139 = .ok (.iaload, 1) := by decide +kernel
theorem dL_law_1140 : decode cL_law 1140 = .ok (.aload_n 0, 1) := by decide +kernel
theorem dL_law_1141 : decode cL_law 1141 = .ok (.iload_n 3, 1) := by decide +kernel
theorem dL_law_1142 : decode cL_law 1142 = .ok (.iconst 3, 1) := by decide +kernel
theorem dL_law_1143 : decode cL_law 1143 = .ok (.iadd, 1) := by decide +kernel
theorem dL_law_1144 : decode cL_law 1144 = .ok (.iaload, 1) := by decide +kernel
theorem dL_law_1145 : decode cL_law 1145 = .ok (.invokevirtual 146, 3) := by decide +kernel
theorem dL_law_1148 : decode cL_law 1148 = .ok (.aload_n 2, 1) := by decide +kernel
theorem dL_law_1149 : decode cL_law 1149 = .ok (.aload_n 0, 1) := by decide +kernel
theorem dL_law_1150 : decode cL_law 1150 = .ok (.iload_n 3, 1) := by decide +kernel
theorem dL_law_1151 : decode cL_law 1151 = .ok (.iconst 1, 1) := by decide +kernel
theorem dL_law_1152 : decode cL_law 1152 = .ok (.iadd, 1) := by decide +kernel
theorem dL_law_1153 : decode cL_law 1153 = .ok (.iaload, 1) := by decide +kernel
theorem dL_law_1154 : decode cL_law 1154 = .ok (.aload_n 0, 1) := by decide +kernel
theorem dL_law_1155 : decode cL_law 1155 = .ok (.iload_n 3, 1) := by decide +kernel
theorem dL_law_1156 : decode cL_law 1156 = .ok (.iconst 2, 1) := by decide +kernel
theorem dL_law_1157 : decode cL_law 1157 = .ok (.iadd, 1) := by decide +kernel
theorem dL_law_1158 : decode cL_law 1158 = .ok (.iaload, 1) := by decide +kernel
theorem dL_law_1159 : decode cL_law 1159 = .ok (.aload_n 0, 1) := by decide +kernel
theorem dL_law_1160 : decode cL_law 1160 = .ok (.iload_n 3, 1) := by decide +kernel
theorem dL_law_1161 : decode cL_law 1161 = .ok (.iconst 3, 1) := by decide +kernel
theorem dL_law_1162 : decode cL_law 1162 = .ok (.iadd, 1) := by decide +kernel
theorem dL_law_1163 : decode cL_law 1163 = .ok (.iaload, 1) := by decide +kernel
theorem dL_law_1164 : decode cL_law 1164 = .ok (.invokevirtual 149, 3) := by decide +kernel
theorem dL_law_1167 : decode cL_law 1167 = .ok (.if_icmp .eq 94, 3) := by decide +kernel
theorem dL_law_1170 : decode cL_law 1170 = .ok (.iconst 0, 1) := by decide +kernel
theorem dL_law_1171 : decode cL_law 1171 = .ok (.ireturn, 1) := by decide +kernel
theorem dL_law_1172 : decode cL_law 1172 = .ok (.aload_n 1, 1) := by decide +kernel
theorem dL_law_1173 : decode cL_law 1173 = .ok (.aload_n 0, 1) := by decide +kernel
theorem dL_law_1174 : decode cL_law 1174 = .ok (.iload_n 3, 1) := by decide +kernel
theorem dL_law_1175 : decode cL_law 1175 = .ok (.iconst 1, 1) := by decide +kernel
theorem dL_law_1176 : decode cL_law 1176 = .ok (.iadd, 1) := by decide +kernel
theorem dL_law_1177 : decode cL_law 1177 = .ok (.iaload, 1) := by decide +kernel
theorem dL_law_1178 : decode cL_law 1178 = .ok (.aload_n 0, 1) := by decide +kernel
theorem dL_law_1179 : decode cL_law 1179 = .ok (.iload_n 3, 1) := by decide +kernel
theorem dL_law_1180 : decode cL_law 1180 = .ok (.iconst 2, 1) := by decide +kernel
theorem dL_law_1181 : decode cL_law 1181 = .ok (.iadd, 1) := by decide +kernel
theorem dL_law_1182 : decode cL_law 1182 = .ok (.iaload, 1) := by decide +kernel
theorem dL_law_1183 : decode cL_law 1183 = .ok (.aload_n 0, 1) := by decide +kernel
theorem dL_law_1184 : decode cL_law 1184 = .ok (.iload_n 3, 1) := by decide +kernel
theorem dL_law_1185 : decode cL_law 1185 = .ok (.iconst 3, 1) := by decide +kernel
theorem dL_law_1186 : decode cL_law 1186 = .ok (.iadd, 1) := by decide +kernel
theorem dL_law_1187 : decode cL_law 1187 = .ok (.iaload, 1) := by decide +kernel
theorem dL_law_1188 : decode cL_law 1188 = .ok (.aload_n 0, 1) := by decide +kernel
theorem dL_law_1189 : decode cL_law 1189 = .ok (.iload_n 3, 1) := by decide +kernel
theorem dL_law_1190 : decode cL_law 1190 = .ok (.iconst 4, 1) := by decide +kernel
theorem dL_law_1191 : decode cL_law 1191 = .ok (.iadd, 1) := by decide +kernel
theorem dL_law_1192 : decode cL_law 1192 = .ok (.iaload, 1) := by decide +kernel
theorem dL_law_1193 : decode cL_law 1193 = .ok (.invokevirtual 150, 3) := by decide +kernel
theorem dL_law_1196 : decode cL_law 1196 = .ok (.aload_n 2, 1) := by decide +kernel
theorem dL_law_1197 : decode cL_law 1197 = .ok (.aload_n 0, 1) := by decide +kernel
theorem dL_law_1198 : decode cL_law 1198 = .ok (.iload_n 3, 1) := by decide +kernel
theorem dL_law_1199 : decode cL_law 1199 = .ok (.iconst 1, 1) := by decide +kernel
theorem dL_law_1200 : decode cL_law 1200 = .ok (.iadd, 1) := by decide +kernel
theorem dL_law_1201 : decode cL_law 1201 = .ok (.iaload, 1) := by decide +kernel
theorem dL_law_1202 : decode cL_law 1202 = .ok (.aload_n 0, 1) := by decide +kernel
theorem dL_law_1203 : decode cL_law 1203 = .ok (.iload_n 3, 1) := by decide +kernel
theorem dL_law_1204 : decode cL_law 1204 = .ok (.iconst 2, 1) := by decide +kernel
theorem dL_law_1205 : decode cL_law 1205 = .ok (.iadd, 1) := by decide +kernel
theorem dL_law_1206 : decode cL_law 1206 = .ok (.iaload, 1) := by decide +kernel
theorem dL_law_1207 : decode cL_law 1207 = .ok (.aload_n 0, 1) := by decide +kernel
theorem dL_law_1208 : decode cL_law 1208 = .ok (.iload_n 3, 1) := by decide +kernel
theorem dL_law_1209 : decode cL_law 1209 = .ok (.iconst 3, 1) := by decide +kernel
theorem dL_law_1210 : decode cL_law 1210 = .ok (.iadd, 1) := by decide +kernel
theorem dL_law_1211 : decode cL_law 1211 = .ok (.iaload, 1) := by decide +kernel
theorem dL_law_1212 : decode cL_law 1212 = .ok (.aload_n 0, 1) := by decide +kernel
theorem dL_law_1213 : decode cL_law 1213 = .ok (.iload_n 3, 1) := by decide +kernel
theorem dL_law_1214 : decode cL_law 1214 = .ok (.iconst 4, 1) := by decide +kernel
theorem dL_law_1215 : decode cL_law 1215 = .ok (.iadd, 1) := by decide +kernel
theorem dL_law_1216 : decode cL_law 1216 = .ok (.iaload, 1) := by decide +kernel
theorem dL_law_1217 : decode cL_law 1217 = .ok (.invokevirtual 154, 3) := by decide +kernel
theorem dL_law_1220 : decode cL_law 1220 = .ok (.if_icmp .eq 41, 3) := by decide +kernel
theorem dL_law_1223 : decode cL_law 1223 = .ok (.iconst 0, 1) := by decide +kernel
theorem dL_law_1224 : decode cL_law 1224 = .ok (.ireturn, 1) := by decide +kernel
theorem dL_law_1225 : decode cL_law 1225 = .ok (.aload_n 1, 1) := by decide +kernel
theorem dL_law_1226 : decode cL_law 1226 = .ok (.invokevirtual 155, 3) := by decide +kernel
theorem dL_law_1229 : decode cL_law 1229 = .ok (.aload_n 2, 1) := by decide +kernel
theorem dL_law_1230 : decode cL_law 1230 = .ok (.invokevirtual 158, 3) := by decide +kernel
theorem dL_law_1233 : decode cL_law 1233 = .ok (.if_icmp .eq 28, 3) := by decide +kernel
theorem dL_law_1236 : decode cL_law 1236 = .ok (.iconst 0, 1) := by decide +kernel
theorem dL_law_1237 : decode cL_law 1237 = .ok (.ireturn, 1) := by decide +kernel
theorem dL_law_1238 : decode cL_law 1238 = .ok (.aload_n 1, 1) := by decide +kernel
theorem dL_law_1239 : decode cL_law 1239 = .ok (.aload_n 0, 1) := by decide +kernel
theorem dL_law_1240 : decode cL_law 1240 = .ok (.iload_n 3, 1) := by decide +kernel
theorem dL_law_1241 : decode cL_law 1241 = .ok (.iconst 1, 1) := by decide +kernel
theorem dL_law_1242 : decode cL_law 1242 = .ok (.iadd, 1) := by decide +kernel
theorem dL_law_1243 : decode cL_law 1243 = .ok (.iaload, 1) := by decide +kernel
theorem dL_law_1244 : decode cL_law 1244 = .ok (.invokevirtual 159, 3) := by decide +kernel
theorem dL_law_1247 : decode cL_law 1247 = .ok (.aload_n 2, 1) := by decide +kernel
theorem dL_law_1248 : decode cL_law 1248 = .ok (.aload_n 0, 1) := by decide +kernel
theorem dL_law_1249 : decode cL_law 1249 = .ok (.iload_n 3, 1) := by decide +kernel
theorem dL_law_1250 : decode cL_law 1250 = .ok (.iconst 1, 1) := by decide +kernel
theorem dL_law_1251 : decode cL_law 1251 = .ok (.iadd, 1) := by decide +kernel
theorem dL_law_1252 : decode cL_law 1252 = .ok (.iaload, 1) := by decide +kernel
theorem dL_law_1253 : decode cL_law 1253 = .ok (.invokevirtual 162, 3) := by decide +kernel
theorem dL_law_1256 : decode cL_law 1256 = .ok (.if_icmp .eq 5, 3) := by decide +kernel
theorem dL_law_1259 : decode cL_law 1259 = .ok (.iconst 0, 1) := by decide +kernel
theorem dL_law_1260 : decode cL_law 1260 = .ok (.ireturn, 1) := by decide +kernel
theorem dL_law_1261 : decode cL_law 1261 = .ok (.iinc 3 5, 3) := by decide +kernel
theorem dL_law_1264 : decode cL_law 1264 = .ok (.goto (-1246), 3) := by decide +kernel
theorem dL_law_1267 : decode cL_law 1267 = .ok (.iconst 1, 1) := by decide +kernel
theorem dL_law_1268 : decode cL_law 1268 = .ok (.ireturn, 1) := by decide +kernel
