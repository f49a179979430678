theorem dX0_init_0 : decode cX0_init 0 = .ok (.aload_n 0, 1) := by decide +kernel
theorem dX0_init_1 : decode cX0_init 1 = .ok (.invokespecial 3, 3) := by decide +kernel
theorem dX0_init_4 : decode cX0_init 4 = .ok (.aload_n 0, 1) := by decide +kernel
theorem dX0_init_5 : decode cX0_init 5 = .ok (.new 9, 3) := by decide +kernel
theorem dX0_init_8 : decode cX0_init 8 = .ok (.dup, 1) := by decide +kernel
theorem dX0_init_9 : decode cX0_init 9 = .ok (.sipush 532, 3) := by decide +kernel
theorem dX0_init_12 : decode cX0_init 12 = .ok (.invokespecial 11, 3) := by decide +kernel
theorem dX0_init_15 : decode cX0_init 15 = .ok (.putfield 14, 3) := by decide +kernel
theorem dX0_init_18 : decode cX0_init 18 = .ok (.aload_n 0, 1) := by decide +kernel
theorem dX0_init_19 : decode cX0_init 19 = .ok (.new 9, 3) := by decide +kernel
theorem dX0_init_22 : decode cX0_init 22 = .ok (.dup, 1) := by decide +kernel
theorem dX0_init_23 : decode cX0_init 23 = .ok (.sipush 532, 3) := by decide +kernel
theorem dX0_init_26 : decode cX0_init 26 = .ok (.invokespecial 11, 3) := by decide +kernel
theorem dX0_init_29 : decode cX0_init 29 = .ok (.putfield 20, 3) := by decide +kernel
theorem dX0_init_32 : decode cX0_init 32 = .ok (.return_, 1) := by decide +kernel
theorem dX0_gather_0 : decode cX0_gather 0 = .ok (.aload_n 0, 1) := by decide +kernel
theorem dX0_gather_1 : decode cX0_gather 1 = .ok (.getfield 14, 3) := by decide +kernel
theorem dX0_gather_4 : decode cX0_gather 4 = .ok (.aload_n 1, 1) := by decide +kernel
theorem dX0_gather_5 : decode cX0_gather 5 = .ok (.getfield 23, 3) := by decide +kernel
theorem dX0_gather_8 : decode cX0_gather 8 = .ok (.getfield 29, 3) := by decide +kernel
theorem dX0_gather_11 : decode cX0_gather 11 = .ok (.invokevirtual 32, 3) := by decide +kernel
theorem dX0_gather_14 : decode cX0_gather 14 = .ok (.aload_n 1, 1) := by decide +kernel
theorem dX0_gather_15 : decode cX0_gather 15 = .ok (.getfield 36, 3) := by decide +kernel
theorem dX0_gather_18 : decode cX0_gather 18 = .ok (.istore_n 2, 1) := by decide +kernel
theorem dX0_gather_19 : decode cX0_gather 19 = .ok (.iload_n 2, 1) := by decide +kernel
theorem dX0_gather_20 : decode cX0_gather 20 = .ok (.ifCond .lt 49, 3) := by decide +kernel
theorem dX0_gather_23 : decode cX0_gather 23 = .ok (.aload_n 1, 1) := by decide +kernel
theorem dX0_gather_24 : decode cX0_gather 24 = .ok (.iload_n 2, 1) := by decide +kernel
theorem dX0_gather_25 : decode cX0_gather 25 = .ok (.invokevirtual 40, 3) := by decide +kernel
theorem dX0_gather_28 : decode cX0_gather 28 = .ok (.astore_n 3, 1) := by decide +kernel
theorem dX0_gather_29 : decode cX0_gather 29 = .ok (.aload_n 3, 1) := by decide +kernel
theorem dX0_gather_30 : decode cX0_gather 30 = .ok (.ifnull 33, 3) := by decide +kernel
theorem dX0_gather_33 : decode cX0_gather 33 = .ok (.aload_n 0, 1) := by decide +kernel
theorem dX0_gather_34 : decode cX0_gather 34 = .ok (.getfield 20, 3) := by decide +kernel
theorem dX0_gather_37 : decode cX0_gather 37 = .ok (.astore 4, 2) := by decide +kernel
theorem dX0_gather_39 : decode cX0_gather 39 = .ok (.aload 4, 2) := by decide +kernel
theorem dX0_gather_41 : decode cX0_gather 41 = .ok (.aload_n 0, 1) := by decide +kernel
theorem dX0_gather_42 : decode cX0_gather 42 = .ok (.getfield 14, 3) := by decide +kernel
theorem dX0_gather_45 : decode cX0_gather 45 = .ok (.aload_n 3, 1) := by decide +kernel
theorem dX0_gather_46 : decode cX0_gather 46 = .ok (.invokevirtual 44, 3) := by decide +kernel
theorem dX0_gather_49 : decode cX0_gather 49 = .ok (.aload_n 0, 1) := by decide +kernel
theorem dX0_gather_50 : decode cX0_gather 50 = .ok (.aload_n 0, 1) := by decide +kernel
theorem dX0_gather_51 : decode cX0_gather 51 = .ok (.getfield 14, 3) := by decide +kernel
theorem dX0_gather_54 : decode cX0_gather 54 = .ok (.putfield 20, 3) := by decide +kernel
theorem dX0_gather_57 : decode cX0_gather 57 = .ok (.aload_n 0, 1) := by decide +kernel
theorem dX0_gather_58 : decode cX0_gather 58 = .ok (.aload 4, 2) := by decide +kernel
theorem dX0_gather_60 : decode cX0_gather 60 = .ok (.putfield 14, 3) := by decide +kernel
theorem dX0_gather_63 : decode cX0_gather 63 = .ok (.iinc 2 (-1), 3) := by decide +kernel
theorem dX0_gather_66 : decode cX0_gather 66 = .ok (.goto (-47), 3) := by decide +kernel
theorem dX0_gather_69 : decode cX0_gather 69 = .ok (.aload_n 0, 1) := by decide +kernel
theorem dX0_gather_70 : decode cX0_gather 70 = .ok (.getfield 14, 3) := by decide +kernel
theorem dX0_gather_73 : decode cX0_gather 73 = .ok (.invokevirtual 48, 3) := by decide +kernel
theorem dX0_gather_76 : decode cX0_gather 76 = .ok (.aload_n 0, 1) := by decide +kernel
theorem dX0_gather_77 : decode cX0_gather 77 = .ok (.getfield 14, 3) := by decide +kernel
theorem dX0_gather_80 : decode cX0_gather 80 = .ok (.areturn, 1) := by decide +kernel
theorem dX0_merge_0 : decode cX0_merge 0 = .ok (.aload_n 0, 1) := by decide +kernel
theorem dX0_merge_1 : decode cX0_merge 1 = .ok (.getfield 14, 3) := by decide +kernel
theorem dX0_merge_4 : decode cX0_merge 4 = .ok (.aload_n 1, 1) := by decide +kernel
theorem dX0_merge_5 : decode cX0_merge 5 = .ok (.aload_n 2, 1) := by decide +kernel
theorem dX0_merge_6 : decode cX0_merge 6 = .ok (.invokevirtual 44, 3) := by decide +kernel
theorem dX0_merge_9 : decode cX0_merge 9 = .ok (.aload_n 0, 1) := by decide +kernel
theorem dX0_merge_10 : decode cX0_merge 10 = .ok (.getfield 14, 3) := by decide +kernel
theorem dX0_merge_13 : decode cX0_merge 13 = .ok (.areturn, 1) := by decide +kernel
theorem dX1_init_0 : decode cX1_init 0 = .ok (.aload_n 0, 1) := by decide +kernel
theorem dX1_init_1 : decode cX1_init 1 = .ok (.invokespecial 3, 3) := by decide +kernel
theorem dX1_init_4 : decode cX1_init 4 = .ok (.return_, 1) := by decide +kernel
theorem dX1_begin_0 : decode cX1_begin 0 = .ok (.aload_n 0, 1) := by decide +kernel
theorem dX1_begin_1 : decode cX1_begin 1 = .ok (.iconst 0, 1) := by decide +kernel
theorem dX1_begin_2 : decode cX1_begin 2 = .ok (.putfield 11, 3) := by decide +kernel
theorem dX1_begin_5 : decode cX1_begin 5 = .ok (.aload_n 0, 1) := by decide +kernel
theorem dX1_begin_6 : decode cX1_begin 6 = .ok (.iconst 0, 1) := by decide +kernel
theorem dX1_begin_7 : decode cX1_begin 7 = .ok (.putfield 15, 3) := by decide +kernel
theorem dX1_begin_10 : decode cX1_begin 10 = .ok (.aload_n 0, 1) := by decide +kernel
theorem dX1_begin_11 : decode cX1_begin 11 = .ok (.iconst 0, 1) := by decide +kernel
theorem dX1_begin_12 : decode cX1_begin 12 = .ok (.putfield 18, 3) := by decide +kernel
theorem dX1_begin_15 : decode cX1_begin 15 = .ok (.aload_n 0, 1) := by decide +kernel
theorem dX1_begin_16 : decode cX1_begin 16 = .ok (.iconst 0, 1) := by decide +kernel
theorem dX1_begin_17 : decode cX1_begin 17 = .ok (.putfield 21, 3) := by decide +kernel
theorem dX1_begin_20 : decode cX1_begin 20 = .ok (.return_, 1) := by decide +kernel
theorem dX1_errorIn_0 : decode cX1_errorIn 0 = .ok (.aload_n 0, 1) := by decide +kernel
theorem dX1_errorIn_1 : decode cX1_errorIn 1 = .ok (.invokevirtual 24, 3) := by decide +kernel
theorem dX1_errorIn_4 : decode cX1_errorIn 4 = .ok (.iconst 0, 1) := by decide +kernel
theorem dX1_errorIn_5 : decode cX1_errorIn 5 = .ok (.istore_n 3, 1) := by decide +kernel
theorem dX1_errorIn_6 : decode cX1_errorIn 6 = .ok (.iload_n 3, 1) := by decide +kernel
theorem dX1_errorIn_7 : decode cX1_errorIn 7 = .ok (.iload_n 2, 1) := by decide +kernel
theorem dX1_errorIn_8 : decode cX1_errorIn 8 = .ok (.if_icmp .ge 27, 3) := by decide +kernel
theorem dX1_errorIn_11 : decode cX1_errorIn 11 = .ok (.iload_n 3, 1) := by decide +kernel
theorem dX1_errorIn_12 : decode cX1_errorIn 12 = .ok (.aload_n 1, 1) := by decide +kernel
theorem dX1_errorIn_13 : decode cX1_errorIn 13 = .ok (.arraylength, 1) := by decide +kernel
theorem dX1_errorIn_14 : decode cX1_errorIn 14 = .ok (.if_icmp .ge 21, 3) := by decide +kernel
theorem dX1_errorIn_17 : decode cX1_errorIn 17 = .ok (.aload_n 0, 1) := by decide +kernel
theorem dX1_errorIn_18 : decode cX1_errorIn 18 = .ok (.aload_n 1, 1) := by decide +kernel
theorem dX1_errorIn_19 : decode cX1_errorIn 19 = .ok (.iload_n 3, 1) := by decide +kernel
theorem dX1_errorIn_20 : decode cX1_errorIn 20 = .ok (.iaload, 1) := by decide +kernel
theorem dX1_errorIn_21 : decode cX1_errorIn 21 = .ok (.invokevirtual 27, 3) := by decide +kernel
theorem dX1_errorIn_24 : decode cX1_errorIn 24 = .ok (.ifCond .ne 5, 3) := by decide +kernel
theorem dX1_errorIn_27 : decode cX1_errorIn 27 = .ok (.iload_n 3, 1) := by decide +kernel
theorem dX1_errorIn_28 : decode cX1_errorIn 28 = .ok (.ireturn, 1) := by decide +kernel
theorem dX1_errorIn_29 : decode cX1_errorIn 29 = .ok (.iinc 3 1, 3) := by decide +kernel
theorem dX1_errorIn_32 : decode cX1_errorIn 32 = .ok (.goto (-26), 3) := by decide +kernel
theorem dX1_errorIn_35 : decode cX1_errorIn 35 = .ok (.iload_n 2, 1) := by decide +kernel
theorem dX1_errorIn_36 : decode cX1_errorIn 36 = .ok (.ireturn, 1) := by decide +kernel
theorem dX1_tellsOrders_0 : decode cX1_tellsOrders 0 = .ok (.aload_n 0, 1) := by decide +kernel
theorem dX1_tellsOrders_1 : decode cX1_tellsOrders 1 = .ok (.aload_n 1, 1) := by decide +kernel
theorem dX1_tellsOrders_2 : decode cX1_tellsOrders 2 = .ok (.iload_n 2, 1) := by decide +kernel
theorem dX1_tellsOrders_3 : decode cX1_tellsOrders 3 = .ok (.invokevirtual 31, 3) := by decide +kernel
theorem dX1_tellsOrders_6 : decode cX1_tellsOrders 6 = .ok (.iload_n 2, 1) := by decide +kernel
theorem dX1_tellsOrders_7 : decode cX1_tellsOrders 7 = .ok (.if_icmp .ne 14, 3) := by decide +kernel
theorem dX1_tellsOrders_10 : decode cX1_tellsOrders 10 = .ok (.aload_n 0, 1) := by decide +kernel
theorem dX1_tellsOrders_11 : decode cX1_tellsOrders 11 = .ok (.invokevirtual 35, 3) := by decide +kernel
theorem dX1_tellsOrders_14 : decode cX1_tellsOrders 14 = .ok (.ifCond .eq 7, 3) := by decide +kernel
theorem dX1_tellsOrders_17 : decode cX1_tellsOrders 17 = .ok (.iconst 1, 1) := by decide +kernel
theorem dX1_tellsOrders_18 : decode cX1_tellsOrders 18 = .ok (.goto 4, 3) := by decide +kernel
theorem dX1_tellsOrders_21 : decode cX1_tellsOrders 21 = .ok (.iconst 0, 1) := by decide +kernel
theorem dX1_tellsOrders_22 : decode cX1_tellsOrders 22 = .ok (.ireturn, 1) := by decide +kernel
theorem dX1_isComplete_0 : decode cX1_isComplete 0 = .ok (.aload_n 0, 1) := by decide +kernel
theorem dX1_isComplete_1 : decode cX1_isComplete 1 = .ok (.getfield 11, 3) := by decide +kernel
theorem dX1_isComplete_4 : decode cX1_isComplete 4 = .ok (.bipush 7, 2) := by decide +kernel
theorem dX1_isComplete_6 : decode cX1_isComplete 6 = .ok (.if_icmp .eq 37, 3) := by decide +kernel
theorem dX1_isComplete_9 : decode cX1_isComplete 9 = .ok (.aload_n 0, 1) := by decide +kernel
theorem dX1_isComplete_10 : decode cX1_isComplete 10 = .ok (.getfield 11, 3) := by decide +kernel
theorem dX1_isComplete_13 : decode cX1_isComplete 13 = .ok (.iconst 4, 1) := by decide +kernel
theorem dX1_isComplete_14 : decode cX1_isComplete 14 = .ok (.if_icmp .eq 29, 3) := by decide +kernel
theorem dX1_isComplete_17 : decode cX1_isComplete 17 = .ok (.aload_n 0, 1) := by decide +kernel
theorem dX1_isComplete_18 : decode cX1_isComplete 18 = .ok (.getfield 11, 3) := by decide +kernel
theorem dX1_isComplete_21 : decode cX1_isComplete 21 = .ok (.iconst 2, 1) := by decide +kernel
theorem dX1_isComplete_22 : decode cX1_isComplete 22 = .ok (.if_icmp .ne 25, 3) := by decide +kernel
theorem dX1_isComplete_25 : decode cX1_isComplete 25 = .ok (.aload_n 0, 1) := by decide +kernel
theorem dX1_isComplete_26 : decode cX1_isComplete 26 = .ok (.getfield 15, 3) := by decide +kernel
theorem dX1_isComplete_29 : decode cX1_isComplete 29 = .ok (.bipush 112, 2) := by decide +kernel
theorem dX1_isComplete_31 : decode cX1_isComplete 31 = .ok (.if_icmp .eq 16, 3) := by decide +kernel
theorem dX1_isComplete_34 : decode cX1_isComplete 34 = .ok (.aload_n 0, 1) := by decide +kernel
theorem dX1_isComplete_35 : decode cX1_isComplete 35 = .ok (.getfield 15, 3) := by decide +kernel
theorem dX1_isComplete_38 : decode cX1_isComplete 38 = .ok (.bipush 105, 2) := by decide +kernel
theorem dX1_isComplete_40 : decode cX1_isComplete 40 = .ok (.if_icmp .eq 7, 3) := by decide +kernel
theorem dX1_isComplete_43 : decode cX1_isComplete 43 = .ok (.iconst 1, 1) := by decide +kernel
theorem dX1_isComplete_44 : decode cX1_isComplete 44 = .ok (.goto 4, 3) := by decide +kernel
theorem dX1_isComplete_47 : decode cX1_isComplete 47 = .ok (.iconst 0, 1) := by decide +kernel
theorem dX1_isComplete_48 : decode cX1_isComplete 48 = .ok (.ireturn, 1) := by decide +kernel
theorem dX1_accepts_0 : decode cX1_accepts 0 = .ok (.aload_n 0, 1) := by decide +kernel
theorem dX1_accepts_1 : decode cX1_accepts 1 = .ok (.aload_n 0, 1) := by decide +kernel
theorem dX1_accepts_2 : decode cX1_accepts 2 = .ok (.iload_n 1, 1) := by decide +kernel
theorem dX1_accepts_3 : decode cX1_accepts 3 = .ok (.invokevirtual 39, 3) := by decide +kernel
theorem dX1_accepts_6 : decode cX1_accepts 6 = .ok (.putfield 11, 3) := by decide +kernel
theorem dX1_accepts_9 : decode cX1_accepts 9 = .ok (.aload_n 0, 1) := by decide +kernel
theorem dX1_accepts_10 : decode cX1_accepts 10 = .ok (.getfield 11, 3) := by decide +kernel
theorem dX1_accepts_13 : decode cX1_accepts 13 = .ok (.bipush 8, 2) := by decide +kernel
theorem dX1_accepts_15 : decode cX1_accepts 15 = .ok (.if_icmp .eq 7, 3) := by decide +kernel
theorem dX1_accepts_18 : decode cX1_accepts 18 = .ok (.iconst 1, 1) := by decide +kernel
theorem dX1_accepts_19 : decode cX1_accepts 19 = .ok (.goto 4, 3) := by decide +kernel
theorem dX1_accepts_22 : decode cX1_accepts 22 = .ok (.iconst 0, 1) := by decide +kernel
theorem dX1_accepts_23 : decode cX1_accepts 23 = .ok (.ireturn, 1) := by decide +kernel
theorem dX1_modeAfter_0 : decode cX1_modeAfter 0 = .ok (.iload_n 1, 1) := by decide +kernel
theorem dX1_modeAfter_1 : decode cX1_modeAfter 1 = .ok (.bipush 59, 2) := by decide +kernel
theorem dX1_modeAfter_3 : decode cX1_modeAfter 3 = .ok (.if_icmp .ne 12, 3) := by decide +kernel
theorem dX1_modeAfter_6 : decode cX1_modeAfter 6 = .ok (.aload_n 0, 1) := by decide +kernel
theorem dX1_modeAfter_7 : decode cX1_modeAfter 7 = .ok (.invokevirtual 35, 3) := by decide +kernel
theorem dX1_modeAfter_10 : decode cX1_modeAfter 10 = .ok (.ifCond .eq 5, 3) := by decide +kernel
theorem dX1_modeAfter_13 : decode cX1_modeAfter 13 = .ok (.iconst 0, 1) := by decide +kernel
theorem dX1_modeAfter_14 : decode cX1_modeAfter 14 = .ok (.ireturn, 1) := by decide +kernel
theorem dX1_modeAfter_15 : decode cX1_modeAfter 15 = .ok (.aload_n 0, 1) := by decide +kernel
theorem dX1_modeAfter_16 : decode cX1_modeAfter 16 = .ok (.getfield 11, 3) := by decide +kernel
theorem dX1_modeAfter_19 : decode cX1_modeAfter 19 = .ok (.tableswitch 65 0 6 #[41, 47, 47, 53, 53, 59, 59], 41) := by decide +kernel
theorem dX1_modeAfter_60 : decode cX1_modeAfter 60 = .ok (.aload_n 0, 1) := by decide +kernel
theorem dX1_modeAfter_61 : decode cX1_modeAfter 61 = .ok (.iload_n 1, 1) := by decide +kernel
theorem dX1_modeAfter_62 : decode cX1_modeAfter 62 = .ok (.invokevirtual 43, 3) := by decide +kernel
theorem dX1_modeAfter_65 : decode cX1_modeAfter 65 = .ok (.ireturn, 1) := by decide +kernel
theorem dX1_modeAfter_66 : decode cX1_modeAfter 66 = .ok (.aload_n 0, 1) := by decide +kernel
theorem dX1_modeAfter_67 : decode cX1_modeAfter 67 = .ok (.iload_n 1, 1) := by decide +kernel
theorem dX1_modeAfter_68 : decode cX1_modeAfter 68 = .ok (.invokevirtual 46, 3) := by decide +kernel
theorem dX1_modeAfter_71 : decode cX1_modeAfter 71 = .ok (.ireturn, 1) := by decide +kernel
theorem dX1_modeAfter_72 : decode cX1_modeAfter 72 = .ok (.aload_n 0, 1) := by decide +kernel
theorem dX1_modeAfter_73 : decode cX1_modeAfter 73 = .ok (.iload_n 1, 1) := by decide +kernel
theorem dX1_modeAfter_74 : decode cX1_modeAfter 74 = .ok (.invokevirtual 49, 3) := by decide +kernel
theorem dX1_modeAfter_77 : decode cX1_modeAfter 77 = .ok (.ireturn, 1) := by decide +kernel
theorem dX1_modeAfter_78 : decode cX1_modeAfter 78 = .ok (.aload_n 0, 1) := by decide +kernel
theorem dX1_modeAfter_79 : decode cX1_modeAfter 79 = .ok (.iload_n 1, 1) := by decide +kernel
theorem dX1_modeAfter_80 : decode cX1_modeAfter 80 = .ok (.invokevirtual 52, 3) := by decide +kernel
theorem dX1_modeAfter_83 : decode cX1_modeAfter 83 = .ok (.ireturn, 1) := by decide +kernel
theorem dX1_modeAfter_84 : decode cX1_modeAfter 84 = .ok (.bipush 8, 2) := by decide +kernel
theorem dX1_modeAfter_86 : decode cX1_modeAfter 86 = .ok (.ireturn, 1) := by decide +kernel
theorem dX1_readLetter_0 : decode cX1_readLetter 0 = .ok (.aload_n 0, 1) := by decide +kernel
theorem dX1_readLetter_1 : decode cX1_readLetter 1 = .ok (.iload_n 1, 1) := by decide +kernel
theorem dX1_readLetter_2 : decode cX1_readLetter 2 = .ok (.putfield 15, 3) := by decide +kernel
theorem dX1_readLetter_5 : decode cX1_readLetter 5 = .ok (.aload_n 0, 1) := by decide +kernel
theorem dX1_readLetter_6 : decode cX1_readLetter 6 = .ok (.iconst 0, 1) := by decide +kernel
theorem dX1_readLetter_7 : decode cX1_readLetter 7 = .ok (.putfield 18, 3) := by decide +kernel
theorem dX1_readLetter_10 : decode cX1_readLetter 10 = .ok (.aload_n 0, 1) := by decide +kernel
theorem dX1_readLetter_11 : decode cX1_readLetter 11 = .ok (.iconst 0, 1) := by decide +kernel
theorem dX1_readLetter_12 : decode cX1_readLetter 12 = .ok (.putfield 21, 3) := by decide +kernel
theorem dX1_readLetter_15 : decode cX1_readLetter 15 = .ok (.iload_n 1, 1) := by decide +kernel
theorem dX1_readLetter_16 : decode cX1_readLetter 16 = .ok (.tableswitch 83 98 112 #[78, 80, 76, 76, 83, 83, 83, 76, 83, 83, 83, 83, 83, 83, 76], 76) := by decide +kernel
theorem dX1_readLetter_92 : decode cX1_readLetter 92 = .ok (.iconst 1, 1) := by decide +kernel
theorem dX1_readLetter_93 : decode cX1_readLetter 93 = .ok (.ireturn, 1) := by decide +kernel
theorem dX1_readLetter_94 : decode cX1_readLetter 94 = .ok (.iconst 5, 1) := by decide +kernel
theorem dX1_readLetter_95 : decode cX1_readLetter 95 = .ok (.ireturn, 1) := by decide +kernel
theorem dX1_readLetter_96 : decode cX1_readLetter 96 = .ok (.bipush 7, 2) := by decide +kernel
theorem dX1_readLetter_98 : decode cX1_readLetter 98 = .ok (.ireturn, 1) := by decide +kernel
theorem dX1_readLetter_99 : decode cX1_readLetter 99 = .ok (.bipush 8, 2) := by decide +kernel
theorem dX1_readLetter_101 : decode cX1_readLetter 101 = .ok (.ireturn, 1) := by decide +kernel
theorem dX1_readKey_0 : decode cX1_readKey 0 = .ok (.iload_n 1, 1) := by decide +kernel
theorem dX1_readKey_1 : decode cX1_readKey 1 = .ok (.bipush 61, 2) := by decide +kernel
theorem dX1_readKey_3 : decode cX1_readKey 3 = .ok (.if_icmp .ne 31, 3) := by decide +kernel
theorem dX1_readKey_6 : decode cX1_readKey 6 = .ok (.aload_n 0, 1) := by decide +kernel
theorem dX1_readKey_7 : decode cX1_readKey 7 = .ok (.getfield 11, 3) := by decide +kernel
theorem dX1_readKey_10 : decode cX1_readKey 10 = .ok (.iconst 2, 1) := by decide +kernel
theorem dX1_readKey_11 : decode cX1_readKey 11 = .ok (.if_icmp .ne 23, 3) := by decide +kernel
theorem dX1_readKey_14 : decode cX1_readKey 14 = .ok (.aload_n 0, 1) := by decide +kernel
theorem dX1_readKey_15 : decode cX1_readKey 15 = .ok (.getfield 15, 3) := by decide +kernel
theorem dX1_readKey_18 : decode cX1_readKey 18 = .ok (.bipush 112, 2) := by decide +kernel
theorem dX1_readKey_20 : decode cX1_readKey 20 = .ok (.if_icmp .eq 12, 3) := by decide +kernel
theorem dX1_readKey_23 : decode cX1_readKey 23 = .ok (.aload_n 0, 1) := by decide +kernel
theorem dX1_readKey_24 : decode cX1_readKey 24 = .ok (.getfield 15, 3) := by decide +kernel
theorem dX1_readKey_27 : decode cX1_readKey 27 = .ok (.bipush 105, 2) := by decide +kernel
theorem dX1_readKey_29 : decode cX1_readKey 29 = .ok (.if_icmp .ne 5, 3) := by decide +kernel
theorem dX1_readKey_32 : decode cX1_readKey 32 = .ok (.iconst 3, 1) := by decide +kernel
theorem dX1_readKey_33 : decode cX1_readKey 33 = .ok (.ireturn, 1) := by decide +kernel
theorem dX1_readKey_34 : decode cX1_readKey 34 = .ok (.iload_n 1, 1) := by decide +kernel
theorem dX1_readKey_35 : decode cX1_readKey 35 = .ok (.invokestatic 55, 3) := by decide +kernel
theorem dX1_readKey_38 : decode cX1_readKey 38 = .ok (.ifCond .eq 18, 3) := by decide +kernel
theorem dX1_readKey_41 : decode cX1_readKey 41 = .ok (.aload_n 0, 1) := by decide +kernel
theorem dX1_readKey_42 : decode cX1_readKey 42 = .ok (.getfield 11, 3) := by decide +kernel
theorem dX1_readKey_45 : decode cX1_readKey 45 = .ok (.iconst 2, 1) := by decide +kernel
theorem dX1_readKey_46 : decode cX1_readKey 46 = .ok (.if_icmp .ne 13, 3) := by decide +kernel
theorem dX1_readKey_49 : decode cX1_readKey 49 = .ok (.aload_n 0, 1) := by decide +kernel
theorem dX1_readKey_50 : decode cX1_readKey 50 = .ok (.getfield 18, 3) := by decide +kernel
theorem dX1_readKey_53 : decode cX1_readKey 53 = .ok (.ifCond .ne 6, 3) := by decide +kernel
theorem dX1_readKey_56 : decode cX1_readKey 56 = .ok (.bipush 8, 2) := by decide +kernel
theorem dX1_readKey_58 : decode cX1_readKey 58 = .ok (.ireturn, 1) := by decide +kernel
theorem dX1_readKey_59 : decode cX1_readKey 59 = .ok (.aload_n 0, 1) := by decide +kernel
theorem dX1_readKey_60 : decode cX1_readKey 60 = .ok (.aload_n 0, 1) := by decide +kernel
theorem dX1_readKey_61 : decode cX1_readKey 61 = .ok (.getfield 18, 3) := by decide +kernel
theorem dX1_readKey_64 : decode cX1_readKey 64 = .ok (.bipush 10, 2) := by decide +kernel
theorem dX1_readKey_66 : decode cX1_readKey 66 = .ok (.imul, 1) := by decide +kernel
theorem dX1_readKey_67 : decode cX1_readKey 67 = .ok (.iload_n 1, 1) := by decide +kernel
theorem dX1_readKey_68 : decode cX1_readKey 68 = .ok (.iadd, 1) := by decide +kernel
theorem dX1_readKey_69 : decode cX1_readKey 69 = .ok (.bipush 48, 2) := by decide +kernel
theorem dX1_readKey_71 : decode cX1_readKey 71 = .ok (.isub, 1) := by decide +kernel
theorem dX1_readKey_72 : decode cX1_readKey 72 = .ok (.putfield 18, 3) := by decide +kernel
theorem dX1_readKey_75 : decode cX1_readKey 75 = .ok (.aload_n 0, 1) := by decide +kernel
theorem dX1_readKey_76 : decode cX1_readKey 76 = .ok (.getfield 18, 3) := by decide +kernel
theorem dX1_readKey_79 : decode cX1_readKey 79 = .ok (.sipush 9999, 3) := by decide +kernel
theorem dX1_readKey_82 : decode cX1_readKey 82 = .ok (.if_icmp .le 8, 3) := by decide +kernel
theorem dX1_readKey_85 : decode cX1_readKey 85 = .ok (.bipush 8, 2) := by decide +kernel
theorem dX1_readKey_87 : decode cX1_readKey 87 = .ok (.goto 4, 3) := by decide +kernel
theorem dX1_readKey_90 : decode cX1_readKey 90 = .ok (.iconst 2, 1) := by decide +kernel
theorem dX1_readKey_91 : decode cX1_readKey 91 = .ok (.ireturn, 1) := by decide +kernel
theorem dX1_readValue_0 : decode cX1_readValue 0 = .ok (.iload_n 1, 1) := by decide +kernel
theorem dX1_readValue_1 : decode cX1_readValue 1 = .ok (.invokestatic 55, 3) := by decide +kernel
theorem dX1_readValue_4 : decode cX1_readValue 4 = .ok (.ifCond .eq 18, 3) := by decide +kernel
theorem dX1_readValue_7 : decode cX1_readValue 7 = .ok (.aload_n 0, 1) := by decide +kernel
theorem dX1_readValue_8 : decode cX1_readValue 8 = .ok (.getfield 11, 3) := by decide +kernel
theorem dX1_readValue_11 : decode cX1_readValue 11 = .ok (.iconst 4, 1) := by decide +kernel
theorem dX1_readValue_12 : decode cX1_readValue 12 = .ok (.if_icmp .ne 13, 3) := by decide +kernel
theorem dX1_readValue_15 : decode cX1_readValue 15 = .ok (.aload_n 0, 1) := by decide +kernel
theorem dX1_readValue_16 : decode cX1_readValue 16 = .ok (.getfield 21, 3) := by decide +kernel
theorem dX1_readValue_19 : decode cX1_readValue 19 = .ok (.ifCond .ne 6, 3) := by decide +kernel
theorem dX1_readValue_22 : decode cX1_readValue 22 = .ok (.bipush 8, 2) := by decide +kernel
theorem dX1_readValue_24 : decode cX1_readValue 24 = .ok (.ireturn, 1) := by decide +kernel
theorem dX1_readValue_25 : decode cX1_readValue 25 = .ok (.aload_n 0, 1) := by decide +kernel
theorem dX1_readValue_26 : decode cX1_readValue 26 = .ok (.aload_n 0, 1) := by decide +kernel
theorem dX1_readValue_27 : decode cX1_readValue 27 = .ok (.getfield 21, 3) := by decide +kernel
theorem dX1_readValue_30 : decode cX1_readValue 30 = .ok (.bipush 10, 2) := by decide +kernel
theorem dX1_readValue_32 : decode cX1_readValue 32 = .ok (.imul, 1) := by decide +kernel
theorem dX1_readValue_33 : decode cX1_readValue 33 = .ok (.iload_n 1, 1) := by decide +kernel
theorem dX1_readValue_34 : decode cX1_readValue 34 = .ok (.iadd, 1) := by decide +kernel
theorem dX1_readValue_35 : decode cX1_readValue 35 = .ok (.bipush 48, 2) := by decide +kernel
theorem dX1_readValue_37 : decode cX1_readValue 37 = .ok (.isub, 1) := by decide +kernel
theorem dX1_readValue_38 : decode cX1_readValue 38 = .ok (.putfield 21, 3) := by decide +kernel
theorem dX1_readValue_41 : decode cX1_readValue 41 = .ok (.aload_n 0, 1) := by decide +kernel
theorem dX1_readValue_42 : decode cX1_readValue 42 = .ok (.getfield 21, 3) := by decide +kernel
theorem dX1_readValue_45 : decode cX1_readValue 45 = .ok (.bipush 99, 2) := by decide +kernel
theorem dX1_readValue_47 : decode cX1_readValue 47 = .ok (.if_icmp .le 8, 3) := by decide +kernel
theorem dX1_readValue_50 : decode cX1_readValue 50 = .ok (.bipush 8, 2) := by decide +kernel
theorem dX1_readValue_52 : decode cX1_readValue 52 = .ok (.goto 4, 3) := by decide +kernel
theorem dX1_readValue_55 : decode cX1_readValue 55 = .ok (.iconst 4, 1) := by decide +kernel
theorem dX1_readValue_56 : decode cX1_readValue 56 = .ok (.ireturn, 1) := by decide +kernel
theorem dX1_readFill_0 : decode cX1_readFill 0 = .ok (.iload_n 1, 1) := by decide +kernel
theorem dX1_readFill_1 : decode cX1_readFill 1 = .ok (.invokestatic 55, 3) := by decide +kernel
theorem dX1_readFill_4 : decode cX1_readFill 4 = .ok (.ifCond .ne 6, 3) := by decide +kernel
theorem dX1_readFill_7 : decode cX1_readFill 7 = .ok (.bipush 8, 2) := by decide +kernel
theorem dX1_readFill_9 : decode cX1_readFill 9 = .ok (.ireturn, 1) := by decide +kernel
theorem dX1_readFill_10 : decode cX1_readFill 10 = .ok (.aload_n 0, 1) := by decide +kernel
theorem dX1_readFill_11 : decode cX1_readFill 11 = .ok (.aload_n 0, 1) := by decide +kernel
theorem dX1_readFill_12 : decode cX1_readFill 12 = .ok (.getfield 18, 3) := by decide +kernel
theorem dX1_readFill_15 : decode cX1_readFill 15 = .ok (.bipush 10, 2) := by decide +kernel
theorem dX1_readFill_17 : decode cX1_readFill 17 = .ok (.imul, 1) := by decide +kernel
theorem dX1_readFill_18 : decode cX1_readFill 18 = .ok (.iload_n 1, 1) := by decide +kernel
theorem dX1_readFill_19 : decode cX1_readFill 19 = .ok (.iadd, 1) := by decide +kernel
theorem dX1_readFill_20 : decode cX1_readFill 20 = .ok (.bipush 48, 2) := by decide +kernel
theorem dX1_readFill_22 : decode cX1_readFill 22 = .ok (.isub, 1) := by decide +kernel
theorem dX1_readFill_23 : decode cX1_readFill 23 = .ok (.putfield 18, 3) := by decide +kernel
theorem dX1_readFill_26 : decode cX1_readFill 26 = .ok (.aload_n 0, 1) := by decide +kernel
theorem dX1_readFill_27 : decode cX1_readFill 27 = .ok (.getfield 18, 3) := by decide +kernel
theorem dX1_readFill_30 : decode cX1_readFill 30 = .ok (.bipush 50, 2) := by decide +kernel
theorem dX1_readFill_32 : decode cX1_readFill 32 = .ok (.if_icmp .lt 15, 3) := by decide +kernel
theorem dX1_readFill_35 : decode cX1_readFill 35 = .ok (.aload_n 0, 1) := by decide +kernel
theorem dX1_readFill_36 : decode cX1_readFill 36 = .ok (.getfield 18, 3) := by decide +kernel
theorem dX1_readFill_39 : decode cX1_readFill 39 = .ok (.bipush 100, 2) := by decide +kernel
theorem dX1_readFill_41 : decode cX1_readFill 41 = .ok (.if_icmp .gt 6, 3) := by decide +kernel
theorem dX1_readFill_44 : decode cX1_readFill 44 = .ok (.bipush 7, 2) := by decide +kernel
theorem dX1_readFill_46 : decode cX1_readFill 46 = .ok (.ireturn, 1) := by decide +kernel
theorem dX1_readFill_47 : decode cX1_readFill 47 = .ok (.aload_n 0, 1) := by decide +kernel
theorem dX1_readFill_48 : decode cX1_readFill 48 = .ok (.getfield 18, 3) := by decide +kernel
theorem dX1_readFill_51 : decode cX1_readFill 51 = .ok (.iconst 1, 1) := by decide +kernel
theorem dX1_readFill_52 : decode cX1_readFill 52 = .ok (.if_icmp .eq 29, 3) := by decide +kernel
theorem dX1_readFill_55 : decode cX1_readFill 55 = .ok (.aload_n 0, 1) := by decide +kernel
theorem dX1_readFill_56 : decode cX1_readFill 56 = .ok (.getfield 18, 3) := by decide +kernel
theorem dX1_readFill_59 : decode cX1_readFill 59 = .ok (.bipush 10, 2) := by decide +kernel
theorem dX1_readFill_61 : decode cX1_readFill 61 = .ok (.if_icmp .eq 20, 3) := by decide +kernel
theorem dX1_readFill_64 : decode cX1_readFill 64 = .ok (.aload_n 0, 1) := by decide +kernel
theorem dX1_readFill_65 : decode cX1_readFill 65 = .ok (.getfield 18, 3) := by decide +kernel
theorem dX1_readFill_68 : decode cX1_readFill 68 = .ok (.iconst 5, 1) := by decide +kernel
theorem dX1_readFill_69 : decode cX1_readFill 69 = .ok (.if_icmp .lt 17, 3) := by decide +kernel
theorem dX1_readFill_72 : decode cX1_readFill 72 = .ok (.aload_n 0, 1) := by decide +kernel
theorem dX1_readFill_73 : decode cX1_readFill 73 = .ok (.getfield 18, 3) := by decide +kernel
theorem dX1_readFill_76 : decode cX1_readFill 76 = .ok (.bipush 9, 2) := by decide +kernel
theorem dX1_readFill_78 : decode cX1_readFill 78 = .ok (.if_icmp .gt 8, 3) := by decide +kernel
theorem dX1_readFill_81 : decode cX1_readFill 81 = .ok (.bipush 6, 2) := by decide +kernel
theorem dX1_readFill_83 : decode cX1_readFill 83 = .ok (.goto 5, 3) := by decide +kernel
theorem dX1_readFill_86 : decode cX1_readFill 86 = .ok (.bipush 8, 2) := by decide +kernel
theorem dX1_readFill_88 : decode cX1_readFill 88 = .ok (.ireturn, 1) := by decide +kernel
theorem dX1_isDigit_0 : decode cX1_isDigit 0 = .ok (.iload_n 0, 1) := by decide +kernel
theorem dX1_isDigit_1 : decode cX1_isDigit 1 = .ok (.bipush 48, 2) := by decide +kernel
theorem dX1_isDigit_3 : decode cX1_isDigit 3 = .ok (.if_icmp .lt 13, 3) := by decide +kernel
theorem dX1_isDigit_6 : decode cX1_isDigit 6 = .ok (.iload_n 0, 1) := by decide +kernel
theorem dX1_isDigit_7 : decode cX1_isDigit 7 = .ok (.bipush 57, 2) := by decide +kernel
theorem dX1_isDigit_9 : decode cX1_isDigit 9 = .ok (.if_icmp .gt 7, 3) := by decide +kernel
theorem dX1_isDigit_12 : decode cX1_isDigit 12 = .ok (.iconst 1, 1) := by decide +kernel
theorem dX1_isDigit_13 : decode cX1_isDigit 13 = .ok (.goto 4, 3) := by decide +kernel
theorem dX1_isDigit_16 : decode cX1_isDigit 16 = .ok (.iconst 0, 1) := by decide +kernel
theorem dX1_isDigit_17 : decode cX1_isDigit 17 = .ok (.ireturn, 1) := by decide +kernel
theorem dX2_init_0 : decode cX2_init 0 = .ok (.aload_n 0, 1) := by decide +kernel
theorem dX2_init_1 : decode cX2_init 1 = .ok (.invokespecial 3, 3) := by decide +kernel
theorem dX2_init_4 : decode cX2_init 4 = .ok (.aload_n 0, 1) := by decide +kernel
theorem dX2_init_5 : decode cX2_init 5 = .ok (.iload_n 1, 1) := by decide +kernel
theorem dX2_init_6 : decode cX2_init 6 = .ok (.iconst 0, 1) := by decide +kernel
theorem dX2_init_7 : decode cX2_init 7 = .ok (.invokestatic 9, 3) := by decide +kernel
theorem dX2_init_10 : decode cX2_init 10 = .ok (.newarray .int, 2) := by decide +kernel
theorem dX2_init_12 : decode cX2_init 12 = .ok (.putfield 15, 3) := by decide +kernel
theorem dX2_init_15 : decode cX2_init 15 = .ok (.aload_n 0, 1) := by decide +kernel
theorem dX2_init_16 : decode cX2_init 16 = .ok (.iload_n 1, 1) := by decide +kernel
theorem dX2_init_17 : decode cX2_init 17 = .ok (.iconst 0, 1) := by decide +kernel
theorem dX2_init_18 : decode cX2_init 18 = .ok (.invokestatic 9, 3) := by decide +kernel
theorem dX2_init_21 : decode cX2_init 21 = .ok (.newarray .int, 2) := by decide +kernel
theorem dX2_init_23 : decode cX2_init 23 = .ok (.putfield 21, 3) := by decide +kernel
theorem dX2_init_26 : decode cX2_init 26 = .ok (.return_, 1) := by decide +kernel
theorem dX2_has_0 : decode cX2_has 0 = .ok (.iload_n 1, 1) := by decide +kernel
theorem dX2_has_1 : decode cX2_has 1 = .ok (.ifCond .lt 33, 3) := by decide +kernel
theorem dX2_has_4 : decode cX2_has 4 = .ok (.iload_n 1, 1) := by decide +kernel
theorem dX2_has_5 : decode cX2_has 5 = .ok (.aload_n 0, 1) := by decide +kernel
theorem dX2_has_6 : decode cX2_has 6 = .ok (.getfield 24, 3) := by decide +kernel
theorem dX2_has_9 : decode cX2_has 9 = .ok (.if_icmp .ge 25, 3) := by decide +kernel
theorem dX2_has_12 : decode cX2_has 12 = .ok (.iload_n 1, 1) := by decide +kernel
theorem dX2_has_13 : decode cX2_has 13 = .ok (.aload_n 0, 1) := by decide +kernel
theorem dX2_has_14 : decode cX2_has 14 = .ok (.getfield 15, 3) := by decide +kernel
theorem dX2_has_17 : decode cX2_has 17 = .ok (.arraylength, 1) := by decide +kernel
theorem dX2_has_18 : decode cX2_has 18 = .ok (.if_icmp .ge 16, 3) := by decide +kernel
theorem dX2_has_21 : decode cX2_has 21 = .ok (.iload_n 1, 1) := by decide +kernel
theorem dX2_has_22 : decode cX2_has 22 = .ok (.aload_n 0, 1) := by decide +kernel
theorem dX2_has_23 : decode cX2_has 23 = .ok (.getfield 21, 3) := by decide +kernel
theorem dX2_has_26 : decode cX2_has 26 = .ok (.arraylength, 1) := by decide +kernel
theorem dX2_has_27 : decode cX2_has 27 = .ok (.if_icmp .ge 7, 3) := by decide +kernel
theorem dX2_has_30 : decode cX2_has 30 = .ok (.iconst 1, 1) := by decide +kernel
theorem dX2_has_31 : decode cX2_has 31 = .ok (.goto 4, 3) := by decide +kernel
theorem dX2_has_34 : decode cX2_has 34 = .ok (.iconst 0, 1) := by decide +kernel
theorem dX2_has_35 : decode cX2_has 35 = .ok (.ireturn, 1) := by decide +kernel
theorem dX2_keyOn_0 : decode cX2_keyOn 0 = .ok (.iload_n 1, 1) := by decide +kernel
theorem dX2_keyOn_1 : decode cX2_keyOn 1 = .ok (.ifCond .lt 29, 3) := by decide +kernel
theorem dX2_keyOn_4 : decode cX2_keyOn 4 = .ok (.iload_n 1, 1) := by decide +kernel
theorem dX2_keyOn_5 : decode cX2_keyOn 5 = .ok (.aload_n 0, 1) := by decide +kernel
theorem dX2_keyOn_6 : decode cX2_keyOn 6 = .ok (.getfield 24, 3) := by decide +kernel
theorem dX2_keyOn_9 : decode cX2_keyOn 9 = .ok (.if_icmp .ge 21, 3) := by decide +kernel
theorem dX2_keyOn_12 : decode cX2_keyOn 12 = .ok (.iload_n 1, 1) := by decide +kernel
theorem dX2_keyOn_13 : decode cX2_keyOn 13 = .ok (.aload_n 0, 1) := by decide +kernel
theorem dX2_keyOn_14 : decode cX2_keyOn 14 = .ok (.getfield 15, 3) := by decide +kernel
theorem dX2_keyOn_17 : decode cX2_keyOn 17 = .ok (.arraylength, 1) := by decide +kernel
theorem dX2_keyOn_18 : decode cX2_keyOn 18 = .ok (.if_icmp .ge 12, 3) := by decide +kernel
theorem dX2_keyOn_21 : decode cX2_keyOn 21 = .ok (.aload_n 0, 1) := by decide +kernel
theorem dX2_keyOn_22 : decode cX2_keyOn 22 = .ok (.getfield 15, 3) := by decide +kernel
theorem dX2_keyOn_25 : decode cX2_keyOn 25 = .ok (.iload_n 1, 1) := by decide +kernel
theorem dX2_keyOn_26 : decode cX2_keyOn 26 = .ok (.iaload, 1) := by decide +kernel
theorem dX2_keyOn_27 : decode cX2_keyOn 27 = .ok (.goto 4, 3) := by decide +kernel
theorem dX2_keyOn_30 : decode cX2_keyOn 30 = .ok (.iconst (-1), 1) := by decide +kernel
theorem dX2_keyOn_31 : decode cX2_keyOn 31 = .ok (.ireturn, 1) := by decide +kernel
theorem dX2_valueOn_0 : decode cX2_valueOn 0 = .ok (.iload_n 1, 1) := by decide +kernel
theorem dX2_valueOn_1 : decode cX2_valueOn 1 = .ok (.ifCond .lt 29, 3) := by decide +kernel
theorem dX2_valueOn_4 : decode cX2_valueOn 4 = .ok (.iload_n 1, 1) := by decide +kernel
theorem dX2_valueOn_5 : decode cX2_valueOn 5 = .ok (.aload_n 0, 1) := by decide +kernel
theorem dX2_valueOn_6 : decode cX2_valueOn 6 = .ok (.getfield 24, 3) := by decide +kernel
theorem dX2_valueOn_9 : decode cX2_valueOn 9 = .ok (.if_icmp .ge 21, 3) := by decide +kernel
theorem dX2_valueOn_12 : decode cX2_valueOn 12 = .ok (.iload_n 1, 1) := by decide +kernel
theorem dX2_valueOn_13 : decode cX2_valueOn 13 = .ok (.aload_n 0, 1) := by decide +kernel
theorem dX2_valueOn_14 : decode cX2_valueOn 14 = .ok (.getfield 21, 3) := by decide +kernel
theorem dX2_valueOn_17 : decode cX2_valueOn 17 = .ok (.arraylength, 1) := by decide +kernel
theorem dX2_valueOn_18 : decode cX2_valueOn 18 = .ok (.if_icmp .ge 12, 3) := by decide +kernel
theorem dX2_valueOn_21 : decode cX2_valueOn 21 = .ok (.aload_n 0, 1) := by decide +kernel
theorem dX2_valueOn_22 : decode cX2_valueOn 22 = .ok (.getfield 21, 3) := by decide +kernel
theorem dX2_valueOn_25 : decode cX2_valueOn 25 = .ok (.iload_n 1, 1) := by decide +kernel
theorem dX2_valueOn_26 : decode cX2_valueOn 26 = .ok (.iaload, 1) := by decide +kernel
theorem dX2_valueOn_27 : decode cX2_valueOn 27 = .ok (.goto 4, 3) := by decide +kernel
theorem dX2_valueOn_30 : decode cX2_valueOn 30 = .ok (.iconst (-1), 1) := by decide +kernel
theorem dX2_valueOn_31 : decode cX2_valueOn 31 = .ok (.ireturn, 1) := by decide +kernel
theorem dX2_firstFrom_0 : decode cX2_firstFrom 0 = .ok (.iconst 0, 1) := by decide +kernel
theorem dX2_firstFrom_1 : decode cX2_firstFrom 1 = .ok (.istore_n 2, 1) := by decide +kernel
theorem dX2_firstFrom_2 : decode cX2_firstFrom 2 = .ok (.aload_n 0, 1) := by decide +kernel
theorem dX2_firstFrom_3 : decode cX2_firstFrom 3 = .ok (.getfield 24, 3) := by decide +kernel
theorem dX2_firstFrom_6 : decode cX2_firstFrom 6 = .ok (.istore_n 3, 1) := by decide +kernel
theorem dX2_firstFrom_7 : decode cX2_firstFrom 7 = .ok (.iconst 0, 1) := by decide +kernel
theorem dX2_firstFrom_8 : decode cX2_firstFrom 8 = .ok (.istore 4, 2) := by decide +kernel
theorem dX2_firstFrom_10 : decode cX2_firstFrom 10 = .ok (.iload 4, 2) := by decide +kernel
theorem dX2_firstFrom_12 : decode cX2_firstFrom 12 = .ok (.bipush 32, 2) := by decide +kernel
theorem dX2_firstFrom_14 : decode cX2_firstFrom 14 = .ok (.if_icmp .ge 53, 3) := by decide +kernel
theorem dX2_firstFrom_17 : decode cX2_firstFrom 17 = .ok (.iload_n 2, 1) := by decide +kernel
theorem dX2_firstFrom_18 : decode cX2_firstFrom 18 = .ok (.iload_n 3, 1) := by decide +kernel
theorem dX2_firstFrom_19 : decode cX2_firstFrom 19 = .ok (.if_icmp .ge 48, 3) := by decide +kernel
theorem dX2_firstFrom_22 : decode cX2_firstFrom 22 = .ok (.iload_n 2, 1) := by decide +kernel
theorem dX2_firstFrom_23 : decode cX2_firstFrom 23 = .ok (.iload_n 3, 1) := by decide +kernel
theorem dX2_firstFrom_24 : decode cX2_firstFrom 24 = .ok (.iadd, 1) := by decide +kernel
theorem dX2_firstFrom_25 : decode cX2_firstFrom 25 = .ok (.iconst 1, 1) := by decide +kernel
theorem dX2_firstFrom_26 : decode cX2_firstFrom 26 = .ok (.iushr, 1) := by decide +kernel
theorem dX2_firstFrom_27 : decode cX2_firstFrom 27 = .ok (.istore 5, 2) := by decide +kernel
theorem dX2_firstFrom_29 : decode cX2_firstFrom 29 = .ok (.iload 5, 2) := by decide +kernel
theorem dX2_firstFrom_31 : decode cX2_firstFrom 31 = .ok (.aload_n 0, 1) := by decide +kernel
theorem dX2_firstFrom_32 : decode cX2_firstFrom 32 = .ok (.getfield 15, 3) := by decide +kernel
theorem dX2_firstFrom_35 : decode cX2_firstFrom 35 = .ok (.arraylength, 1) := by decide +kernel
theorem dX2_firstFrom_36 : decode cX2_firstFrom 36 = .ok (.if_icmp .ge 22, 3) := by decide +kernel
theorem dX2_firstFrom_39 : decode cX2_firstFrom 39 = .ok (.aload_n 0, 1) := by decide +kernel
theorem dX2_firstFrom_40 : decode cX2_firstFrom 40 = .ok (.getfield 15, 3) := by decide +kernel
theorem dX2_firstFrom_43 : decode cX2_firstFrom 43 = .ok (.iload 5, 2) := by decide +kernel
theorem dX2_firstFrom_45 : decode cX2_firstFrom 45 = .ok (.iaload, 1) := by decide +kernel
theorem dX2_firstFrom_46 : decode cX2_firstFrom 46 = .ok (.iload_n 1, 1) := by decide +kernel
theorem dX2_firstFrom_47 : decode cX2_firstFrom 47 = .ok (.if_icmp .ge 11, 3) := by decide +kernel
theorem dX2_firstFrom_50 : decode cX2_firstFrom 50 = .ok (.iload 5, 2) := by decide +kernel
theorem dX2_firstFrom_52 : decode cX2_firstFrom 52 = .ok (.iconst 1, 1) := by decide +kernel
theorem dX2_firstFrom_53 : decode cX2_firstFrom 53 = .ok (.iadd, 1) := by decide +kernel
theorem dX2_firstFrom_54 : decode cX2_firstFrom 54 = .ok (.istore_n 2, 1) := by decide +kernel
theorem dX2_firstFrom_55 : decode cX2_firstFrom 55 = .ok (.goto 6, 3) := by decide +kernel
theorem dX2_firstFrom_58 : decode cX2_firstFrom 58 = .ok (.iload 5, 2) := by decide +kernel
theorem dX2_firstFrom_60 : decode cX2_firstFrom 60 = .ok (.istore_n 3, 1) := by decide +kernel
theorem dX2_firstFrom_61 : decode cX2_firstFrom 61 = .ok (.iinc 4 1, 3) := by decide +kernel
theorem dX2_firstFrom_64 : decode cX2_firstFrom 64 = .ok (.goto (-54), 3) := by decide +kernel
theorem dX2_firstFrom_67 : decode cX2_firstFrom 67 = .ok (.iload_n 2, 1) := by decide +kernel
theorem dX2_firstFrom_68 : decode cX2_firstFrom 68 = .ok (.ireturn, 1) := by decide +kernel
theorem dX2_placeOf_0 : decode cX2_placeOf 0 = .ok (.aload_n 0, 1) := by decide +kernel
theorem dX2_placeOf_1 : decode cX2_placeOf 1 = .ok (.iload_n 1, 1) := by decide +kernel
theorem dX2_placeOf_2 : decode cX2_placeOf 2 = .ok (.invokevirtual 28, 3) := by decide +kernel
theorem dX2_placeOf_5 : decode cX2_placeOf 5 = .ok (.istore_n 2, 1) := by decide +kernel
theorem dX2_placeOf_6 : decode cX2_placeOf 6 = .ok (.iload_n 2, 1) := by decide +kernel
theorem dX2_placeOf_7 : decode cX2_placeOf 7 = .ok (.aload_n 0, 1) := by decide +kernel
theorem dX2_placeOf_8 : decode cX2_placeOf 8 = .ok (.getfield 24, 3) := by decide +kernel
theorem dX2_placeOf_11 : decode cX2_placeOf 11 = .ok (.if_icmp .ge 16, 3) := by decide +kernel
theorem dX2_placeOf_14 : decode cX2_placeOf 14 = .ok (.aload_n 0, 1) := by decide +kernel
theorem dX2_placeOf_15 : decode cX2_placeOf 15 = .ok (.iload_n 2, 1) := by decide +kernel
theorem dX2_placeOf_16 : decode cX2_placeOf 16 = .ok (.invokevirtual 32, 3) := by decide +kernel
theorem dX2_placeOf_19 : decode cX2_placeOf 19 = .ok (.iload_n 1, 1) := by decide +kernel
theorem dX2_placeOf_20 : decode cX2_placeOf 20 = .ok (.if_icmp .ne 7, 3) := by decide +kernel
theorem dX2_placeOf_23 : decode cX2_placeOf 23 = .ok (.iload_n 2, 1) := by decide +kernel
theorem dX2_placeOf_24 : decode cX2_placeOf 24 = .ok (.goto 4, 3) := by decide +kernel
theorem dX2_placeOf_27 : decode cX2_placeOf 27 = .ok (.iconst (-1), 1) := by decide +kernel
theorem dX2_placeOf_28 : decode cX2_placeOf 28 = .ok (.ireturn, 1) := by decide +kernel
theorem dX2_isFull_0 : decode cX2_isFull 0 = .ok (.aload_n 0, 1) := by decide +kernel
theorem dX2_isFull_1 : decode cX2_isFull 1 = .ok (.getfield 24, 3) := by decide +kernel
theorem dX2_isFull_4 : decode cX2_isFull 4 = .ok (.aload_n 0, 1) := by decide +kernel
theorem dX2_isFull_5 : decode cX2_isFull 5 = .ok (.getfield 15, 3) := by decide +kernel
theorem dX2_isFull_8 : decode cX2_isFull 8 = .ok (.arraylength, 1) := by decide +kernel
theorem dX2_isFull_9 : decode cX2_isFull 9 = .ok (.if_icmp .ge 15, 3) := by decide +kernel
theorem dX2_isFull_12 : decode cX2_isFull 12 = .ok (.aload_n 0, 1) := by decide +kernel
theorem dX2_isFull_13 : decode cX2_isFull 13 = .ok (.getfield 24, 3) := by decide +kernel
theorem dX2_isFull_16 : decode cX2_isFull 16 = .ok (.aload_n 0, 1) := by decide +kernel
theorem dX2_isFull_17 : decode cX2_isFull 17 = .ok (.getfield 21, 3) := by decide +kernel
theorem dX2_isFull_20 : decode cX2_isFull 20 = .ok (.arraylength, 1) := by decide +kernel
theorem dX2_isFull_21 : decode cX2_isFull 21 = .ok (.if_icmp .lt 7, 3) := by decide +kernel
theorem dX2_isFull_24 : decode cX2_isFull 24 = .ok (.iconst 1, 1) := by decide +kernel
theorem dX2_isFull_25 : decode cX2_isFull 25 = .ok (.goto 4, 3) := by decide +kernel
theorem dX2_isFull_28 : decode cX2_isFull 28 = .ok (.iconst 0, 1) := by decide +kernel
theorem dX2_isFull_29 : decode cX2_isFull 29 = .ok (.ireturn, 1) := by decide +kernel
theorem dX2_setValue_0 : decode cX2_setValue 0 = .ok (.aload_n 0, 1) := by decide +kernel
theorem dX2_setValue_1 : decode cX2_setValue 1 = .ok (.iload_n 1, 1) := by decide +kernel
theorem dX2_setValue_2 : decode cX2_setValue 2 = .ok (.invokevirtual 35, 3) := by decide +kernel
theorem dX2_setValue_5 : decode cX2_setValue 5 = .ok (.ifCond .eq 10, 3) := by decide +kernel
theorem dX2_setValue_8 : decode cX2_setValue 8 = .ok (.aload_n 0, 1) := by decide +kernel
theorem dX2_setValue_9 : decode cX2_setValue 9 = .ok (.getfield 21, 3) := by decide +kernel
theorem dX2_setValue_12 : decode cX2_setValue 12 = .ok (.iload_n 1, 1) := by decide +kernel
theorem dX2_setValue_13 : decode cX2_setValue 13 = .ok (.iload_n 2, 1) := by decide +kernel
theorem dX2_setValue_14 : decode cX2_setValue 14 = .ok (.iastore, 1) := by decide +kernel
theorem dX2_setValue_15 : decode cX2_setValue 15 = .ok (.return_, 1) := by decide +kernel
theorem dX2_addLast_0 : decode cX2_addLast 0 = .ok (.aload_n 0, 1) := by decide +kernel
theorem dX2_addLast_1 : decode cX2_addLast 1 = .ok (.getfield 24, 3) := by decide +kernel
theorem dX2_addLast_4 : decode cX2_addLast 4 = .ok (.ifCond .lt 27, 3) := by decide +kernel
theorem dX2_addLast_7 : decode cX2_addLast 7 = .ok (.aload_n 0, 1) := by decide +kernel
theorem dX2_addLast_8 : decode cX2_addLast 8 = .ok (.getfield 24, 3) := by decide +kernel
theorem dX2_addLast_11 : decode cX2_addLast 11 = .ok (.aload_n 0, 1) := by decide +kernel
theorem dX2_addLast_12 : decode cX2_addLast 12 = .ok (.getfield 15, 3) := by decide +kernel
theorem dX2_addLast_15 : decode cX2_addLast 15 = .ok (.arraylength, 1) := by decide +kernel
theorem dX2_addLast_16 : decode cX2_addLast 16 = .ok (.if_icmp .ge 15, 3) := by decide +kernel
theorem dX2_addLast_19 : decode cX2_addLast 19 = .ok (.aload_n 0, 1) := by decide +kernel
theorem dX2_addLast_20 : decode cX2_addLast 20 = .ok (.getfield 24, 3) := by decide +kernel
theorem dX2_addLast_23 : decode cX2_addLast 23 = .ok (.aload_n 0, 1) := by decide +kernel
theorem dX2_addLast_24 : decode cX2_addLast 24 = .ok (.getfield 21, 3) := by decide +kernel
theorem dX2_addLast_27 : decode cX2_addLast 27 = .ok (.arraylength, 1) := by decide +kernel
theorem dX2_addLast_28 : decode cX2_addLast 28 = .ok (.if_icmp .lt 4, 3) := by decide +kernel
theorem dX2_addLast_31 : decode cX2_addLast 31 = .ok (.return_, 1) := by decide +kernel
theorem dX2_addLast_32 : decode cX2_addLast 32 = .ok (.aload_n 0, 1) := by decide +kernel
theorem dX2_addLast_33 : decode cX2_addLast 33 = .ok (.getfield 15, 3) := by decide +kernel
theorem dX2_addLast_36 : decode cX2_addLast 36 = .ok (.aload_n 0, 1) := by decide +kernel
theorem dX2_addLast_37 : decode cX2_addLast 37 = .ok (.getfield 24, 3) := by decide +kernel
theorem dX2_addLast_40 : decode cX2_addLast 40 = .ok (.iload_n 1, 1) := by decide +kernel
theorem dX2_addLast_41 : decode cX2_addLast 41 = .ok (.iastore, 1) := by decide +kernel
theorem dX2_addLast_42 : decode cX2_addLast 42 = .ok (.aload_n 0, 1) := by decide +kernel
theorem dX2_addLast_43 : decode cX2_addLast 43 = .ok (.getfield 21, 3) := by decide +kernel
theorem dX2_addLast_46 : decode cX2_addLast 46 = .ok (.aload_n 0, 1) := by decide +kernel
theorem dX2_addLast_47 : decode cX2_addLast 47 = .ok (.getfield 24, 3) := by decide +kernel
theorem dX2_addLast_50 : decode cX2_addLast 50 = .ok (.iload_n 2, 1) := by decide +kernel
theorem dX2_addLast_51 : decode cX2_addLast 51 = .ok (.iastore, 1) := by decide +kernel
theorem dX2_addLast_52 : decode cX2_addLast 52 = .ok (.aload_n 0, 1) := by decide +kernel
theorem dX2_addLast_53 : decode cX2_addLast 53 = .ok (.dup, 1) := by decide +kernel
theorem dX2_addLast_54 : decode cX2_addLast 54 = .ok (.getfield 24, 3) := by decide +kernel
theorem dX2_addLast_57 : decode cX2_addLast 57 = .ok (.iconst 1, 1) := by decide +kernel
theorem dX2_addLast_58 : decode cX2_addLast 58 = .ok (.iadd, 1) := by decide +kernel
theorem dX2_addLast_59 : decode cX2_addLast 59 = .ok (.putfield 24, 3) := by decide +kernel
theorem dX2_addLast_62 : decode cX2_addLast 62 = .ok (.return_, 1) := by decide +kernel
theorem dX2_addAt_0 : decode cX2_addAt 0 = .ok (.iload_n 1, 1) := by decide +kernel
theorem dX2_addAt_1 : decode cX2_addAt 1 = .ok (.ifCond .lt 35, 3) := by decide +kernel
theorem dX2_addAt_4 : decode cX2_addAt 4 = .ok (.iload_n 1, 1) := by decide +kernel
theorem dX2_addAt_5 : decode cX2_addAt 5 = .ok (.aload_n 0, 1) := by decide +kernel
theorem dX2_addAt_6 : decode cX2_addAt 6 = .ok (.getfield 24, 3) := by decide +kernel
theorem dX2_addAt_9 : decode cX2_addAt 9 = .ok (.if_icmp .gt 27, 3) := by decide +kernel
theorem dX2_addAt_12 : decode cX2_addAt 12 = .ok (.aload_n 0, 1) := by decide +kernel
theorem dX2_addAt_13 : decode cX2_addAt 13 = .ok (.getfield 24, 3) := by decide +kernel
theorem dX2_addAt_16 : decode cX2_addAt 16 = .ok (.aload_n 0, 1) := by decide +kernel
theorem dX2_addAt_17 : decode cX2_addAt 17 = .ok (.getfield 15, 3) := by decide +kernel
theorem dX2_addAt_20 : decode cX2_addAt 20 = .ok (.arraylength, 1) := by decide +kernel
theorem dX2_addAt_21 : decode cX2_addAt 21 = .ok (.if_icmp .ge 15, 3) := by decide +kernel
theorem dX2_addAt_24 : decode cX2_addAt 24 = .ok (.aload_n 0, 1) := by decide +kernel
theorem dX2_addAt_25 : decode cX2_addAt 25 = .ok (.getfield 24, 3) := by decide +kernel
theorem dX2_addAt_28 : decode cX2_addAt 28 = .ok (.aload_n 0, 1) := by decide +kernel
theorem dX2_addAt_29 : decode cX2_addAt 29 = .ok (.getfield 21, 3) := by decide +kernel
theorem dX2_addAt_32 : decode cX2_addAt 32 = .ok (.arraylength, 1) := by decide +kernel
theorem dX2_addAt_33 : decode cX2_addAt 33 = .ok (.if_icmp .lt 4, 3) := by decide +kernel
theorem dX2_addAt_36 : decode cX2_addAt 36 = .ok (.return_, 1) := by decide +kernel
theorem dX2_addAt_37 : decode cX2_addAt 37 = .ok (.aload_n 0, 1) := by decide +kernel
theorem dX2_addAt_38 : decode cX2_addAt 38 = .ok (.getfield 24, 3) := by decide +kernel
theorem dX2_addAt_41 : decode cX2_addAt 41 = .ok (.istore 4, 2) := by decide +kernel
theorem dX2_addAt_43 : decode cX2_addAt 43 = .ok (.iload 4, 2) := by decide +kernel
theorem dX2_addAt_45 : decode cX2_addAt 45 = .ok (.iload_n 1, 1) := by decide +kernel
theorem dX2_addAt_46 : decode cX2_addAt 46 = .ok (.if_icmp .le 41, 3) := by decide +kernel
theorem dX2_addAt_49 : decode cX2_addAt 49 = .ok (.aload_n 0, 1) := by decide +kernel
theorem dX2_addAt_50 : decode cX2_addAt 50 = .ok (.getfield 15, 3) := by decide +kernel
theorem dX2_addAt_53 : decode cX2_addAt 53 = .ok (.iload 4, 2) := by decide +kernel
theorem dX2_addAt_55 : decode cX2_addAt 55 = .ok (.aload_n 0, 1) := by decide +kernel
theorem dX2_addAt_56 : decode cX2_addAt 56 = .ok (.getfield 15, 3) := by decide +kernel
theorem dX2_addAt_59 : decode cX2_addAt 59 = .ok (.iload 4, 2) := by decide +kernel
theorem dX2_addAt_61 : decode cX2_addAt 61 = .ok (.iconst 1, 1) := by decide +kernel
theorem dX2_addAt_62 : decode cX2_addAt 62 = .ok (.isub, 1) := by decide +kernel
theorem dX2_addAt_63 : decode cX2_addAt 63 = .ok (.iaload, 1) := by decide +kernel
theorem dX2_addAt_64 : decode cX2_addAt 64 = .ok (.iastore, 1) := by decide +kernel
theorem dX2_addAt_65 : decode cX2_addAt 65 = .ok (.aload_n 0, 1) := by decide +kernel
theorem dX2_addAt_66 : decode cX2_addAt 66 = .ok (.getfield 21, 3) := by decide +kernel
theorem dX2_addAt_69 : decode cX2_addAt 69 = .ok (.iload 4, 2) := by decide +kernel
theorem dX2_addAt_71 : decode cX2_addAt 71 = .ok (.aload_n 0, 1) := by decide +kernel
theorem dX2_addAt_72 : decode cX2_addAt 72 = .ok (.getfield 21, 3) := by decide +kernel
theorem dX2_addAt_75 : decode cX2_addAt 75 = .ok (.iload 4, 2) := by decide +kernel
theorem dX2_addAt_77 : decode cX2_addAt 77 = .ok (.iconst 1, 1) := by decide +kernel
theorem dX2_addAt_78 : decode cX2_addAt 78 = .ok (.isub, 1) := by decide +kernel
theorem dX2_addAt_79 : decode cX2_addAt 79 = .ok (.iaload, 1) := by decide +kernel
theorem dX2_addAt_80 : decode cX2_addAt 80 = .ok (.iastore, 1) := by decide +kernel
theorem dX2_addAt_81 : decode cX2_addAt 81 = .ok (.iinc 4 (-1), 3) := by decide +kernel
theorem dX2_addAt_84 : decode cX2_addAt 84 = .ok (.goto (-41), 3) := by decide +kernel
theorem dX2_addAt_87 : decode cX2_addAt 87 = .ok (.aload_n 0, 1) := by decide +kernel
theorem dX2_addAt_88 : decode cX2_addAt 88 = .ok (.getfield 15, 3) := by decide +kernel
theorem dX2_addAt_91 : decode cX2_addAt 91 = .ok (.iload_n 1, 1) := by decide +kernel
theorem dX2_addAt_92 : decode cX2_addAt 92 = .ok (.iload_n 2, 1) := by decide +kernel
theorem dX2_addAt_93 : decode cX2_addAt 93 = .ok (.iastore, 1) := by decide +kernel
theorem dX2_addAt_94 : decode cX2_addAt 94 = .ok (.aload_n 0, 1) := by decide +kernel
theorem dX2_addAt_95 : decode cX2_addAt 95 = .ok (.getfield 21, 3) := by decide +kernel
theorem dX2_addAt_98 : decode cX2_addAt 98 = .ok (.iload_n 1, 1) := by decide +kernel
theorem dX2_addAt_99 : decode cX2_addAt 99 = .ok (.iload_n 3, 1) := by decide +kernel
theorem dX2_addAt_100 : decode cX2_addAt 100 = .ok (.iastore, 1) := by decide +kernel
theorem dX2_addAt_101 : decode cX2_addAt 101 = .ok (.aload_n 0, 1) := by decide +kernel
theorem dX2_addAt_102 : decode cX2_addAt 102 = .ok (.dup, 1) := by decide +kernel
theorem dX2_addAt_103 : decode cX2_addAt 103 = .ok (.getfield 24, 3) := by decide +kernel
theorem dX2_addAt_106 : decode cX2_addAt 106 = .ok (.iconst 1, 1) := by decide +kernel
theorem dX2_addAt_107 : decode cX2_addAt 107 = .ok (.iadd, 1) := by decide +kernel
theorem dX2_addAt_108 : decode cX2_addAt 108 = .ok (.putfield 24, 3) := by decide +kernel
theorem dX2_addAt_111 : decode cX2_addAt 111 = .ok (.return_, 1) := by decide +kernel
theorem dX2_removeAt_0 : decode cX2_removeAt 0 = .ok (.aload_n 0, 1) := by decide +kernel
theorem dX2_removeAt_1 : decode cX2_removeAt 1 = .ok (.iload_n 1, 1) := by decide +kernel
theorem dX2_removeAt_2 : decode cX2_removeAt 2 = .ok (.invokevirtual 35, 3) := by decide +kernel
theorem dX2_removeAt_5 : decode cX2_removeAt 5 = .ok (.ifCond .ne 4, 3) := by decide +kernel
theorem dX2_removeAt_8 : decode cX2_removeAt 8 = .ok (.return_, 1) := by decide +kernel
theorem dX2_removeAt_9 : decode cX2_removeAt 9 = .ok (.iload_n 1, 1) := by decide +kernel
theorem dX2_removeAt_10 : decode cX2_removeAt 10 = .ok (.iconst 1, 1) := by decide +kernel
theorem dX2_removeAt_11 : decode cX2_removeAt 11 = .ok (.iadd, 1) := by decide +kernel
theorem dX2_removeAt_12 : decode cX2_removeAt 12 = .ok (.istore_n 2, 1) := by decide +kernel
theorem dX2_removeAt_13 : decode cX2_removeAt 13 = .ok (.iload_n 2, 1) := by decide +kernel
theorem dX2_removeAt_14 : decode cX2_removeAt 14 = .ok (.aload_n 0, 1) := by decide +kernel
theorem dX2_removeAt_15 : decode cX2_removeAt 15 = .ok (.getfield 24, 3) := by decide +kernel
theorem dX2_removeAt_18 : decode cX2_removeAt 18 = .ok (.if_icmp .ge 55, 3) := by decide +kernel
theorem dX2_removeAt_21 : decode cX2_removeAt 21 = .ok (.iload_n 2, 1) := by decide +kernel
theorem dX2_removeAt_22 : decode cX2_removeAt 22 = .ok (.aload_n 0, 1) := by decide +kernel
theorem dX2_removeAt_23 : decode cX2_removeAt 23 = .ok (.getfield 15, 3) := by decide +kernel
theorem dX2_removeAt_26 : decode cX2_removeAt 26 = .ok (.arraylength, 1) := by decide +kernel
theorem dX2_removeAt_27 : decode cX2_removeAt 27 = .ok (.if_icmp .ge 46, 3) := by decide +kernel
theorem dX2_removeAt_30 : decode cX2_removeAt 30 = .ok (.iload_n 2, 1) := by decide +kernel
theorem dX2_removeAt_31 : decode cX2_removeAt 31 = .ok (.aload_n 0, 1) := by decide +kernel
theorem dX2_removeAt_32 : decode cX2_removeAt 32 = .ok (.getfield 21, 3) := by decide +kernel
theorem dX2_removeAt_35 : decode cX2_removeAt 35 = .ok (.arraylength, 1) := by decide +kernel
theorem dX2_removeAt_36 : decode cX2_removeAt 36 = .ok (.if_icmp .ge 37, 3) := by decide +kernel
theorem dX2_removeAt_39 : decode cX2_removeAt 39 = .ok (.aload_n 0, 1) := by decide +kernel
theorem dX2_removeAt_40 : decode cX2_removeAt 40 = .ok (.getfield 15, 3) := by decide +kernel
theorem dX2_removeAt_43 : decode cX2_removeAt 43 = .ok (.iload_n 2, 1) := by decide +kernel
theorem dX2_removeAt_44 : decode cX2_removeAt 44 = .ok (.iconst 1, 1) := by decide +kernel
theorem dX2_removeAt_45 : decode cX2_removeAt 45 = .ok (.isub, 1) := by decide +kernel
theorem dX2_removeAt_46 : decode cX2_removeAt 46 = .ok (.aload_n 0, 1) := by decide +kernel
theorem dX2_removeAt_47 : decode cX2_removeAt 47 = .ok (.getfield 15, 3) := by decide +kernel
theorem dX2_removeAt_50 : decode cX2_removeAt 50 = .ok (.iload_n 2, 1) := by decide +kernel
theorem dX2_removeAt_51 : decode cX2_removeAt 51 = .ok (.iaload, 1) := by decide +kernel
theorem dX2_removeAt_52 : decode cX2_removeAt 52 = .ok (.iastore, 1) := by decide +kernel
theorem dX2_removeAt_53 : decode cX2_removeAt 53 = .ok (.aload_n 0, 1) := by decide +kernel
theorem dX2_removeAt_54 : decode cX2_removeAt 54 = .ok (.getfield 21, 3) := by decide +kernel
theorem dX2_removeAt_57 : decode cX2_removeAt 57 = .ok (.iload_n 2, 1) := by decide +kernel
theorem dX2_removeAt_58 : decode cX2_removeAt 58 = .ok (.iconst 1, 1) := by decide +kernel
theorem dX2_removeAt_59 : decode cX2_removeAt 59 = .ok (.isub, 1) := by decide +kernel
theorem dX2_removeAt_60 : decode cX2_removeAt 60 = .ok (.aload_n 0, 1) := by decide +kernel
theorem dX2_removeAt_61 : decode cX2_removeAt 61 = .ok (.getfield 21, 3) := by decide +kernel
theorem dX2_removeAt_64 : decode cX2_removeAt 64 = .ok (.iload_n 2, 1) := by decide +kernel
theorem dX2_removeAt_65 : decode cX2_removeAt 65 = .ok (.iaload, 1) := by decide +kernel
theorem dX2_removeAt_66 : decode cX2_removeAt 66 = .ok (.iastore, 1) := by decide +kernel
theorem dX2_removeAt_67 : decode cX2_removeAt 67 = .ok (.iinc 2 1, 3) := by decide +kernel
theorem dX2_removeAt_70 : decode cX2_removeAt 70 = .ok (.goto (-57), 3) := by decide +kernel
theorem dX2_removeAt_73 : decode cX2_removeAt 73 = .ok (.aload_n 0, 1) := by decide +kernel
theorem dX2_removeAt_74 : decode cX2_removeAt 74 = .ok (.dup, 1) := by decide +kernel
theorem dX2_removeAt_75 : decode cX2_removeAt 75 = .ok (.getfield 24, 3) := by decide +kernel
theorem dX2_removeAt_78 : decode cX2_removeAt 78 = .ok (.iconst 1, 1) := by decide +kernel
theorem dX2_removeAt_79 : decode cX2_removeAt 79 = .ok (.isub, 1) := by decide +kernel
theorem dX2_removeAt_80 : decode cX2_removeAt 80 = .ok (.putfield 24, 3) := by decide +kernel
theorem dX2_removeAt_83 : decode cX2_removeAt 83 = .ok (.return_, 1) := by decide +kernel
theorem dX2_clear_0 : decode cX2_clear 0 = .ok (.aload_n 0, 1) := by decide +kernel
theorem dX2_clear_1 : decode cX2_clear 1 = .ok (.iconst 0, 1) := by decide +kernel
theorem dX2_clear_2 : decode cX2_clear 2 = .ok (.putfield 24, 3) := by decide +kernel
theorem dX2_clear_5 : decode cX2_clear 5 = .ok (.return_, 1) := by decide +kernel
theorem dX2_copyFrom_0 : decode cX2_copyFrom 0 = .ok (.aload_n 0, 1) := by decide +kernel
theorem dX2_copyFrom_1 : decode cX2_copyFrom 1 = .ok (.aload_n 1, 1) := by decide +kernel
theorem dX2_copyFrom_2 : decode cX2_copyFrom 2 = .ok (.getfield 15, 3) := by decide +kernel
theorem dX2_copyFrom_5 : decode cX2_copyFrom 5 = .ok (.aload_n 0, 1) := by decide +kernel
theorem dX2_copyFrom_6 : decode cX2_copyFrom 6 = .ok (.getfield 15, 3) := by decide +kernel
theorem dX2_copyFrom_9 : decode cX2_copyFrom 9 = .ok (.aload_n 1, 1) := by decide +kernel
theorem dX2_copyFrom_10 : decode cX2_copyFrom 10 = .ok (.getfield 24, 3) := by decide +kernel
theorem dX2_copyFrom_13 : decode cX2_copyFrom 13 = .ok (.invokestatic 39, 3) := by decide +kernel
theorem dX2_copyFrom_16 : decode cX2_copyFrom 16 = .ok (.putfield 24, 3) := by decide +kernel
theorem dX2_copyFrom_19 : decode cX2_copyFrom 19 = .ok (.aload_n 1, 1) := by decide +kernel
theorem dX2_copyFrom_20 : decode cX2_copyFrom 20 = .ok (.getfield 21, 3) := by decide +kernel
theorem dX2_copyFrom_23 : decode cX2_copyFrom 23 = .ok (.aload_n 0, 1) := by decide +kernel
theorem dX2_copyFrom_24 : decode cX2_copyFrom 24 = .ok (.getfield 21, 3) := by decide +kernel
theorem dX2_copyFrom_27 : decode cX2_copyFrom 27 = .ok (.aload_n 0, 1) := by decide +kernel
theorem dX2_copyFrom_28 : decode cX2_copyFrom 28 = .ok (.getfield 24, 3) := by decide +kernel
theorem dX2_copyFrom_31 : decode cX2_copyFrom 31 = .ok (.invokestatic 39, 3) := by decide +kernel
theorem dX2_copyFrom_34 : decode cX2_copyFrom 34 = .ok (.pop, 1) := by decide +kernel
theorem dX2_copyFrom_35 : decode cX2_copyFrom 35 = .ok (.return_, 1) := by decide +kernel
theorem dX2_mergeOf_0 : decode cX2_mergeOf 0 = .ok (.aload_n 0, 1) := by decide +kernel
theorem dX2_mergeOf_1 : decode cX2_mergeOf 1 = .ok (.iconst 0, 1) := by decide +kernel
theorem dX2_mergeOf_2 : decode cX2_mergeOf 2 = .ok (.putfield 24, 3) := by decide +kernel
theorem dX2_mergeOf_5 : decode cX2_mergeOf 5 = .ok (.iconst 0, 1) := by decide +kernel
theorem dX2_mergeOf_6 : decode cX2_mergeOf 6 = .ok (.istore_n 3, 1) := by decide +kernel
theorem dX2_mergeOf_7 : decode cX2_mergeOf 7 = .ok (.iconst 0, 1) := by decide +kernel
theorem dX2_mergeOf_8 : decode cX2_mergeOf 8 = .ok (.istore 4, 2) := by decide +kernel
theorem dX2_mergeOf_10 : decode cX2_mergeOf 10 = .ok (.aload_n 1, 1) := by decide +kernel
theorem dX2_mergeOf_11 : decode cX2_mergeOf 11 = .ok (.getfield 24, 3) := by decide +kernel
theorem dX2_mergeOf_14 : decode cX2_mergeOf 14 = .ok (.aload_n 2, 1) := by decide +kernel
theorem dX2_mergeOf_15 : decode cX2_mergeOf 15 = .ok (.getfield 24, 3) := by decide +kernel
theorem dX2_mergeOf_18 : decode cX2_mergeOf 18 = .ok (.iadd, 1) := by decide +kernel
theorem dX2_mergeOf_19 : decode cX2_mergeOf 19 = .ok (.istore 5, 2) := by decide +kernel
theorem dX2_mergeOf_21 : decode cX2_mergeOf 21 = .ok (.iconst 0, 1) := by decide +kernel
theorem dX2_mergeOf_22 : decode cX2_mergeOf 22 = .ok (.istore 6, 2) := by decide +kernel
theorem dX2_mergeOf_24 : decode cX2_mergeOf 24 = .ok (.iload 6, 2) := by decide +kernel
theorem dX2_mergeOf_26 : decode cX2_mergeOf 26 = .ok (.iload 5, 2) := by decide +kernel
theorem dX2_mergeOf_28 : decode cX2_mergeOf 28 = .ok (.if_icmp .ge 125, 3) := by decide +kernel
theorem dX2_mergeOf_31 : decode cX2_mergeOf 31 = .ok (.aload_n 1, 1) := by decide +kernel
theorem dX2_mergeOf_32 : decode cX2_mergeOf 32 = .ok (.iload_n 3, 1) := by decide +kernel
theorem dX2_mergeOf_33 : decode cX2_mergeOf 33 = .ok (.invokevirtual 35, 3) := by decide +kernel
theorem dX2_mergeOf_36 : decode cX2_mergeOf 36 = .ok (.ifCond .ne 12, 3) := by decide +kernel
theorem dX2_mergeOf_39 : decode cX2_mergeOf 39 = .ok (.aload_n 2, 1) := by decide +kernel
theorem dX2_mergeOf_40 : decode cX2_mergeOf 40 = .ok (.iload 4, 2) := by decide +kernel
theorem dX2_mergeOf_42 : decode cX2_mergeOf 42 = .ok (.invokevirtual 35, 3) := by decide +kernel
theorem dX2_mergeOf_45 : decode cX2_mergeOf 45 = .ok (.ifCond .eq 108, 3) := by decide +kernel
theorem dX2_mergeOf_48 : decode cX2_mergeOf 48 = .ok (.aload_n 2, 1) := by decide +kernel
theorem dX2_mergeOf_49 : decode cX2_mergeOf 49 = .ok (.iload 4, 2) := by decide +kernel
theorem dX2_mergeOf_51 : decode cX2_mergeOf 51 = .ok (.invokevirtual 35, 3) := by decide +kernel
theorem dX2_mergeOf_54 : decode cX2_mergeOf 54 = .ok (.ifCond .eq 29, 3) := by decide +kernel
theorem dX2_mergeOf_57 : decode cX2_mergeOf 57 = .ok (.aload_n 1, 1) := by decide +kernel
theorem dX2_mergeOf_58 : decode cX2_mergeOf 58 = .ok (.iload_n 3, 1) := by decide +kernel
theorem dX2_mergeOf_59 : decode cX2_mergeOf 59 = .ok (.invokevirtual 35, 3) := by decide +kernel
theorem dX2_mergeOf_62 : decode cX2_mergeOf 62 = .ok (.ifCond .eq 17, 3) := by decide +kernel
theorem dX2_mergeOf_65 : decode cX2_mergeOf 65 = .ok (.aload_n 2, 1) := by decide +kernel
theorem dX2_mergeOf_66 : decode cX2_mergeOf 66 = .ok (.iload 4, 2) := by decide +kernel
theorem dX2_mergeOf_68 : decode cX2_mergeOf 68 = .ok (.invokevirtual 32, 3) := by decide +kernel
theorem dX2_mergeOf_71 : decode cX2_mergeOf 71 = .ok (.aload_n 1, 1) := by decide +kernel
theorem dX2_mergeOf_72 : decode cX2_mergeOf 72 = .ok (.iload_n 3, 1) := by decide +kernel
theorem dX2_mergeOf_73 : decode cX2_mergeOf 73 = .ok (.invokevirtual 32, 3) := by decide +kernel
theorem dX2_mergeOf_76 : decode cX2_mergeOf 76 = .ok (.if_icmp .gt 7, 3) := by decide +kernel
theorem dX2_mergeOf_79 : decode cX2_mergeOf 79 = .ok (.iconst 1, 1) := by decide +kernel
theorem dX2_mergeOf_80 : decode cX2_mergeOf 80 = .ok (.goto 4, 3) := by decide +kernel
theorem dX2_mergeOf_83 : decode cX2_mergeOf 83 = .ok (.iconst 0, 1) := by decide +kernel
theorem dX2_mergeOf_84 : decode cX2_mergeOf 84 = .ok (.istore 7, 2) := by decide +kernel
theorem dX2_mergeOf_86 : decode cX2_mergeOf 86 = .ok (.iload 7, 2) := by decide +kernel
theorem dX2_mergeOf_88 : decode cX2_mergeOf 88 = .ok (.ifCond .eq 42, 3) := by decide +kernel
theorem dX2_mergeOf_91 : decode cX2_mergeOf 91 = .ok (.aload_n 1, 1) := by decide +kernel
theorem dX2_mergeOf_92 : decode cX2_mergeOf 92 = .ok (.iload_n 3, 1) := by decide +kernel
theorem dX2_mergeOf_93 : decode cX2_mergeOf 93 = .ok (.invokevirtual 32, 3) := by decide +kernel
theorem dX2_mergeOf_96 : decode cX2_mergeOf 96 = .ok (.aload_n 2, 1) := by decide +kernel
theorem dX2_mergeOf_97 : decode cX2_mergeOf 97 = .ok (.iload 4, 2) := by decide +kernel
theorem dX2_mergeOf_99 : decode cX2_mergeOf 99 = .ok (.invokevirtual 32, 3) := by decide +kernel
theorem dX2_mergeOf_102 : decode cX2_mergeOf 102 = .ok (.if_icmp .ne 6, 3) := by decide +kernel
theorem dX2_mergeOf_105 : decode cX2_mergeOf 105 = .ok (.iinc 3 1, 3) := by decide +kernel
theorem dX2_mergeOf_108 : decode cX2_mergeOf 108 = .ok (.aload_n 0, 1) := by decide +kernel
theorem dX2_mergeOf_109 : decode cX2_mergeOf 109 = .ok (.aload_n 2, 1) := by decide +kernel
theorem dX2_mergeOf_110 : decode cX2_mergeOf 110 = .ok (.iload 4, 2) := by decide +kernel
theorem dX2_mergeOf_112 : decode cX2_mergeOf 112 = .ok (.invokevirtual 32, 3) := by decide +kernel
theorem dX2_mergeOf_115 : decode cX2_mergeOf 115 = .ok (.aload_n 2, 1) := by decide +kernel
theorem dX2_mergeOf_116 : decode cX2_mergeOf 116 = .ok (.iload 4, 2) := by decide +kernel
theorem dX2_mergeOf_118 : decode cX2_mergeOf 118 = .ok (.invokevirtual 43, 3) := by decide +kernel
theorem dX2_mergeOf_121 : decode cX2_mergeOf 121 = .ok (.invokevirtual 46, 3) := by decide +kernel
theorem dX2_mergeOf_124 : decode cX2_mergeOf 124 = .ok (.iinc 4 1, 3) := by decide +kernel
theorem dX2_mergeOf_127 : decode cX2_mergeOf 127 = .ok (.goto 20, 3) := by decide +kernel
theorem dX2_mergeOf_130 : decode cX2_mergeOf 130 = .ok (.aload_n 0, 1) := by decide +kernel
theorem dX2_mergeOf_131 : decode cX2_mergeOf 131 = .ok (.aload_n 1, 1) := by decide +kernel
theorem dX2_mergeOf_132 : decode cX2_mergeOf 132 = .ok (.iload_n 3, 1) := by decide +kernel
theorem dX2_mergeOf_133 : decode cX2_mergeOf 133 = .ok (.invokevirtual 32, 3) := by decide +kernel
theorem dX2_mergeOf_136 : decode cX2_mergeOf 136 = .ok (.aload_n 1, 1) := by decide +kernel
theorem dX2_mergeOf_137 : decode cX2_mergeOf 137 = .ok (.iload_n 3, 1) := by decide +kernel
theorem dX2_mergeOf_138 : decode cX2_mergeOf 138 = .ok (.invokevirtual 43, 3) := by decide +kernel
theorem dX2_mergeOf_141 : decode cX2_mergeOf 141 = .ok (.invokevirtual 46, 3) := by decide +kernel
theorem dX2_mergeOf_144 : decode cX2_mergeOf 144 = .ok (.iinc 3 1, 3) := by decide +kernel
theorem dX2_mergeOf_147 : decode cX2_mergeOf 147 = .ok (.iinc 6 1, 3) := by decide +kernel
theorem dX2_mergeOf_150 : decode cX2_mergeOf 150 = .ok (.goto (-126), 3) := by decide +kernel
theorem dX2_mergeOf_153 : decode cX2_mergeOf 153 = .ok (.return_, 1) := by decide +kernel
theorem dX2_takeOutGone_0 : decode cX2_takeOutGone 0 = .ok (.iconst 0, 1) := by decide +kernel
theorem dX2_takeOutGone_1 : decode cX2_takeOutGone 1 = .ok (.istore_n 1, 1) := by decide +kernel
theorem dX2_takeOutGone_2 : decode cX2_takeOutGone 2 = .ok (.iconst 0, 1) := by decide +kernel
theorem dX2_takeOutGone_3 : decode cX2_takeOutGone 3 = .ok (.istore_n 2, 1) := by decide +kernel
theorem dX2_takeOutGone_4 : decode cX2_takeOutGone 4 = .ok (.iload_n 2, 1) := by decide +kernel
theorem dX2_takeOutGone_5 : decode cX2_takeOutGone 5 = .ok (.aload_n 0, 1) := by decide +kernel
theorem dX2_takeOutGone_6 : decode cX2_takeOutGone 6 = .ok (.getfield 24, 3) := by decide +kernel
theorem dX2_takeOutGone_9 : decode cX2_takeOutGone 9 = .ok (.if_icmp .ge 64, 3) := by decide +kernel
theorem dX2_takeOutGone_12 : decode cX2_takeOutGone 12 = .ok (.iload_n 2, 1) := by decide +kernel
theorem dX2_takeOutGone_13 : decode cX2_takeOutGone 13 = .ok (.aload_n 0, 1) := by decide +kernel
theorem dX2_takeOutGone_14 : decode cX2_takeOutGone 14 = .ok (.getfield 15, 3) := by decide +kernel
theorem dX2_takeOutGone_17 : decode cX2_takeOutGone 17 = .ok (.arraylength, 1) := by decide +kernel
theorem dX2_takeOutGone_18 : decode cX2_takeOutGone 18 = .ok (.if_icmp .ge 55, 3) := by decide +kernel
theorem dX2_takeOutGone_21 : decode cX2_takeOutGone 21 = .ok (.iload_n 2, 1) := by decide +kernel
theorem dX2_takeOutGone_22 : decode cX2_takeOutGone 22 = .ok (.aload_n 0, 1) := by decide +kernel
theorem dX2_takeOutGone_23 : decode cX2_takeOutGone 23 = .ok (.getfield 21, 3) := by decide +kernel
theorem dX2_takeOutGone_26 : decode cX2_takeOutGone 26 = .ok (.arraylength, 1) := by decide +kernel
theorem dX2_takeOutGone_27 : decode cX2_takeOutGone 27 = .ok (.if_icmp .ge 46, 3) := by decide +kernel
theorem dX2_takeOutGone_30 : decode cX2_takeOutGone 30 = .ok (.aload_n 0, 1) := by decide +kernel
theorem dX2_takeOutGone_31 : decode cX2_takeOutGone 31 = .ok (.getfield 21, 3) := by decide +kernel
theorem dX2_takeOutGone_34 : decode cX2_takeOutGone 34 = .ok (.iload_n 2, 1) := by decide +kernel
theorem dX2_takeOutGone_35 : decode cX2_takeOutGone 35 = .ok (.iaload, 1) := by decide +kernel
theorem dX2_takeOutGone_36 : decode cX2_takeOutGone 36 = .ok (.iconst (-1), 1) := by decide +kernel
theorem dX2_takeOutGone_37 : decode cX2_takeOutGone 37 = .ok (.if_icmp .eq 30, 3) := by decide +kernel
theorem dX2_takeOutGone_40 : decode cX2_takeOutGone 40 = .ok (.aload_n 0, 1) := by decide +kernel
theorem dX2_takeOutGone_41 : decode cX2_takeOutGone 41 = .ok (.getfield 15, 3) := by decide +kernel
theorem dX2_takeOutGone_44 : decode cX2_takeOutGone 44 = .ok (.iload_n 1, 1) := by decide +kernel
theorem dX2_takeOutGone_45 : decode cX2_takeOutGone 45 = .ok (.aload_n 0, 1) := by decide +kernel
theorem dX2_takeOutGone_46 : decode cX2_takeOutGone 46 = .ok (.getfield 15, 3) := by decide +kernel
theorem dX2_takeOutGone_49 : decode cX2_takeOutGone 49 = .ok (.iload_n 2, 1) := by decide +kernel
theorem dX2_takeOutGone_50 : decode cX2_takeOutGone 50 = .ok (.iaload, 1) := by decide +kernel
theorem dX2_takeOutGone_51 : decode cX2_takeOutGone 51 = .ok (.iastore, 1) := by decide +kernel
theorem dX2_takeOutGone_52 : decode cX2_takeOutGone 52 = .ok (.aload_n 0, 1) := by decide +kernel
theorem dX2_takeOutGone_53 : decode cX2_takeOutGone 53 = .ok (.getfield 21, 3) := by decide +kernel
theorem dX2_takeOutGone_56 : decode cX2_takeOutGone 56 = .ok (.iload_n 1, 1) := by decide +kernel
theorem dX2_takeOutGone_57 : decode cX2_takeOutGone 57 = .ok (.aload_n 0, 1) := by decide +kernel
theorem dX2_takeOutGone_58 : decode cX2_takeOutGone 58 = .ok (.getfield 21, 3) := by decide +kernel
theorem dX2_takeOutGone_61 : decode cX2_takeOutGone 61 = .ok (.iload_n 2, 1) := by decide +kernel
theorem dX2_takeOutGone_62 : decode cX2_takeOutGone 62 = .ok (.iaload, 1) := by decide +kernel
theorem dX2_takeOutGone_63 : decode cX2_takeOutGone 63 = .ok (.iastore, 1) := by decide +kernel
theorem dX2_takeOutGone_64 : decode cX2_takeOutGone 64 = .ok (.iinc 1 1, 3) := by decide +kernel
theorem dX2_takeOutGone_67 : decode cX2_takeOutGone 67 = .ok (.iinc 2 1, 3) := by decide +kernel
theorem dX2_takeOutGone_70 : decode cX2_takeOutGone 70 = .ok (.goto (-66), 3) := by decide +kernel
theorem dX2_takeOutGone_73 : decode cX2_takeOutGone 73 = .ok (.aload_n 0, 1) := by decide +kernel
theorem dX2_takeOutGone_74 : decode cX2_takeOutGone 74 = .ok (.iload_n 1, 1) := by decide +kernel
theorem dX2_takeOutGone_75 : decode cX2_takeOutGone 75 = .ok (.putfield 24, 3) := by decide +kernel
theorem dX2_takeOutGone_78 : decode cX2_takeOutGone 78 = .ok (.return_, 1) := by decide +kernel
theorem dX2_standsAfter_0 : decode cX2_standsAfter 0 = .ok (.iload_n 2, 1) := by decide +kernel
theorem dX2_standsAfter_1 : decode cX2_standsAfter 1 = .ok (.istore_n 3, 1) := by decide +kernel
theorem dX2_standsAfter_2 : decode cX2_standsAfter 2 = .ok (.iconst 0, 1) := by decide +kernel
theorem dX2_standsAfter_3 : decode cX2_standsAfter 3 = .ok (.istore 4, 2) := by decide +kernel
theorem dX2_standsAfter_5 : decode cX2_standsAfter 5 = .ok (.iload 4, 2) := by decide +kernel
theorem dX2_standsAfter_7 : decode cX2_standsAfter 7 = .ok (.aload_n 0, 1) := by decide +kernel
theorem dX2_standsAfter_8 : decode cX2_standsAfter 8 = .ok (.getfield 24, 3) := by decide +kernel
theorem dX2_standsAfter_11 : decode cX2_standsAfter 11 = .ok (.if_icmp .ge 35, 3) := by decide +kernel
theorem dX2_standsAfter_14 : decode cX2_standsAfter 14 = .ok (.aload_n 0, 1) := by decide +kernel
theorem dX2_standsAfter_15 : decode cX2_standsAfter 15 = .ok (.iload 4, 2) := by decide +kernel
theorem dX2_standsAfter_17 : decode cX2_standsAfter 17 = .ok (.invokevirtual 32, 3) := by decide +kernel
theorem dX2_standsAfter_20 : decode cX2_standsAfter 20 = .ok (.iload_n 1, 1) := by decide +kernel
theorem dX2_standsAfter_21 : decode cX2_standsAfter 21 = .ok (.if_icmp .ne 19, 3) := by decide +kernel
theorem dX2_standsAfter_24 : decode cX2_standsAfter 24 = .ok (.aload_n 0, 1) := by decide +kernel
theorem dX2_standsAfter_25 : decode cX2_standsAfter 25 = .ok (.iload 4, 2) := by decide +kernel
theorem dX2_standsAfter_27 : decode cX2_standsAfter 27 = .ok (.invokevirtual 43, 3) := by decide +kernel
theorem dX2_standsAfter_30 : decode cX2_standsAfter 30 = .ok (.iconst (-1), 1) := by decide +kernel
theorem dX2_standsAfter_31 : decode cX2_standsAfter 31 = .ok (.if_icmp .eq 7, 3) := by decide +kernel
theorem dX2_standsAfter_34 : decode cX2_standsAfter 34 = .ok (.iconst 1, 1) := by decide +kernel
theorem dX2_standsAfter_35 : decode cX2_standsAfter 35 = .ok (.goto 4, 3) := by decide +kernel
theorem dX2_standsAfter_38 : decode cX2_standsAfter 38 = .ok (.iconst 0, 1) := by decide +kernel
theorem dX2_standsAfter_39 : decode cX2_standsAfter 39 = .ok (.istore_n 3, 1) := by decide +kernel
theorem dX2_standsAfter_40 : decode cX2_standsAfter 40 = .ok (.iinc 4 1, 3) := by decide +kernel
theorem dX2_standsAfter_43 : decode cX2_standsAfter 43 = .ok (.goto (-38), 3) := by decide +kernel
theorem dX2_standsAfter_46 : decode cX2_standsAfter 46 = .ok (.iload_n 3, 1) := by decide +kernel
theorem dX2_standsAfter_47 : decode cX2_standsAfter 47 = .ok (.ireturn, 1) := by decide +kernel
theorem dX2_countFrom_0 : decode cX2_countFrom 0 = .ok (.iconst 0, 1) := by decide +kernel
theorem dX2_countFrom_1 : decode cX2_countFrom 1 = .ok (.istore_n 3, 1) := by decide +kernel
theorem dX2_countFrom_2 : decode cX2_countFrom 2 = .ok (.aload_n 0, 1) := by decide +kernel
theorem dX2_countFrom_3 : decode cX2_countFrom 3 = .ok (.iload_n 1, 1) := by decide +kernel
theorem dX2_countFrom_4 : decode cX2_countFrom 4 = .ok (.invokevirtual 28, 3) := by decide +kernel
theorem dX2_countFrom_7 : decode cX2_countFrom 7 = .ok (.istore 4, 2) := by decide +kernel
theorem dX2_countFrom_9 : decode cX2_countFrom 9 = .ok (.iload 4, 2) := by decide +kernel
theorem dX2_countFrom_11 : decode cX2_countFrom 11 = .ok (.aload_n 0, 1) := by decide +kernel
theorem dX2_countFrom_12 : decode cX2_countFrom 12 = .ok (.getfield 24, 3) := by decide +kernel
theorem dX2_countFrom_15 : decode cX2_countFrom 15 = .ok (.if_icmp .ge 22, 3) := by decide +kernel
theorem dX2_countFrom_18 : decode cX2_countFrom 18 = .ok (.aload_n 0, 1) := by decide +kernel
theorem dX2_countFrom_19 : decode cX2_countFrom 19 = .ok (.iload 4, 2) := by decide +kernel
theorem dX2_countFrom_21 : decode cX2_countFrom 21 = .ok (.invokevirtual 32, 3) := by decide +kernel
theorem dX2_countFrom_24 : decode cX2_countFrom 24 = .ok (.iload_n 2, 1) := by decide +kernel
theorem dX2_countFrom_25 : decode cX2_countFrom 25 = .ok (.if_icmp .gt 12, 3) := by decide +kernel
theorem dX2_countFrom_28 : decode cX2_countFrom 28 = .ok (.iinc 3 1, 3) := by decide +kernel
theorem dX2_countFrom_31 : decode cX2_countFrom 31 = .ok (.iinc 4 1, 3) := by decide +kernel
theorem dX2_countFrom_34 : decode cX2_countFrom 34 = .ok (.goto (-25), 3) := by decide +kernel
theorem dX2_countFrom_37 : decode cX2_countFrom 37 = .ok (.iload_n 3, 1) := by decide +kernel
theorem dX2_countFrom_38 : decode cX2_countFrom 38 = .ok (.ireturn, 1) := by decide +kernel
theorem dX3_init_0 : decode cX3_init 0 = .ok (.aload_n 0, 1) := by decide +kernel
theorem dX3_init_1 : decode cX3_init 1 = .ok (.invokespecial 3, 3) := by decide +kernel
theorem dX3_init_4 : decode cX3_init 4 = .ok (.aload_n 0, 1) := by decide +kernel
theorem dX3_init_5 : decode cX3_init 5 = .ok (.new 9, 3) := by decide +kernel
theorem dX3_init_8 : decode cX3_init 8 = .ok (.dup, 1) := by decide +kernel
theorem dX3_init_9 : decode cX3_init 9 = .ok (.bipush 12, 2) := by decide +kernel
theorem dX3_init_11 : decode cX3_init 11 = .ok (.invokespecial 11, 3) := by decide +kernel
theorem dX3_init_14 : decode cX3_init 14 = .ok (.putfield 14, 3) := by decide +kernel
theorem dX3_init_17 : decode cX3_init 17 = .ok (.aload_n 0, 1) := by decide +kernel
theorem dX3_init_18 : decode cX3_init 18 = .ok (.bipush 6, 2) := by decide +kernel
theorem dX3_init_20 : decode cX3_init 20 = .ok (.anewarray 9, 3) := by decide +kernel
theorem dX3_init_23 : decode cX3_init 23 = .ok (.putfield 20, 3) := by decide +kernel
theorem dX3_init_26 : decode cX3_init 26 = .ok (.aload_n 0, 1) := by decide +kernel
theorem dX3_init_27 : decode cX3_init 27 = .ok (.new 24, 3) := by decide +kernel
theorem dX3_init_30 : decode cX3_init 30 = .ok (.dup, 1) := by decide +kernel
theorem dX3_init_31 : decode cX3_init 31 = .ok (.invokespecial 26, 3) := by decide +kernel
theorem dX3_init_34 : decode cX3_init 34 = .ok (.putfield 27, 3) := by decide +kernel
theorem dX3_init_37 : decode cX3_init 37 = .ok (.aload_n 0, 1) := by decide +kernel
theorem dX3_init_38 : decode cX3_init 38 = .ok (.iconst 4, 1) := by decide +kernel
theorem dX3_init_39 : decode cX3_init 39 = .ok (.putfield 31, 3) := by decide +kernel
theorem dX3_init_42 : decode cX3_init 42 = .ok (.aload_n 0, 1) := by decide +kernel
theorem dX3_init_43 : decode cX3_init 43 = .ok (.iconst 3, 1) := by decide +kernel
theorem dX3_init_44 : decode cX3_init 44 = .ok (.putfield 35, 3) := by decide +kernel
theorem dX3_init_47 : decode cX3_init 47 = .ok (.iconst 0, 1) := by decide +kernel
theorem dX3_init_48 : decode cX3_init 48 = .ok (.istore_n 1, 1) := by decide +kernel
theorem dX3_init_49 : decode cX3_init 49 = .ok (.iload_n 1, 1) := by decide +kernel
theorem dX3_init_50 : decode cX3_init 50 = .ok (.aload_n 0, 1) := by decide +kernel
theorem dX3_init_51 : decode cX3_init 51 = .ok (.getfield 20, 3) := by decide +kernel
theorem dX3_init_54 : decode cX3_init 54 = .ok (.arraylength, 1) := by decide +kernel
theorem dX3_init_55 : decode cX3_init 55 = .ok (.if_icmp .ge 24, 3) := by decide +kernel
theorem dX3_init_58 : decode cX3_init 58 = .ok (.aload_n 0, 1) := by decide +kernel
theorem dX3_init_59 : decode cX3_init 59 = .ok (.getfield 20, 3) := by decide +kernel
theorem dX3_init_62 : decode cX3_init 62 = .ok (.iload_n 1, 1) := by decide +kernel
theorem dX3_init_63 : decode cX3_init 63 = .ok (.new 9, 3) := by decide +kernel
theorem dX3_init_66 : decode cX3_init 66 = .ok (.dup, 1) := by decide +kernel
theorem dX3_init_67 : decode cX3_init 67 = .ok (.bipush 60, 2) := by decide +kernel
theorem dX3_init_69 : decode cX3_init 69 = .ok (.invokespecial 11, 3) := by decide +kernel
theorem dX3_init_72 : decode cX3_init 72 = .ok (.aastore, 1) := by decide +kernel
theorem dX3_init_73 : decode cX3_init 73 = .ok (.iinc 1 1, 3) := by decide +kernel
theorem dX3_init_76 : decode cX3_init 76 = .ok (.goto (-27), 3) := by decide +kernel
theorem dX3_init_79 : decode cX3_init 79 = .ok (.return_, 1) := by decide +kernel
theorem dX3_copyFrom_0 : decode cX3_copyFrom 0 = .ok (.aload_n 0, 1) := by decide +kernel
theorem dX3_copyFrom_1 : decode cX3_copyFrom 1 = .ok (.getfield 14, 3) := by decide +kernel
theorem dX3_copyFrom_4 : decode cX3_copyFrom 4 = .ok (.aload_n 1, 1) := by decide +kernel
theorem dX3_copyFrom_5 : decode cX3_copyFrom 5 = .ok (.getfield 14, 3) := by decide +kernel
theorem dX3_copyFrom_8 : decode cX3_copyFrom 8 = .ok (.invokevirtual 38, 3) := by decide +kernel
theorem dX3_copyFrom_11 : decode cX3_copyFrom 11 = .ok (.iconst 0, 1) := by decide +kernel
theorem dX3_copyFrom_12 : decode cX3_copyFrom 12 = .ok (.istore_n 2, 1) := by decide +kernel
theorem dX3_copyFrom_13 : decode cX3_copyFrom 13 = .ok (.iload_n 2, 1) := by decide +kernel
theorem dX3_copyFrom_14 : decode cX3_copyFrom 14 = .ok (.aload_n 1, 1) := by decide +kernel
theorem dX3_copyFrom_15 : decode cX3_copyFrom 15 = .ok (.getfield 42, 3) := by decide +kernel
theorem dX3_copyFrom_18 : decode cX3_copyFrom 18 = .ok (.if_icmp .ge 37, 3) := by decide +kernel
theorem dX3_copyFrom_21 : decode cX3_copyFrom 21 = .ok (.aload_n 0, 1) := by decide +kernel
theorem dX3_copyFrom_22 : decode cX3_copyFrom 22 = .ok (.iload_n 2, 1) := by decide +kernel
theorem dX3_copyFrom_23 : decode cX3_copyFrom 23 = .ok (.invokevirtual 45, 3) := by decide +kernel
theorem dX3_copyFrom_26 : decode cX3_copyFrom 26 = .ok (.astore_n 3, 1) := by decide +kernel
theorem dX3_copyFrom_27 : decode cX3_copyFrom 27 = .ok (.aload_n 1, 1) := by decide +kernel
theorem dX3_copyFrom_28 : decode cX3_copyFrom 28 = .ok (.iload_n 2, 1) := by decide +kernel
theorem dX3_copyFrom_29 : decode cX3_copyFrom 29 = .ok (.invokevirtual 45, 3) := by decide +kernel
theorem dX3_copyFrom_32 : decode cX3_copyFrom 32 = .ok (.astore 4, 2) := by decide +kernel
theorem dX3_copyFrom_34 : decode cX3_copyFrom 34 = .ok (.aload_n 3, 1) := by decide +kernel
theorem dX3_copyFrom_35 : decode cX3_copyFrom 35 = .ok (.ifnull 14, 3) := by decide +kernel
theorem dX3_copyFrom_38 : decode cX3_copyFrom 38 = .ok (.aload 4, 2) := by decide +kernel
theorem dX3_copyFrom_40 : decode cX3_copyFrom 40 = .ok (.ifnull 9, 3) := by decide +kernel
theorem dX3_copyFrom_43 : decode cX3_copyFrom 43 = .ok (.aload_n 3, 1) := by decide +kernel
theorem dX3_copyFrom_44 : decode cX3_copyFrom 44 = .ok (.aload 4, 2) := by decide +kernel
theorem dX3_copyFrom_46 : decode cX3_copyFrom 46 = .ok (.invokevirtual 38, 3) := by decide +kernel
theorem dX3_copyFrom_49 : decode cX3_copyFrom 49 = .ok (.iinc 2 1, 3) := by decide +kernel
theorem dX3_copyFrom_52 : decode cX3_copyFrom 52 = .ok (.goto (-39), 3) := by decide +kernel
theorem dX3_copyFrom_55 : decode cX3_copyFrom 55 = .ok (.aload_n 0, 1) := by decide +kernel
theorem dX3_copyFrom_56 : decode cX3_copyFrom 56 = .ok (.aload_n 1, 1) := by decide +kernel
theorem dX3_copyFrom_57 : decode cX3_copyFrom 57 = .ok (.getfield 42, 3) := by decide +kernel
theorem dX3_copyFrom_60 : decode cX3_copyFrom 60 = .ok (.putfield 42, 3) := by decide +kernel
theorem dX3_copyFrom_63 : decode cX3_copyFrom 63 = .ok (.aload_n 0, 1) := by decide +kernel
theorem dX3_copyFrom_64 : decode cX3_copyFrom 64 = .ok (.getfield 27, 3) := by decide +kernel
theorem dX3_copyFrom_67 : decode cX3_copyFrom 67 = .ok (.aload_n 1, 1) := by decide +kernel
theorem dX3_copyFrom_68 : decode cX3_copyFrom 68 = .ok (.getfield 27, 3) := by decide +kernel
theorem dX3_copyFrom_71 : decode cX3_copyFrom 71 = .ok (.invokevirtual 49, 3) := by decide +kernel
theorem dX3_copyFrom_74 : decode cX3_copyFrom 74 = .ok (.aload_n 0, 1) := by decide +kernel
theorem dX3_copyFrom_75 : decode cX3_copyFrom 75 = .ok (.aload_n 1, 1) := by decide +kernel
theorem dX3_copyFrom_76 : decode cX3_copyFrom 76 = .ok (.getfield 31, 3) := by decide +kernel
theorem dX3_copyFrom_79 : decode cX3_copyFrom 79 = .ok (.putfield 31, 3) := by decide +kernel
theorem dX3_copyFrom_82 : decode cX3_copyFrom 82 = .ok (.aload_n 0, 1) := by decide +kernel
theorem dX3_copyFrom_83 : decode cX3_copyFrom 83 = .ok (.aload_n 1, 1) := by decide +kernel
theorem dX3_copyFrom_84 : decode cX3_copyFrom 84 = .ok (.getfield 35, 3) := by decide +kernel
theorem dX3_copyFrom_87 : decode cX3_copyFrom 87 = .ok (.putfield 35, 3) := by decide +kernel
theorem dX3_copyFrom_90 : decode cX3_copyFrom 90 = .ok (.aload_n 0, 1) := by decide +kernel
theorem dX3_copyFrom_91 : decode cX3_copyFrom 91 = .ok (.aload_n 1, 1) := by decide +kernel
theorem dX3_copyFrom_92 : decode cX3_copyFrom 92 = .ok (.getfield 52, 3) := by decide +kernel
theorem dX3_copyFrom_95 : decode cX3_copyFrom 95 = .ok (.putfield 52, 3) := by decide +kernel
theorem dX3_copyFrom_98 : decode cX3_copyFrom 98 = .ok (.aload_n 0, 1) := by decide +kernel
theorem dX3_copyFrom_99 : decode cX3_copyFrom 99 = .ok (.aload_n 1, 1) := by decide +kernel
theorem dX3_copyFrom_100 : decode cX3_copyFrom 100 = .ok (.getfield 55, 3) := by decide +kernel
theorem dX3_copyFrom_103 : decode cX3_copyFrom 103 = .ok (.putfield 55, 3) := by decide +kernel
theorem dX3_copyFrom_106 : decode cX3_copyFrom 106 = .ok (.return_, 1) := by decide +kernel
theorem dX3_closedOn_0 : decode cX3_closedOn 0 = .ok (.iload_n 1, 1) := by decide +kernel
theorem dX3_closedOn_1 : decode cX3_closedOn 1 = .ok (.ifCond .lt 12, 3) := by decide +kernel
theorem dX3_closedOn_4 : decode cX3_closedOn 4 = .ok (.iload_n 1, 1) := by decide +kernel
theorem dX3_closedOn_5 : decode cX3_closedOn 5 = .ok (.aload_n 0, 1) := by decide +kernel
theorem dX3_closedOn_6 : decode cX3_closedOn 6 = .ok (.getfield 20, 3) := by decide +kernel
theorem dX3_closedOn_9 : decode cX3_closedOn 9 = .ok (.arraylength, 1) := by decide +kernel
theorem dX3_closedOn_10 : decode cX3_closedOn 10 = .ok (.if_icmp .lt 7, 3) := by decide +kernel
theorem dX3_closedOn_13 : decode cX3_closedOn 13 = .ok (.aconst_null, 1) := by decide +kernel
theorem dX3_closedOn_14 : decode cX3_closedOn 14 = .ok (.goto 9, 3) := by decide +kernel
theorem dX3_closedOn_17 : decode cX3_closedOn 17 = .ok (.aload_n 0, 1) := by decide +kernel
theorem dX3_closedOn_18 : decode cX3_closedOn 18 = .ok (.getfield 20, 3) := by decide +kernel
theorem dX3_closedOn_21 : decode cX3_closedOn 21 = .ok (.iload_n 1, 1) := by decide +kernel
theorem dX3_closedOn_22 : decode cX3_closedOn 22 = .ok (.aaload, 1) := by decide +kernel
theorem dX3_closedOn_23 : decode cX3_closedOn 23 = .ok (.areturn, 1) := by decide +kernel
theorem dX3_runOn_0 : decode cX3_runOn 0 = .ok (.iload_n 1, 1) := by decide +kernel
theorem dX3_runOn_1 : decode cX3_runOn 1 = .ok (.ifCond .lt 11, 3) := by decide +kernel
theorem dX3_runOn_4 : decode cX3_runOn 4 = .ok (.iload_n 1, 1) := by decide +kernel
theorem dX3_runOn_5 : decode cX3_runOn 5 = .ok (.aload_n 0, 1) := by decide +kernel
theorem dX3_runOn_6 : decode cX3_runOn 6 = .ok (.getfield 42, 3) := by decide +kernel
theorem dX3_runOn_9 : decode cX3_runOn 9 = .ok (.if_icmp .le 5, 3) := by decide +kernel
theorem dX3_runOn_12 : decode cX3_runOn 12 = .ok (.aconst_null, 1) := by decide +kernel
theorem dX3_runOn_13 : decode cX3_runOn 13 = .ok (.areturn, 1) := by decide +kernel
theorem dX3_runOn_14 : decode cX3_runOn 14 = .ok (.iload_n 1, 1) := by decide +kernel
theorem dX3_runOn_15 : decode cX3_runOn 15 = .ok (.ifCond .ne 8, 3) := by decide +kernel
theorem dX3_runOn_18 : decode cX3_runOn 18 = .ok (.aload_n 0, 1) := by decide +kernel
theorem dX3_runOn_19 : decode cX3_runOn 19 = .ok (.getfield 14, 3) := by decide +kernel
theorem dX3_runOn_22 : decode cX3_runOn 22 = .ok (.areturn, 1) := by decide +kernel
theorem dX3_runOn_23 : decode cX3_runOn 23 = .ok (.aload_n 0, 1) := by decide +kernel
theorem dX3_runOn_24 : decode cX3_runOn 24 = .ok (.getfield 42, 3) := by decide +kernel
theorem dX3_runOn_27 : decode cX3_runOn 27 = .ok (.iload_n 1, 1) := by decide +kernel
theorem dX3_runOn_28 : decode cX3_runOn 28 = .ok (.isub, 1) := by decide +kernel
theorem dX3_runOn_29 : decode cX3_runOn 29 = .ok (.istore_n 2, 1) := by decide +kernel
theorem dX3_runOn_30 : decode cX3_runOn 30 = .ok (.iload_n 2, 1) := by decide +kernel
theorem dX3_runOn_31 : decode cX3_runOn 31 = .ok (.aload_n 0, 1) := by decide +kernel
theorem dX3_runOn_32 : decode cX3_runOn 32 = .ok (.getfield 20, 3) := by decide +kernel
theorem dX3_runOn_35 : decode cX3_runOn 35 = .ok (.arraylength, 1) := by decide +kernel
theorem dX3_runOn_36 : decode cX3_runOn 36 = .ok (.if_icmp .lt 7, 3) := by decide +kernel
theorem dX3_runOn_39 : decode cX3_runOn 39 = .ok (.aconst_null, 1) := by decide +kernel
theorem dX3_runOn_40 : decode cX3_runOn 40 = .ok (.goto 9, 3) := by decide +kernel
theorem dX3_runOn_43 : decode cX3_runOn 43 = .ok (.aload_n 0, 1) := by decide +kernel
theorem dX3_runOn_44 : decode cX3_runOn 44 = .ok (.getfield 20, 3) := by decide +kernel
theorem dX3_runOn_47 : decode cX3_runOn 47 = .ok (.iload_n 2, 1) := by decide +kernel
theorem dX3_runOn_48 : decode cX3_runOn 48 = .ok (.aaload, 1) := by decide +kernel
theorem dX3_runOn_49 : decode cX3_runOn 49 = .ok (.areturn, 1) := by decide +kernel
theorem dX3_tell_0 : decode cX3_tell 0 = .ok (.aload_n 0, 1) := by decide +kernel
theorem dX3_tell_1 : decode cX3_tell 1 = .ok (.getfield 14, 3) := by decide +kernel
theorem dX3_tell_4 : decode cX3_tell 4 = .ok (.iload_n 1, 1) := by decide +kernel
theorem dX3_tell_5 : decode cX3_tell 5 = .ok (.invokevirtual 58, 3) := by decide +kernel
theorem dX3_tell_8 : decode cX3_tell 8 = .ok (.istore_n 3, 1) := by decide +kernel
theorem dX3_tell_9 : decode cX3_tell 9 = .ok (.iload_n 3, 1) := by decide +kernel
theorem dX3_tell_10 : decode cX3_tell 10 = .ok (.iconst (-1), 1) := by decide +kernel
theorem dX3_tell_11 : decode cX3_tell 11 = .ok (.if_icmp .eq 20, 3) := by decide +kernel
theorem dX3_tell_14 : decode cX3_tell 14 = .ok (.aload_n 0, 1) := by decide +kernel
theorem dX3_tell_15 : decode cX3_tell 15 = .ok (.getfield 14, 3) := by decide +kernel
theorem dX3_tell_18 : decode cX3_tell 18 = .ok (.iload_n 3, 1) := by decide +kernel
theorem dX3_tell_19 : decode cX3_tell 19 = .ok (.iload_n 2, 1) := by decide +kernel
theorem dX3_tell_20 : decode cX3_tell 20 = .ok (.invokevirtual 62, 3) := by decide +kernel
theorem dX3_tell_23 : decode cX3_tell 23 = .ok (.aload_n 0, 1) := by decide +kernel
theorem dX3_tell_24 : decode cX3_tell 24 = .ok (.getfield 14, 3) := by decide +kernel
theorem dX3_tell_27 : decode cX3_tell 27 = .ok (.getfield 66, 3) := by decide +kernel
theorem dX3_tell_30 : decode cX3_tell 30 = .ok (.ireturn, 1) := by decide +kernel
theorem dX3_tell_31 : decode cX3_tell 31 = .ok (.aload_n 0, 1) := by decide +kernel
theorem dX3_tell_32 : decode cX3_tell 32 = .ok (.getfield 14, 3) := by decide +kernel
theorem dX3_tell_35 : decode cX3_tell 35 = .ok (.invokevirtual 69, 3) := by decide +kernel
theorem dX3_tell_38 : decode cX3_tell 38 = .ok (.ifCond .eq 5, 3) := by decide +kernel
theorem dX3_tell_41 : decode cX3_tell 41 = .ok (.iconst (-1), 1) := by decide +kernel
theorem dX3_tell_42 : decode cX3_tell 42 = .ok (.ireturn, 1) := by decide +kernel
theorem dX3_tell_43 : decode cX3_tell 43 = .ok (.aload_n 0, 1) := by decide +kernel
theorem dX3_tell_44 : decode cX3_tell 44 = .ok (.getfield 14, 3) := by decide +kernel
theorem dX3_tell_47 : decode cX3_tell 47 = .ok (.aload_n 0, 1) := by decide +kernel
theorem dX3_tell_48 : decode cX3_tell 48 = .ok (.getfield 14, 3) := by decide +kernel
theorem dX3_tell_51 : decode cX3_tell 51 = .ok (.iload_n 1, 1) := by decide +kernel
theorem dX3_tell_52 : decode cX3_tell 52 = .ok (.invokevirtual 73, 3) := by decide +kernel
theorem dX3_tell_55 : decode cX3_tell 55 = .ok (.iload_n 1, 1) := by decide +kernel
theorem dX3_tell_56 : decode cX3_tell 56 = .ok (.iload_n 2, 1) := by decide +kernel
theorem dX3_tell_57 : decode cX3_tell 57 = .ok (.invokevirtual 76, 3) := by decide +kernel
theorem dX3_tell_60 : decode cX3_tell 60 = .ok (.aload_n 0, 1) := by decide +kernel
theorem dX3_tell_61 : decode cX3_tell 61 = .ok (.getfield 14, 3) := by decide +kernel
theorem dX3_tell_64 : decode cX3_tell 64 = .ok (.getfield 66, 3) := by decide +kernel
theorem dX3_tell_67 : decode cX3_tell 67 = .ok (.ireturn, 1) := by decide +kernel
theorem dX3_closeOpen_0 : decode cX3_closeOpen 0 = .ok (.aload_n 0, 1) := by decide +kernel
theorem dX3_closeOpen_1 : decode cX3_closeOpen 1 = .ok (.aload_n 0, 1) := by decide +kernel
theorem dX3_closeOpen_2 : decode cX3_closeOpen 2 = .ok (.getfield 42, 3) := by decide +kernel
theorem dX3_closeOpen_5 : decode cX3_closeOpen 5 = .ok (.invokevirtual 45, 3) := by decide +kernel
theorem dX3_closeOpen_8 : decode cX3_closeOpen 8 = .ok (.astore_n 1, 1) := by decide +kernel
theorem dX3_closeOpen_9 : decode cX3_closeOpen 9 = .ok (.aload_n 0, 1) := by decide +kernel
theorem dX3_closeOpen_10 : decode cX3_closeOpen 10 = .ok (.getfield 14, 3) := by decide +kernel
theorem dX3_closeOpen_13 : decode cX3_closeOpen 13 = .ok (.getfield 66, 3) := by decide +kernel
theorem dX3_closeOpen_16 : decode cX3_closeOpen 16 = .ok (.ifCond .eq 7, 3) := by decide +kernel
theorem dX3_closeOpen_19 : decode cX3_closeOpen 19 = .ok (.aload_n 1, 1) := by decide +kernel
theorem dX3_closeOpen_20 : decode cX3_closeOpen 20 = .ok (.ifnonnull 5, 3) := by decide +kernel
theorem dX3_closeOpen_23 : decode cX3_closeOpen 23 = .ok (.iconst (-1), 1) := by decide +kernel
theorem dX3_closeOpen_24 : decode cX3_closeOpen 24 = .ok (.ireturn, 1) := by decide +kernel
theorem dX3_closeOpen_25 : decode cX3_closeOpen 25 = .ok (.aload_n 1, 1) := by decide +kernel
theorem dX3_closeOpen_26 : decode cX3_closeOpen 26 = .ok (.aload_n 0, 1) := by decide +kernel
theorem dX3_closeOpen_27 : decode cX3_closeOpen 27 = .ok (.getfield 14, 3) := by decide +kernel
theorem dX3_closeOpen_30 : decode cX3_closeOpen 30 = .ok (.invokevirtual 38, 3) := by decide +kernel
theorem dX3_closeOpen_33 : decode cX3_closeOpen 33 = .ok (.aload_n 0, 1) := by decide +kernel
theorem dX3_closeOpen_34 : decode cX3_closeOpen 34 = .ok (.getfield 14, 3) := by decide +kernel
theorem dX3_closeOpen_37 : decode cX3_closeOpen 37 = .ok (.invokevirtual 80, 3) := by decide +kernel
theorem dX3_closeOpen_40 : decode cX3_closeOpen 40 = .ok (.aload_n 0, 1) := by decide +kernel
theorem dX3_closeOpen_41 : decode cX3_closeOpen 41 = .ok (.dup, 1) := by decide +kernel
theorem dX3_closeOpen_42 : decode cX3_closeOpen 42 = .ok (.getfield 42, 3) := by decide +kernel
theorem dX3_closeOpen_45 : decode cX3_closeOpen 45 = .ok (.iconst 1, 1) := by decide +kernel
theorem dX3_closeOpen_46 : decode cX3_closeOpen 46 = .ok (.iadd, 1) := by decide +kernel
theorem dX3_closeOpen_47 : decode cX3_closeOpen 47 = .ok (.putfield 42, 3) := by decide +kernel
theorem dX3_closeOpen_50 : decode cX3_closeOpen 50 = .ok (.aload_n 0, 1) := by decide +kernel
theorem dX3_closeOpen_51 : decode cX3_closeOpen 51 = .ok (.getfield 42, 3) := by decide +kernel
theorem dX3_closeOpen_54 : decode cX3_closeOpen 54 = .ok (.ireturn, 1) := by decide +kernel
theorem dX3_mergeOldest_0 : decode cX3_mergeOldest 0 = .ok (.aload_n 0, 1) := by decide +kernel
theorem dX3_mergeOldest_1 : decode cX3_mergeOldest 1 = .ok (.iconst 0, 1) := by decide +kernel
theorem dX3_mergeOldest_2 : decode cX3_mergeOldest 2 = .ok (.invokevirtual 45, 3) := by decide +kernel
theorem dX3_mergeOldest_5 : decode cX3_mergeOldest 5 = .ok (.astore_n 2, 1) := by decide +kernel
theorem dX3_mergeOldest_6 : decode cX3_mergeOldest 6 = .ok (.aload_n 0, 1) := by decide +kernel
theorem dX3_mergeOldest_7 : decode cX3_mergeOldest 7 = .ok (.iconst 1, 1) := by decide +kernel
theorem dX3_mergeOldest_8 : decode cX3_mergeOldest 8 = .ok (.invokevirtual 45, 3) := by decide +kernel
theorem dX3_mergeOldest_11 : decode cX3_mergeOldest 11 = .ok (.astore_n 3, 1) := by decide +kernel
theorem dX3_mergeOldest_12 : decode cX3_mergeOldest 12 = .ok (.aload_n 0, 1) := by decide +kernel
theorem dX3_mergeOldest_13 : decode cX3_mergeOldest 13 = .ok (.getfield 42, 3) := by decide +kernel
theorem dX3_mergeOldest_16 : decode cX3_mergeOldest 16 = .ok (.iconst 2, 1) := by decide +kernel
theorem dX3_mergeOldest_17 : decode cX3_mergeOldest 17 = .ok (.if_icmp .lt 11, 3) := by decide +kernel
theorem dX3_mergeOldest_20 : decode cX3_mergeOldest 20 = .ok (.aload_n 2, 1) := by decide +kernel
theorem dX3_mergeOldest_21 : decode cX3_mergeOldest 21 = .ok (.ifnull 7, 3) := by decide +kernel
theorem dX3_mergeOldest_24 : decode cX3_mergeOldest 24 = .ok (.aload_n 3, 1) := by decide +kernel
theorem dX3_mergeOldest_25 : decode cX3_mergeOldest 25 = .ok (.ifnonnull 5, 3) := by decide +kernel
theorem dX3_mergeOldest_28 : decode cX3_mergeOldest 28 = .ok (.iconst (-1), 1) := by decide +kernel
theorem dX3_mergeOldest_29 : decode cX3_mergeOldest 29 = .ok (.ireturn, 1) := by decide +kernel
theorem dX3_mergeOldest_30 : decode cX3_mergeOldest 30 = .ok (.aload_n 1, 1) := by decide +kernel
theorem dX3_mergeOldest_31 : decode cX3_mergeOldest 31 = .ok (.aload_n 2, 1) := by decide +kernel
theorem dX3_mergeOldest_32 : decode cX3_mergeOldest 32 = .ok (.aload_n 3, 1) := by decide +kernel
theorem dX3_mergeOldest_33 : decode cX3_mergeOldest 33 = .ok (.invokevirtual 83, 3) := by decide +kernel
theorem dX3_mergeOldest_36 : decode cX3_mergeOldest 36 = .ok (.astore 4, 2) := by decide +kernel
theorem dX3_mergeOldest_38 : decode cX3_mergeOldest 38 = .ok (.aload 4, 2) := by decide +kernel
theorem dX3_mergeOldest_40 : decode cX3_mergeOldest 40 = .ok (.getfield 66, 3) := by decide +kernel
theorem dX3_mergeOldest_43 : decode cX3_mergeOldest 43 = .ok (.bipush 60, 2) := by decide +kernel
theorem dX3_mergeOldest_45 : decode cX3_mergeOldest 45 = .ok (.if_icmp .le 5, 3) := by decide +kernel
theorem dX3_mergeOldest_48 : decode cX3_mergeOldest 48 = .ok (.iconst (-1), 1) := by decide +kernel
theorem dX3_mergeOldest_49 : decode cX3_mergeOldest 49 = .ok (.ireturn, 1) := by decide +kernel
theorem dX3_mergeOldest_50 : decode cX3_mergeOldest 50 = .ok (.aload_n 2, 1) := by decide +kernel
theorem dX3_mergeOldest_51 : decode cX3_mergeOldest 51 = .ok (.aload 4, 2) := by decide +kernel
theorem dX3_mergeOldest_53 : decode cX3_mergeOldest 53 = .ok (.invokevirtual 38, 3) := by decide +kernel
theorem dX3_mergeOldest_56 : decode cX3_mergeOldest 56 = .ok (.iconst 2, 1) := by decide +kernel
theorem dX3_mergeOldest_57 : decode cX3_mergeOldest 57 = .ok (.istore 5, 2) := by decide +kernel
theorem dX3_mergeOldest_59 : decode cX3_mergeOldest 59 = .ok (.iload 5, 2) := by decide +kernel
theorem dX3_mergeOldest_61 : decode cX3_mergeOldest 61 = .ok (.aload_n 0, 1) := by decide +kernel
theorem dX3_mergeOldest_62 : decode cX3_mergeOldest 62 = .ok (.getfield 20, 3) := by decide +kernel
theorem dX3_mergeOldest_65 : decode cX3_mergeOldest 65 = .ok (.arraylength, 1) := by decide +kernel
theorem dX3_mergeOldest_66 : decode cX3_mergeOldest 66 = .ok (.if_icmp .ge 25, 3) := by decide +kernel
theorem dX3_mergeOldest_69 : decode cX3_mergeOldest 69 = .ok (.aload_n 0, 1) := by decide +kernel
theorem dX3_mergeOldest_70 : decode cX3_mergeOldest 70 = .ok (.getfield 20, 3) := by decide +kernel
theorem dX3_mergeOldest_73 : decode cX3_mergeOldest 73 = .ok (.iload 5, 2) := by decide +kernel
theorem dX3_mergeOldest_75 : decode cX3_mergeOldest 75 = .ok (.iconst 1, 1) := by decide +kernel
theorem dX3_mergeOldest_76 : decode cX3_mergeOldest 76 = .ok (.isub, 1) := by decide +kernel
theorem dX3_mergeOldest_77 : decode cX3_mergeOldest 77 = .ok (.aload_n 0, 1) := by decide +kernel
theorem dX3_mergeOldest_78 : decode cX3_mergeOldest 78 = .ok (.getfield 20, 3) := by decide +kernel
theorem dX3_mergeOldest_81 : decode cX3_mergeOldest 81 = .ok (.iload 5, 2) := by decide +kernel
theorem dX3_mergeOldest_83 : decode cX3_mergeOldest 83 = .ok (.aaload, 1) := by decide +kernel
theorem dX3_mergeOldest_84 : decode cX3_mergeOldest 84 = .ok (.aastore, 1) := by decide +kernel
theorem dX3_mergeOldest_85 : decode cX3_mergeOldest 85 = .ok (.iinc 5 1, 3) := by decide +kernel
theorem dX3_mergeOldest_88 : decode cX3_mergeOldest 88 = .ok (.goto (-29), 3) := by decide +kernel
theorem dX3_mergeOldest_91 : decode cX3_mergeOldest 91 = .ok (.aload_n 0, 1) := by decide +kernel
theorem dX3_mergeOldest_92 : decode cX3_mergeOldest 92 = .ok (.getfield 20, 3) := by decide +kernel
theorem dX3_mergeOldest_95 : decode cX3_mergeOldest 95 = .ok (.aload_n 0, 1) := by decide +kernel
theorem dX3_mergeOldest_96 : decode cX3_mergeOldest 96 = .ok (.getfield 20, 3) := by decide +kernel
theorem dX3_mergeOldest_99 : decode cX3_mergeOldest 99 = .ok (.arraylength, 1) := by decide +kernel
theorem dX3_mergeOldest_100 : decode cX3_mergeOldest 100 = .ok (.iconst 1, 1) := by decide +kernel
theorem dX3_mergeOldest_101 : decode cX3_mergeOldest 101 = .ok (.isub, 1) := by decide +kernel
theorem dX3_mergeOldest_102 : decode cX3_mergeOldest 102 = .ok (.aload_n 3, 1) := by decide +kernel
theorem dX3_mergeOldest_103 : decode cX3_mergeOldest 103 = .ok (.aastore, 1) := by decide +kernel
theorem dX3_mergeOldest_104 : decode cX3_mergeOldest 104 = .ok (.aload_n 0, 1) := by decide +kernel
theorem dX3_mergeOldest_105 : decode cX3_mergeOldest 105 = .ok (.dup, 1) := by decide +kernel
theorem dX3_mergeOldest_106 : decode cX3_mergeOldest 106 = .ok (.getfield 42, 3) := by decide +kernel
theorem dX3_mergeOldest_109 : decode cX3_mergeOldest 109 = .ok (.iconst 1, 1) := by decide +kernel
theorem dX3_mergeOldest_110 : decode cX3_mergeOldest 110 = .ok (.isub, 1) := by decide +kernel
theorem dX3_mergeOldest_111 : decode cX3_mergeOldest 111 = .ok (.putfield 42, 3) := by decide +kernel
theorem dX3_mergeOldest_114 : decode cX3_mergeOldest 114 = .ok (.aload 4, 2) := by decide +kernel
theorem dX3_mergeOldest_116 : decode cX3_mergeOldest 116 = .ok (.getfield 66, 3) := by decide +kernel
theorem dX3_mergeOldest_119 : decode cX3_mergeOldest 119 = .ok (.ireturn, 1) := by decide +kernel
theorem dX3_rebuild_0 : decode cX3_rebuild 0 = .ok (.aload_n 2, 1) := by decide +kernel
theorem dX3_rebuild_1 : decode cX3_rebuild 1 = .ok (.aload_n 0, 1) := by decide +kernel
theorem dX3_rebuild_2 : decode cX3_rebuild 2 = .ok (.invokevirtual 89, 3) := by decide +kernel
theorem dX3_rebuild_5 : decode cX3_rebuild 5 = .ok (.astore_n 3, 1) := by decide +kernel
theorem dX3_rebuild_6 : decode cX3_rebuild 6 = .ok (.aload_n 3, 1) := by decide +kernel
theorem dX3_rebuild_7 : decode cX3_rebuild 7 = .ok (.getfield 66, 3) := by decide +kernel
theorem dX3_rebuild_10 : decode cX3_rebuild 10 = .ok (.sipush 160, 3) := by decide +kernel
theorem dX3_rebuild_13 : decode cX3_rebuild 13 = .ok (.if_icmp .le 5, 3) := by decide +kernel
theorem dX3_rebuild_16 : decode cX3_rebuild 16 = .ok (.iconst (-1), 1) := by decide +kernel
theorem dX3_rebuild_17 : decode cX3_rebuild 17 = .ok (.ireturn, 1) := by decide +kernel
theorem dX3_rebuild_18 : decode cX3_rebuild 18 = .ok (.aload_n 0, 1) := by decide +kernel
theorem dX3_rebuild_19 : decode cX3_rebuild 19 = .ok (.getfield 27, 3) := by decide +kernel
theorem dX3_rebuild_22 : decode cX3_rebuild 22 = .ok (.aload_n 3, 1) := by decide +kernel
theorem dX3_rebuild_23 : decode cX3_rebuild 23 = .ok (.aload_n 0, 1) := by decide +kernel
theorem dX3_rebuild_24 : decode cX3_rebuild 24 = .ok (.iload_n 1, 1) := by decide +kernel
theorem dX3_rebuild_25 : decode cX3_rebuild 25 = .ok (.invokevirtual 93, 3) := by decide +kernel
theorem dX3_rebuild_28 : decode cX3_rebuild 28 = .ok (.invokevirtual 96, 3) := by decide +kernel
theorem dX3_rebuild_31 : decode cX3_rebuild 31 = .ok (.aload_n 0, 1) := by decide +kernel
theorem dX3_rebuild_32 : decode cX3_rebuild 32 = .ok (.getfield 27, 3) := by decide +kernel
theorem dX3_rebuild_35 : decode cX3_rebuild 35 = .ok (.aload_n 0, 1) := by decide +kernel
theorem dX3_rebuild_36 : decode cX3_rebuild 36 = .ok (.getfield 31, 3) := by decide +kernel
theorem dX3_rebuild_39 : decode cX3_rebuild 39 = .ok (.putfield 100, 3) := by decide +kernel
theorem dX3_rebuild_42 : decode cX3_rebuild 42 = .ok (.aload_n 0, 1) := by decide +kernel
theorem dX3_rebuild_43 : decode cX3_rebuild 43 = .ok (.getfield 27, 3) := by decide +kernel
theorem dX3_rebuild_46 : decode cX3_rebuild 46 = .ok (.aload_n 0, 1) := by decide +kernel
theorem dX3_rebuild_47 : decode cX3_rebuild 47 = .ok (.getfield 35, 3) := by decide +kernel
theorem dX3_rebuild_50 : decode cX3_rebuild 50 = .ok (.putfield 101, 3) := by decide +kernel
theorem dX3_rebuild_53 : decode cX3_rebuild 53 = .ok (.aload_n 0, 1) := by decide +kernel
theorem dX3_rebuild_54 : decode cX3_rebuild 54 = .ok (.getfield 14, 3) := by decide +kernel
theorem dX3_rebuild_57 : decode cX3_rebuild 57 = .ok (.invokevirtual 80, 3) := by decide +kernel
theorem dX3_rebuild_60 : decode cX3_rebuild 60 = .ok (.aload_n 0, 1) := by decide +kernel
theorem dX3_rebuild_61 : decode cX3_rebuild 61 = .ok (.iconst 0, 1) := by decide +kernel
theorem dX3_rebuild_62 : decode cX3_rebuild 62 = .ok (.putfield 42, 3) := by decide +kernel
theorem dX3_rebuild_65 : decode cX3_rebuild 65 = .ok (.aload_n 0, 1) := by decide +kernel
theorem dX3_rebuild_66 : decode cX3_rebuild 66 = .ok (.dup, 1) := by decide +kernel
theorem dX3_rebuild_67 : decode cX3_rebuild 67 = .ok (.getfield 52, 3) := by decide +kernel
theorem dX3_rebuild_70 : decode cX3_rebuild 70 = .ok (.iconst 1, 1) := by decide +kernel
theorem dX3_rebuild_71 : decode cX3_rebuild 71 = .ok (.iadd, 1) := by decide +kernel
theorem dX3_rebuild_72 : decode cX3_rebuild 72 = .ok (.putfield 52, 3) := by decide +kernel
theorem dX3_rebuild_75 : decode cX3_rebuild 75 = .ok (.aload_n 0, 1) := by decide +kernel
theorem dX3_rebuild_76 : decode cX3_rebuild 76 = .ok (.dup, 1) := by decide +kernel
theorem dX3_rebuild_77 : decode cX3_rebuild 77 = .ok (.getfield 55, 3) := by decide +kernel
theorem dX3_rebuild_80 : decode cX3_rebuild 80 = .ok (.aload_n 3, 1) := by decide +kernel
theorem dX3_rebuild_81 : decode cX3_rebuild 81 = .ok (.getfield 66, 3) := by decide +kernel
theorem dX3_rebuild_84 : decode cX3_rebuild 84 = .ok (.iadd, 1) := by decide +kernel
theorem dX3_rebuild_85 : decode cX3_rebuild 85 = .ok (.putfield 55, 3) := by decide +kernel
theorem dX3_rebuild_88 : decode cX3_rebuild 88 = .ok (.aload_n 0, 1) := by decide +kernel
theorem dX3_rebuild_89 : decode cX3_rebuild 89 = .ok (.getfield 27, 3) := by decide +kernel
theorem dX3_rebuild_92 : decode cX3_rebuild 92 = .ok (.getfield 102, 3) := by decide +kernel
theorem dX3_rebuild_95 : decode cX3_rebuild 95 = .ok (.ireturn, 1) := by decide +kernel
theorem dX3_writeEntry_0 : decode cX3_writeEntry 0 = .ok (.aload_n 0, 1) := by decide +kernel
theorem dX3_writeEntry_1 : decode cX3_writeEntry 1 = .ok (.iload_n 1, 1) := by decide +kernel
theorem dX3_writeEntry_2 : decode cX3_writeEntry 2 = .ok (.invokevirtual 105, 3) := by decide +kernel
theorem dX3_writeEntry_5 : decode cX3_writeEntry 5 = .ok (.iconst (-1), 1) := by decide +kernel
theorem dX3_writeEntry_6 : decode cX3_writeEntry 6 = .ok (.if_icmp .eq 5, 3) := by decide +kernel
theorem dX3_writeEntry_9 : decode cX3_writeEntry 9 = .ok (.iconst (-1), 1) := by decide +kernel
theorem dX3_writeEntry_10 : decode cX3_writeEntry 10 = .ok (.ireturn, 1) := by decide +kernel
theorem dX3_writeEntry_11 : decode cX3_writeEntry 11 = .ok (.aload_n 0, 1) := by decide +kernel
theorem dX3_writeEntry_12 : decode cX3_writeEntry 12 = .ok (.getfield 27, 3) := by decide +kernel
theorem dX3_writeEntry_15 : decode cX3_writeEntry 15 = .ok (.getfield 100, 3) := by decide +kernel
theorem dX3_writeEntry_18 : decode cX3_writeEntry 18 = .ok (.ifCond .ne 25, 3) := by decide +kernel
theorem dX3_writeEntry_21 : decode cX3_writeEntry 21 = .ok (.aload_n 0, 1) := by decide +kernel
theorem dX3_writeEntry_22 : decode cX3_writeEntry 22 = .ok (.getfield 27, 3) := by decide +kernel
theorem dX3_writeEntry_25 : decode cX3_writeEntry 25 = .ok (.aload_n 0, 1) := by decide +kernel
theorem dX3_writeEntry_26 : decode cX3_writeEntry 26 = .ok (.getfield 31, 3) := by decide +kernel
theorem dX3_writeEntry_29 : decode cX3_writeEntry 29 = .ok (.putfield 100, 3) := by decide +kernel
theorem dX3_writeEntry_32 : decode cX3_writeEntry 32 = .ok (.aload_n 0, 1) := by decide +kernel
theorem dX3_writeEntry_33 : decode cX3_writeEntry 33 = .ok (.getfield 27, 3) := by decide +kernel
theorem dX3_writeEntry_36 : decode cX3_writeEntry 36 = .ok (.aload_n 0, 1) := by decide +kernel
theorem dX3_writeEntry_37 : decode cX3_writeEntry 37 = .ok (.getfield 35, 3) := by decide +kernel
theorem dX3_writeEntry_40 : decode cX3_writeEntry 40 = .ok (.putfield 101, 3) := by decide +kernel
theorem dX3_writeEntry_43 : decode cX3_writeEntry 43 = .ok (.aload_n 0, 1) := by decide +kernel
theorem dX3_writeEntry_44 : decode cX3_writeEntry 44 = .ok (.getfield 27, 3) := by decide +kernel
theorem dX3_writeEntry_47 : decode cX3_writeEntry 47 = .ok (.iload_n 1, 1) := by decide +kernel
theorem dX3_writeEntry_48 : decode cX3_writeEntry 48 = .ok (.iload_n 2, 1) := by decide +kernel
theorem dX3_writeEntry_49 : decode cX3_writeEntry 49 = .ok (.invokevirtual 108, 3) := by decide +kernel
theorem dX3_writeEntry_52 : decode cX3_writeEntry 52 = .ok (.ireturn, 1) := by decide +kernel
theorem dX3_eraseEntry_0 : decode cX3_eraseEntry 0 = .ok (.aload_n 0, 1) := by decide +kernel
theorem dX3_eraseEntry_1 : decode cX3_eraseEntry 1 = .ok (.iload_n 1, 1) := by decide +kernel
theorem dX3_eraseEntry_2 : decode cX3_eraseEntry 2 = .ok (.invokevirtual 105, 3) := by decide +kernel
theorem dX3_eraseEntry_5 : decode cX3_eraseEntry 5 = .ok (.iconst (-1), 1) := by decide +kernel
theorem dX3_eraseEntry_6 : decode cX3_eraseEntry 6 = .ok (.if_icmp .eq 7, 3) := by decide +kernel
theorem dX3_eraseEntry_9 : decode cX3_eraseEntry 9 = .ok (.iconst (-1), 1) := by decide +kernel
theorem dX3_eraseEntry_10 : decode cX3_eraseEntry 10 = .ok (.goto 11, 3) := by decide +kernel
theorem dX3_eraseEntry_13 : decode cX3_eraseEntry 13 = .ok (.aload_n 0, 1) := by decide +kernel
theorem dX3_eraseEntry_14 : decode cX3_eraseEntry 14 = .ok (.getfield 27, 3) := by decide +kernel
theorem dX3_eraseEntry_17 : decode cX3_eraseEntry 17 = .ok (.iload_n 1, 1) := by decide +kernel
theorem dX3_eraseEntry_18 : decode cX3_eraseEntry 18 = .ok (.invokevirtual 112, 3) := by decide +kernel
theorem dX3_eraseEntry_21 : decode cX3_eraseEntry 21 = .ok (.ireturn, 1) := by decide +kernel
theorem dX3_runTelling_0 : decode cX3_runTelling 0 = .ok (.iconst 0, 1) := by decide +kernel
theorem dX3_runTelling_1 : decode cX3_runTelling 1 = .ok (.istore_n 2, 1) := by decide +kernel
theorem dX3_runTelling_2 : decode cX3_runTelling 2 = .ok (.iload_n 2, 1) := by decide +kernel
theorem dX3_runTelling_3 : decode cX3_runTelling 3 = .ok (.aload_n 0, 1) := by decide +kernel
theorem dX3_runTelling_4 : decode cX3_runTelling 4 = .ok (.getfield 42, 3) := by decide +kernel
theorem dX3_runTelling_7 : decode cX3_runTelling 7 = .ok (.if_icmp .gt 30, 3) := by decide +kernel
theorem dX3_runTelling_10 : decode cX3_runTelling 10 = .ok (.aload_n 0, 1) := by decide +kernel
theorem dX3_runTelling_11 : decode cX3_runTelling 11 = .ok (.iload_n 2, 1) := by decide +kernel
theorem dX3_runTelling_12 : decode cX3_runTelling 12 = .ok (.invokevirtual 115, 3) := by decide +kernel
theorem dX3_runTelling_15 : decode cX3_runTelling 15 = .ok (.astore_n 3, 1) := by decide +kernel
theorem dX3_runTelling_16 : decode cX3_runTelling 16 = .ok (.aload_n 3, 1) := by decide +kernel
theorem dX3_runTelling_17 : decode cX3_runTelling 17 = .ok (.ifnull 14, 3) := by decide +kernel
theorem dX3_runTelling_20 : decode cX3_runTelling 20 = .ok (.aload_n 3, 1) := by decide +kernel
theorem dX3_runTelling_21 : decode cX3_runTelling 21 = .ok (.iload_n 1, 1) := by decide +kernel
theorem dX3_runTelling_22 : decode cX3_runTelling 22 = .ok (.invokevirtual 58, 3) := by decide +kernel
theorem dX3_runTelling_25 : decode cX3_runTelling 25 = .ok (.iconst (-1), 1) := by decide +kernel
theorem dX3_runTelling_26 : decode cX3_runTelling 26 = .ok (.if_icmp .eq 5, 3) := by decide +kernel
theorem dX3_runTelling_29 : decode cX3_runTelling 29 = .ok (.iload_n 2, 1) := by decide +kernel
theorem dX3_runTelling_30 : decode cX3_runTelling 30 = .ok (.ireturn, 1) := by decide +kernel
theorem dX3_runTelling_31 : decode cX3_runTelling 31 = .ok (.iinc 2 1, 3) := by decide +kernel
theorem dX3_runTelling_34 : decode cX3_runTelling 34 = .ok (.goto (-32), 3) := by decide +kernel
theorem dX3_runTelling_37 : decode cX3_runTelling 37 = .ok (.iconst (-1), 1) := by decide +kernel
theorem dX3_runTelling_38 : decode cX3_runTelling 38 = .ok (.ireturn, 1) := by decide +kernel
theorem dX3_standingValue_0 : decode cX3_standingValue 0 = .ok (.aload_n 0, 1) := by decide +kernel
theorem dX3_standingValue_1 : decode cX3_standingValue 1 = .ok (.aload_n 0, 1) := by decide +kernel
theorem dX3_standingValue_2 : decode cX3_standingValue 2 = .ok (.iload_n 1, 1) := by decide +kernel
theorem dX3_standingValue_3 : decode cX3_standingValue 3 = .ok (.invokevirtual 105, 3) := by decide +kernel
theorem dX3_standingValue_6 : decode cX3_standingValue 6 = .ok (.invokevirtual 115, 3) := by decide +kernel
theorem dX3_standingValue_9 : decode cX3_standingValue 9 = .ok (.astore_n 2, 1) := by decide +kernel
theorem dX3_standingValue_10 : decode cX3_standingValue 10 = .ok (.aload_n 2, 1) := by decide +kernel
theorem dX3_standingValue_11 : decode cX3_standingValue 11 = .ok (.ifnonnull 13, 3) := by decide +kernel
theorem dX3_standingValue_14 : decode cX3_standingValue 14 = .ok (.aload_n 0, 1) := by decide +kernel
theorem dX3_standingValue_15 : decode cX3_standingValue 15 = .ok (.getfield 27, 3) := by decide +kernel
theorem dX3_standingValue_18 : decode cX3_standingValue 18 = .ok (.getfield 118, 3) := by decide +kernel
theorem dX3_standingValue_21 : decode cX3_standingValue 21 = .ok (.goto 4, 3) := by decide +kernel
theorem dX3_standingValue_24 : decode cX3_standingValue 24 = .ok (.aload_n 2, 1) := by decide +kernel
theorem dX3_standingValue_25 : decode cX3_standingValue 25 = .ok (.astore_n 3, 1) := by decide +kernel
theorem dX3_standingValue_26 : decode cX3_standingValue 26 = .ok (.aload_n 3, 1) := by decide +kernel
theorem dX3_standingValue_27 : decode cX3_standingValue 27 = .ok (.aload_n 3, 1) := by decide +kernel
theorem dX3_standingValue_28 : decode cX3_standingValue 28 = .ok (.iload_n 1, 1) := by decide +kernel
theorem dX3_standingValue_29 : decode cX3_standingValue 29 = .ok (.invokevirtual 58, 3) := by decide +kernel
theorem dX3_standingValue_32 : decode cX3_standingValue 32 = .ok (.invokevirtual 121, 3) := by decide +kernel
theorem dX3_standingValue_35 : decode cX3_standingValue 35 = .ok (.ireturn, 1) := by decide +kernel
theorem dX3_standsByGoing_0 : decode cX3_standsByGoing 0 = .ok (.aload_n 0, 1) := by decide +kernel
theorem dX3_standsByGoing_1 : decode cX3_standsByGoing 1 = .ok (.getfield 27, 3) := by decide +kernel
theorem dX3_standsByGoing_4 : decode cX3_standsByGoing 4 = .ok (.getfield 118, 3) := by decide +kernel
theorem dX3_standsByGoing_7 : decode cX3_standsByGoing 7 = .ok (.iload_n 1, 1) := by decide +kernel
theorem dX3_standsByGoing_8 : decode cX3_standsByGoing 8 = .ok (.iconst 0, 1) := by decide +kernel
theorem dX3_standsByGoing_9 : decode cX3_standsByGoing 9 = .ok (.invokevirtual 124, 3) := by decide +kernel
theorem dX3_standsByGoing_12 : decode cX3_standsByGoing 12 = .ok (.istore_n 2, 1) := by decide +kernel
theorem dX3_standsByGoing_13 : decode cX3_standsByGoing 13 = .ok (.aload_n 0, 1) := by decide +kernel
theorem dX3_standsByGoing_14 : decode cX3_standsByGoing 14 = .ok (.getfield 42, 3) := by decide +kernel
theorem dX3_standsByGoing_17 : decode cX3_standsByGoing 17 = .ok (.istore_n 3, 1) := by decide +kernel
theorem dX3_standsByGoing_18 : decode cX3_standsByGoing 18 = .ok (.iload_n 3, 1) := by decide +kernel
theorem dX3_standsByGoing_19 : decode cX3_standsByGoing 19 = .ok (.ifCond .lt 29, 3) := by decide +kernel
theorem dX3_standsByGoing_22 : decode cX3_standsByGoing 22 = .ok (.aload_n 0, 1) := by decide +kernel
theorem dX3_standsByGoing_23 : decode cX3_standsByGoing 23 = .ok (.iload_n 3, 1) := by decide +kernel
theorem dX3_standsByGoing_24 : decode cX3_standsByGoing 24 = .ok (.invokevirtual 115, 3) := by decide +kernel
theorem dX3_standsByGoing_27 : decode cX3_standsByGoing 27 = .ok (.astore 4, 2) := by decide +kernel
theorem dX3_standsByGoing_29 : decode cX3_standsByGoing 29 = .ok (.aload 4, 2) := by decide +kernel
theorem dX3_standsByGoing_31 : decode cX3_standsByGoing 31 = .ok (.ifnull 11, 3) := by decide +kernel
theorem dX3_standsByGoing_34 : decode cX3_standsByGoing 34 = .ok (.aload 4, 2) := by decide +kernel
theorem dX3_standsByGoing_36 : decode cX3_standsByGoing 36 = .ok (.iload_n 1, 1) := by decide +kernel
theorem dX3_standsByGoing_37 : decode cX3_standsByGoing 37 = .ok (.iload_n 2, 1) := by decide +kernel
theorem dX3_standsByGoing_38 : decode cX3_standsByGoing 38 = .ok (.invokevirtual 124, 3) := by decide +kernel
theorem dX3_standsByGoing_41 : decode cX3_standsByGoing 41 = .ok (.istore_n 2, 1) := by decide +kernel
theorem dX3_standsByGoing_42 : decode cX3_standsByGoing 42 = .ok (.iinc 3 (-1), 3) := by decide +kernel
theorem dX3_standsByGoing_45 : decode cX3_standsByGoing 45 = .ok (.goto (-27), 3) := by decide +kernel
theorem dX3_standsByGoing_48 : decode cX3_standsByGoing 48 = .ok (.iload_n 2, 1) := by decide +kernel
theorem dX3_standsByGoing_49 : decode cX3_standsByGoing 49 = .ok (.ireturn, 1) := by decide +kernel
theorem dX3_pagesRead_0 : decode cX3_pagesRead 0 = .ok (.iconst 0, 1) := by decide +kernel
theorem dX3_pagesRead_1 : decode cX3_pagesRead 1 = .ok (.istore_n 2, 1) := by decide +kernel
theorem dX3_pagesRead_2 : decode cX3_pagesRead 2 = .ok (.iconst 0, 1) := by decide +kernel
theorem dX3_pagesRead_3 : decode cX3_pagesRead 3 = .ok (.istore_n 3, 1) := by decide +kernel
theorem dX3_pagesRead_4 : decode cX3_pagesRead 4 = .ok (.iload_n 3, 1) := by decide +kernel
theorem dX3_pagesRead_5 : decode cX3_pagesRead 5 = .ok (.aload_n 0, 1) := by decide +kernel
theorem dX3_pagesRead_6 : decode cX3_pagesRead 6 = .ok (.getfield 42, 3) := by decide +kernel
theorem dX3_pagesRead_9 : decode cX3_pagesRead 9 = .ok (.if_icmp .gt 47, 3) := by decide +kernel
theorem dX3_pagesRead_12 : decode cX3_pagesRead 12 = .ok (.aload_n 0, 1) := by decide +kernel
theorem dX3_pagesRead_13 : decode cX3_pagesRead 13 = .ok (.iload_n 3, 1) := by decide +kernel
theorem dX3_pagesRead_14 : decode cX3_pagesRead 14 = .ok (.invokevirtual 115, 3) := by decide +kernel
theorem dX3_pagesRead_17 : decode cX3_pagesRead 17 = .ok (.astore 4, 2) := by decide +kernel
theorem dX3_pagesRead_19 : decode cX3_pagesRead 19 = .ok (.aload 4, 2) := by decide +kernel
theorem dX3_pagesRead_21 : decode cX3_pagesRead 21 = .ok (.ifnull 29, 3) := by decide +kernel
theorem dX3_pagesRead_24 : decode cX3_pagesRead 24 = .ok (.aload 4, 2) := by decide +kernel
theorem dX3_pagesRead_26 : decode cX3_pagesRead 26 = .ok (.getfield 66, 3) := by decide +kernel
theorem dX3_pagesRead_29 : decode cX3_pagesRead 29 = .ok (.ifCond .ne 6, 3) := by decide +kernel
theorem dX3_pagesRead_32 : decode cX3_pagesRead 32 = .ok (.goto 18, 3) := by decide +kernel
theorem dX3_pagesRead_35 : decode cX3_pagesRead 35 = .ok (.iinc 2 1, 3) := by decide +kernel
theorem dX3_pagesRead_38 : decode cX3_pagesRead 38 = .ok (.aload 4, 2) := by decide +kernel
theorem dX3_pagesRead_40 : decode cX3_pagesRead 40 = .ok (.iload_n 1, 1) := by decide +kernel
theorem dX3_pagesRead_41 : decode cX3_pagesRead 41 = .ok (.invokevirtual 58, 3) := by decide +kernel
theorem dX3_pagesRead_44 : decode cX3_pagesRead 44 = .ok (.iconst (-1), 1) := by decide +kernel
theorem dX3_pagesRead_45 : decode cX3_pagesRead 45 = .ok (.if_icmp .eq 5, 3) := by decide +kernel
theorem dX3_pagesRead_48 : decode cX3_pagesRead 48 = .ok (.iload_n 2, 1) := by decide +kernel
theorem dX3_pagesRead_49 : decode cX3_pagesRead 49 = .ok (.ireturn, 1) := by decide +kernel
theorem dX3_pagesRead_50 : decode cX3_pagesRead 50 = .ok (.iinc 3 1, 3) := by decide +kernel
theorem dX3_pagesRead_53 : decode cX3_pagesRead 53 = .ok (.goto (-49), 3) := by decide +kernel
theorem dX3_pagesRead_56 : decode cX3_pagesRead 56 = .ok (.iload_n 2, 1) := by decide +kernel
theorem dX3_pagesRead_57 : decode cX3_pagesRead 57 = .ok (.aload_n 0, 1) := by decide +kernel
theorem dX3_pagesRead_58 : decode cX3_pagesRead 58 = .ok (.getfield 27, 3) := by decide +kernel
theorem dX3_pagesRead_61 : decode cX3_pagesRead 61 = .ok (.iload_n 1, 1) := by decide +kernel
theorem dX3_pagesRead_62 : decode cX3_pagesRead 62 = .ok (.invokevirtual 128, 3) := by decide +kernel
theorem dX3_pagesRead_65 : decode cX3_pagesRead 65 = .ok (.iadd, 1) := by decide +kernel
theorem dX3_pagesRead_66 : decode cX3_pagesRead 66 = .ok (.ireturn, 1) := by decide +kernel
theorem dX3_countStanding_0 : decode cX3_countStanding 0 = .ok (.iconst 0, 1) := by decide +kernel
theorem dX3_countStanding_1 : decode cX3_countStanding 1 = .ok (.istore_n 3, 1) := by decide +kernel
theorem dX3_countStanding_2 : decode cX3_countStanding 2 = .ok (.iconst 0, 1) := by decide +kernel
theorem dX3_countStanding_3 : decode cX3_countStanding 3 = .ok (.istore 4, 2) := by decide +kernel
theorem dX3_countStanding_5 : decode cX3_countStanding 5 = .ok (.iload 4, 2) := by decide +kernel
theorem dX3_countStanding_7 : decode cX3_countStanding 7 = .ok (.aload_n 0, 1) := by decide +kernel
theorem dX3_countStanding_8 : decode cX3_countStanding 8 = .ok (.getfield 42, 3) := by decide +kernel
theorem dX3_countStanding_11 : decode cX3_countStanding 11 = .ok (.if_icmp .gt 35, 3) := by decide +kernel
theorem dX3_countStanding_14 : decode cX3_countStanding 14 = .ok (.aload_n 0, 1) := by decide +kernel
theorem dX3_countStanding_15 : decode cX3_countStanding 15 = .ok (.iload 4, 2) := by decide +kernel
theorem dX3_countStanding_17 : decode cX3_countStanding 17 = .ok (.invokevirtual 115, 3) := by decide +kernel
theorem dX3_countStanding_20 : decode cX3_countStanding 20 = .ok (.astore 5, 2) := by decide +kernel
theorem dX3_countStanding_22 : decode cX3_countStanding 22 = .ok (.aload 5, 2) := by decide +kernel
theorem dX3_countStanding_24 : decode cX3_countStanding 24 = .ok (.ifnull 16, 3) := by decide +kernel
theorem dX3_countStanding_27 : decode cX3_countStanding 27 = .ok (.iload_n 3, 1) := by decide +kernel
theorem dX3_countStanding_28 : decode cX3_countStanding 28 = .ok (.aload_n 0, 1) := by decide +kernel
theorem dX3_countStanding_29 : decode cX3_countStanding 29 = .ok (.aload 5, 2) := by decide +kernel
theorem dX3_countStanding_31 : decode cX3_countStanding 31 = .ok (.iload 4, 2) := by decide +kernel
theorem dX3_countStanding_33 : decode cX3_countStanding 33 = .ok (.iload_n 1, 1) := by decide +kernel
theorem dX3_countStanding_34 : decode cX3_countStanding 34 = .ok (.iload_n 2, 1) := by decide +kernel
theorem dX3_countStanding_35 : decode cX3_countStanding 35 = .ok (.invokevirtual 131, 3) := by decide +kernel
theorem dX3_countStanding_38 : decode cX3_countStanding 38 = .ok (.iadd, 1) := by decide +kernel
theorem dX3_countStanding_39 : decode cX3_countStanding 39 = .ok (.istore_n 3, 1) := by decide +kernel
theorem dX3_countStanding_40 : decode cX3_countStanding 40 = .ok (.iinc 4 1, 3) := by decide +kernel
theorem dX3_countStanding_43 : decode cX3_countStanding 43 = .ok (.goto (-38), 3) := by decide +kernel
theorem dX3_countStanding_46 : decode cX3_countStanding 46 = .ok (.iconst 0, 1) := by decide +kernel
theorem dX3_countStanding_47 : decode cX3_countStanding 47 = .ok (.istore 4, 2) := by decide +kernel
theorem dX3_countStanding_49 : decode cX3_countStanding 49 = .ok (.iload 4, 2) := by decide +kernel
theorem dX3_countStanding_51 : decode cX3_countStanding 51 = .ok (.aload_n 0, 1) := by decide +kernel
theorem dX3_countStanding_52 : decode cX3_countStanding 52 = .ok (.getfield 27, 3) := by decide +kernel
theorem dX3_countStanding_55 : decode cX3_countStanding 55 = .ok (.getfield 102, 3) := by decide +kernel
theorem dX3_countStanding_58 : decode cX3_countStanding 58 = .ok (.if_icmp .ge 85, 3) := by decide +kernel
theorem dX3_countStanding_61 : decode cX3_countStanding 61 = .ok (.aload_n 0, 1) := by decide +kernel
theorem dX3_countStanding_62 : decode cX3_countStanding 62 = .ok (.getfield 27, 3) := by decide +kernel
theorem dX3_countStanding_65 : decode cX3_countStanding 65 = .ok (.iload 4, 2) := by decide +kernel
theorem dX3_countStanding_67 : decode cX3_countStanding 67 = .ok (.iconst 1, 1) := by decide +kernel
theorem dX3_countStanding_68 : decode cX3_countStanding 68 = .ok (.iadd, 1) := by decide +kernel
theorem dX3_countStanding_69 : decode cX3_countStanding 69 = .ok (.invokevirtual 135, 3) := by decide +kernel
theorem dX3_countStanding_72 : decode cX3_countStanding 72 = .ok (.istore 5, 2) := by decide +kernel
theorem dX3_countStanding_74 : decode cX3_countStanding 74 = .ok (.aload_n 0, 1) := by decide +kernel
theorem dX3_countStanding_75 : decode cX3_countStanding 75 = .ok (.getfield 27, 3) := by decide +kernel
theorem dX3_countStanding_78 : decode cX3_countStanding 78 = .ok (.iload 4, 2) := by decide +kernel
theorem dX3_countStanding_80 : decode cX3_countStanding 80 = .ok (.invokevirtual 135, 3) := by decide +kernel
theorem dX3_countStanding_83 : decode cX3_countStanding 83 = .ok (.istore 6, 2) := by decide +kernel
theorem dX3_countStanding_85 : decode cX3_countStanding 85 = .ok (.iload 6, 2) := by decide +kernel
theorem dX3_countStanding_87 : decode cX3_countStanding 87 = .ok (.iload 5, 2) := by decide +kernel
theorem dX3_countStanding_89 : decode cX3_countStanding 89 = .ok (.if_icmp .ge 48, 3) := by decide +kernel
theorem dX3_countStanding_92 : decode cX3_countStanding 92 = .ok (.aload_n 0, 1) := by decide +kernel
theorem dX3_countStanding_93 : decode cX3_countStanding 93 = .ok (.getfield 27, 3) := by decide +kernel
theorem dX3_countStanding_96 : decode cX3_countStanding 96 = .ok (.getfield 118, 3) := by decide +kernel
theorem dX3_countStanding_99 : decode cX3_countStanding 99 = .ok (.iload 6, 2) := by decide +kernel
theorem dX3_countStanding_101 : decode cX3_countStanding 101 = .ok (.invokevirtual 138, 3) := by decide +kernel
theorem dX3_countStanding_104 : decode cX3_countStanding 104 = .ok (.istore 7, 2) := by decide +kernel
theorem dX3_countStanding_106 : decode cX3_countStanding 106 = .ok (.iload 7, 2) := by decide +kernel
theorem dX3_countStanding_108 : decode cX3_countStanding 108 = .ok (.iload_n 1, 1) := by decide +kernel
theorem dX3_countStanding_109 : decode cX3_countStanding 109 = .ok (.if_icmp .lt 22, 3) := by decide +kernel
theorem dX3_countStanding_112 : decode cX3_countStanding 112 = .ok (.iload 7, 2) := by decide +kernel
theorem dX3_countStanding_114 : decode cX3_countStanding 114 = .ok (.iload_n 2, 1) := by decide +kernel
theorem dX3_countStanding_115 : decode cX3_countStanding 115 = .ok (.if_icmp .gt 16, 3) := by decide +kernel
theorem dX3_countStanding_118 : decode cX3_countStanding 118 = .ok (.aload_n 0, 1) := by decide +kernel
theorem dX3_countStanding_119 : decode cX3_countStanding 119 = .ok (.iload 7, 2) := by decide +kernel
theorem dX3_countStanding_121 : decode cX3_countStanding 121 = .ok (.invokevirtual 105, 3) := by decide +kernel
theorem dX3_countStanding_124 : decode cX3_countStanding 124 = .ok (.iconst (-1), 1) := by decide +kernel
theorem dX3_countStanding_125 : decode cX3_countStanding 125 = .ok (.if_icmp .ne 6, 3) := by decide +kernel
theorem dX3_countStanding_128 : decode cX3_countStanding 128 = .ok (.iinc 3 1, 3) := by decide +kernel
theorem dX3_countStanding_131 : decode cX3_countStanding 131 = .ok (.iinc 6 1, 3) := by decide +kernel
theorem dX3_countStanding_134 : decode cX3_countStanding 134 = .ok (.goto (-49), 3) := by decide +kernel
theorem dX3_countStanding_137 : decode cX3_countStanding 137 = .ok (.iinc 4 1, 3) := by decide +kernel
theorem dX3_countStanding_140 : decode cX3_countStanding 140 = .ok (.goto (-91), 3) := by decide +kernel
theorem dX3_countStanding_143 : decode cX3_countStanding 143 = .ok (.iload_n 3, 1) := by decide +kernel
theorem dX3_countStanding_144 : decode cX3_countStanding 144 = .ok (.ireturn, 1) := by decide +kernel
theorem dX3_countOwn_0 : decode cX3_countOwn 0 = .ok (.iconst 0, 1) := by decide +kernel
theorem dX3_countOwn_1 : decode cX3_countOwn 1 = .ok (.istore 5, 2) := by decide +kernel
theorem dX3_countOwn_3 : decode cX3_countOwn 3 = .ok (.iconst 0, 1) := by decide +kernel
theorem dX3_countOwn_4 : decode cX3_countOwn 4 = .ok (.istore 6, 2) := by decide +kernel
theorem dX3_countOwn_6 : decode cX3_countOwn 6 = .ok (.iload 6, 2) := by decide +kernel
theorem dX3_countOwn_8 : decode cX3_countOwn 8 = .ok (.aload_n 1, 1) := by decide +kernel
theorem dX3_countOwn_9 : decode cX3_countOwn 9 = .ok (.getfield 66, 3) := by decide +kernel
theorem dX3_countOwn_12 : decode cX3_countOwn 12 = .ok (.if_icmp .ge 53, 3) := by decide +kernel
theorem dX3_countOwn_15 : decode cX3_countOwn 15 = .ok (.aload_n 1, 1) := by decide +kernel
theorem dX3_countOwn_16 : decode cX3_countOwn 16 = .ok (.iload 6, 2) := by decide +kernel
theorem dX3_countOwn_18 : decode cX3_countOwn 18 = .ok (.invokevirtual 138, 3) := by decide +kernel
theorem dX3_countOwn_21 : decode cX3_countOwn 21 = .ok (.istore 7, 2) := by decide +kernel
theorem dX3_countOwn_23 : decode cX3_countOwn 23 = .ok (.iload 7, 2) := by decide +kernel
theorem dX3_countOwn_25 : decode cX3_countOwn 25 = .ok (.iload_n 3, 1) := by decide +kernel
theorem dX3_countOwn_26 : decode cX3_countOwn 26 = .ok (.if_icmp .lt 33, 3) := by decide +kernel
theorem dX3_countOwn_29 : decode cX3_countOwn 29 = .ok (.iload 7, 2) := by decide +kernel
theorem dX3_countOwn_31 : decode cX3_countOwn 31 = .ok (.iload 4, 2) := by decide +kernel
theorem dX3_countOwn_33 : decode cX3_countOwn 33 = .ok (.if_icmp .gt 26, 3) := by decide +kernel
theorem dX3_countOwn_36 : decode cX3_countOwn 36 = .ok (.aload_n 1, 1) := by decide +kernel
theorem dX3_countOwn_37 : decode cX3_countOwn 37 = .ok (.iload 6, 2) := by decide +kernel
theorem dX3_countOwn_39 : decode cX3_countOwn 39 = .ok (.invokevirtual 121, 3) := by decide +kernel
theorem dX3_countOwn_42 : decode cX3_countOwn 42 = .ok (.iconst (-1), 1) := by decide +kernel
theorem dX3_countOwn_43 : decode cX3_countOwn 43 = .ok (.if_icmp .eq 16, 3) := by decide +kernel
theorem dX3_countOwn_46 : decode cX3_countOwn 46 = .ok (.aload_n 0, 1) := by decide +kernel
theorem dX3_countOwn_47 : decode cX3_countOwn 47 = .ok (.iload 7, 2) := by decide +kernel
theorem dX3_countOwn_49 : decode cX3_countOwn 49 = .ok (.invokevirtual 105, 3) := by decide +kernel
theorem dX3_countOwn_52 : decode cX3_countOwn 52 = .ok (.iload_n 2, 1) := by decide +kernel
theorem dX3_countOwn_53 : decode cX3_countOwn 53 = .ok (.if_icmp .ne 6, 3) := by decide +kernel
theorem dX3_countOwn_56 : decode cX3_countOwn 56 = .ok (.iinc 5 1, 3) := by decide +kernel
theorem dX3_countOwn_59 : decode cX3_countOwn 59 = .ok (.iinc 6 1, 3) := by decide +kernel
theorem dX3_countOwn_62 : decode cX3_countOwn 62 = .ok (.goto (-56), 3) := by decide +kernel
theorem dX3_countOwn_65 : decode cX3_countOwn 65 = .ok (.iload 5, 2) := by decide +kernel
theorem dX3_countOwn_67 : decode cX3_countOwn 67 = .ok (.ireturn, 1) := by decide +kernel
theorem dX3_toldCount_0 : decode cX3_toldCount 0 = .ok (.iconst 0, 1) := by decide +kernel
theorem dX3_toldCount_1 : decode cX3_toldCount 1 = .ok (.istore_n 1, 1) := by decide +kernel
theorem dX3_toldCount_2 : decode cX3_toldCount 2 = .ok (.iconst 0, 1) := by decide +kernel
theorem dX3_toldCount_3 : decode cX3_toldCount 3 = .ok (.istore_n 2, 1) := by decide +kernel
theorem dX3_toldCount_4 : decode cX3_toldCount 4 = .ok (.iload_n 2, 1) := by decide +kernel
theorem dX3_toldCount_5 : decode cX3_toldCount 5 = .ok (.aload_n 0, 1) := by decide +kernel
theorem dX3_toldCount_6 : decode cX3_toldCount 6 = .ok (.getfield 42, 3) := by decide +kernel
theorem dX3_toldCount_9 : decode cX3_toldCount 9 = .ok (.if_icmp .gt 26, 3) := by decide +kernel
theorem dX3_toldCount_12 : decode cX3_toldCount 12 = .ok (.aload_n 0, 1) := by decide +kernel
theorem dX3_toldCount_13 : decode cX3_toldCount 13 = .ok (.iload_n 2, 1) := by decide +kernel
theorem dX3_toldCount_14 : decode cX3_toldCount 14 = .ok (.invokevirtual 115, 3) := by decide +kernel
theorem dX3_toldCount_17 : decode cX3_toldCount 17 = .ok (.astore_n 3, 1) := by decide +kernel
theorem dX3_toldCount_18 : decode cX3_toldCount 18 = .ok (.aload_n 3, 1) := by decide +kernel
theorem dX3_toldCount_19 : decode cX3_toldCount 19 = .ok (.ifnull 10, 3) := by decide +kernel
theorem dX3_toldCount_22 : decode cX3_toldCount 22 = .ok (.iload_n 1, 1) := by decide +kernel
theorem dX3_toldCount_23 : decode cX3_toldCount 23 = .ok (.aload_n 3, 1) := by decide +kernel
theorem dX3_toldCount_24 : decode cX3_toldCount 24 = .ok (.getfield 66, 3) := by decide +kernel
theorem dX3_toldCount_27 : decode cX3_toldCount 27 = .ok (.iadd, 1) := by decide +kernel
theorem dX3_toldCount_28 : decode cX3_toldCount 28 = .ok (.istore_n 1, 1) := by decide +kernel
theorem dX3_toldCount_29 : decode cX3_toldCount 29 = .ok (.iinc 2 1, 3) := by decide +kernel
theorem dX3_toldCount_32 : decode cX3_toldCount 32 = .ok (.goto (-28), 3) := by decide +kernel
theorem dX3_toldCount_35 : decode cX3_toldCount 35 = .ok (.iload_n 1, 1) := by decide +kernel
theorem dX3_toldCount_36 : decode cX3_toldCount 36 = .ok (.ireturn, 1) := by decide +kernel
theorem dX3_eachIfBuilt_0 : decode cX3_eachIfBuilt 0 = .ok (.iconst 1, 1) := by decide +kernel
theorem dX3_eachIfBuilt_1 : decode cX3_eachIfBuilt 1 = .ok (.aload_n 0, 1) := by decide +kernel
theorem dX3_eachIfBuilt_2 : decode cX3_eachIfBuilt 2 = .ok (.getfield 31, 3) := by decide +kernel
theorem dX3_eachIfBuilt_5 : decode cX3_eachIfBuilt 5 = .ok (.iload_n 1, 1) := by decide +kernel
theorem dX3_eachIfBuilt_6 : decode cX3_eachIfBuilt 6 = .ok (.imul, 1) := by decide +kernel
theorem dX3_eachIfBuilt_7 : decode cX3_eachIfBuilt 7 = .ok (.bipush 100, 2) := by decide +kernel
theorem dX3_eachIfBuilt_9 : decode cX3_eachIfBuilt 9 = .ok (.idiv, 1) := by decide +kernel
theorem dX3_eachIfBuilt_10 : decode cX3_eachIfBuilt 10 = .ok (.invokestatic 141, 3) := by decide +kernel
theorem dX3_eachIfBuilt_13 : decode cX3_eachIfBuilt 13 = .ok (.ireturn, 1) := by decide +kernel
theorem dX3_leavesOutOf_0 : decode cX3_leavesOutOf 0 = .ok (.iload_n 1, 1) := by decide +kernel
theorem dX3_leavesOutOf_1 : decode cX3_leavesOutOf 1 = .ok (.aload_n 0, 1) := by decide +kernel
theorem dX3_leavesOutOf_2 : decode cX3_leavesOutOf 2 = .ok (.iload_n 2, 1) := by decide +kernel
theorem dX3_leavesOutOf_3 : decode cX3_leavesOutOf 3 = .ok (.invokevirtual 93, 3) := by decide +kernel
theorem dX3_leavesOutOf_6 : decode cX3_leavesOutOf 6 = .ok (.invokestatic 146, 3) := by decide +kernel
theorem dX3_leavesOutOf_9 : decode cX3_leavesOutOf 9 = .ok (.ireturn, 1) := by decide +kernel
theorem dX3_levelsOutOf_0 : decode cX3_levelsOutOf 0 = .ok (.aload_n 0, 1) := by decide +kernel
theorem dX3_levelsOutOf_1 : decode cX3_levelsOutOf 1 = .ok (.iload_n 1, 1) := by decide +kernel
theorem dX3_levelsOutOf_2 : decode cX3_levelsOutOf 2 = .ok (.iload_n 2, 1) := by decide +kernel
theorem dX3_levelsOutOf_3 : decode cX3_levelsOutOf 3 = .ok (.invokevirtual 149, 3) := by decide +kernel
theorem dX3_levelsOutOf_6 : decode cX3_levelsOutOf 6 = .ok (.aload_n 0, 1) := by decide +kernel
theorem dX3_levelsOutOf_7 : decode cX3_levelsOutOf 7 = .ok (.getfield 35, 3) := by decide +kernel
theorem dX3_levelsOutOf_10 : decode cX3_levelsOutOf 10 = .ok (.invokestatic 152, 3) := by decide +kernel
theorem dX3_levelsOutOf_13 : decode cX3_levelsOutOf 13 = .ok (.ireturn, 1) := by decide +kernel
theorem dX4_init_0 : decode cX4_init 0 = .ok (.aload_n 0, 1) := by decide +kernel
theorem dX4_init_1 : decode cX4_init 1 = .ok (.invokespecial 3, 3) := by decide +kernel
theorem dX4_init_4 : decode cX4_init 4 = .ok (.aload_n 0, 1) := by decide +kernel
theorem dX4_init_5 : decode cX4_init 5 = .ok (.new 9, 3) := by decide +kernel
theorem dX4_init_8 : decode cX4_init 8 = .ok (.dup, 1) := by decide +kernel
theorem dX4_init_9 : decode cX4_init 9 = .ok (.sipush 160, 3) := by decide +kernel
theorem dX4_init_12 : decode cX4_init 12 = .ok (.invokespecial 11, 3) := by decide +kernel
theorem dX4_init_15 : decode cX4_init 15 = .ok (.putfield 14, 3) := by decide +kernel
theorem dX4_init_18 : decode cX4_init 18 = .ok (.aload_n 0, 1) := by decide +kernel
theorem dX4_init_19 : decode cX4_init 19 = .ok (.sipush 160, 3) := by decide +kernel
theorem dX4_init_22 : decode cX4_init 22 = .ok (.newarray .int, 2) := by decide +kernel
theorem dX4_init_24 : decode cX4_init 24 = .ok (.putfield 20, 3) := by decide +kernel
theorem dX4_init_27 : decode cX4_init 27 = .ok (.aload_n 0, 1) := by decide +kernel
theorem dX4_init_28 : decode cX4_init 28 = .ok (.sipush 512, 3) := by decide +kernel
theorem dX4_init_31 : decode cX4_init 31 = .ok (.newarray .int, 2) := by decide +kernel
theorem dX4_init_33 : decode cX4_init 33 = .ok (.putfield 24, 3) := by decide +kernel
theorem dX4_init_36 : decode cX4_init 36 = .ok (.return_, 1) := by decide +kernel
theorem dX4_copyFrom_0 : decode cX4_copyFrom 0 = .ok (.aload_n 0, 1) := by decide +kernel
theorem dX4_copyFrom_1 : decode cX4_copyFrom 1 = .ok (.getfield 14, 3) := by decide +kernel
theorem dX4_copyFrom_4 : decode cX4_copyFrom 4 = .ok (.aload_n 1, 1) := by decide +kernel
theorem dX4_copyFrom_5 : decode cX4_copyFrom 5 = .ok (.getfield 14, 3) := by decide +kernel
theorem dX4_copyFrom_8 : decode cX4_copyFrom 8 = .ok (.invokevirtual 27, 3) := by decide +kernel
theorem dX4_copyFrom_11 : decode cX4_copyFrom 11 = .ok (.aload_n 1, 1) := by decide +kernel
theorem dX4_copyFrom_12 : decode cX4_copyFrom 12 = .ok (.getfield 20, 3) := by decide +kernel
theorem dX4_copyFrom_15 : decode cX4_copyFrom 15 = .ok (.aload_n 0, 1) := by decide +kernel
theorem dX4_copyFrom_16 : decode cX4_copyFrom 16 = .ok (.getfield 20, 3) := by decide +kernel
theorem dX4_copyFrom_19 : decode cX4_copyFrom 19 = .ok (.aload_n 1, 1) := by decide +kernel
theorem dX4_copyFrom_20 : decode cX4_copyFrom 20 = .ok (.getfield 14, 3) := by decide +kernel
theorem dX4_copyFrom_23 : decode cX4_copyFrom 23 = .ok (.getfield 31, 3) := by decide +kernel
theorem dX4_copyFrom_26 : decode cX4_copyFrom 26 = .ok (.invokestatic 35, 3) := by decide +kernel
theorem dX4_copyFrom_29 : decode cX4_copyFrom 29 = .ok (.pop, 1) := by decide +kernel
theorem dX4_copyFrom_30 : decode cX4_copyFrom 30 = .ok (.aload_n 0, 1) := by decide +kernel
theorem dX4_copyFrom_31 : decode cX4_copyFrom 31 = .ok (.aload_n 1, 1) := by decide +kernel
theorem dX4_copyFrom_32 : decode cX4_copyFrom 32 = .ok (.getfield 24, 3) := by decide +kernel
theorem dX4_copyFrom_35 : decode cX4_copyFrom 35 = .ok (.aload_n 0, 1) := by decide +kernel
theorem dX4_copyFrom_36 : decode cX4_copyFrom 36 = .ok (.getfield 24, 3) := by decide +kernel
theorem dX4_copyFrom_39 : decode cX4_copyFrom 39 = .ok (.aload_n 1, 1) := by decide +kernel
theorem dX4_copyFrom_40 : decode cX4_copyFrom 40 = .ok (.getfield 39, 3) := by decide +kernel
theorem dX4_copyFrom_43 : decode cX4_copyFrom 43 = .ok (.invokestatic 35, 3) := by decide +kernel
theorem dX4_copyFrom_46 : decode cX4_copyFrom 46 = .ok (.putfield 39, 3) := by decide +kernel
theorem dX4_copyFrom_49 : decode cX4_copyFrom 49 = .ok (.aload_n 0, 1) := by decide +kernel
theorem dX4_copyFrom_50 : decode cX4_copyFrom 50 = .ok (.aload_n 1, 1) := by decide +kernel
theorem dX4_copyFrom_51 : decode cX4_copyFrom 51 = .ok (.getfield 42, 3) := by decide +kernel
theorem dX4_copyFrom_54 : decode cX4_copyFrom 54 = .ok (.putfield 42, 3) := by decide +kernel
theorem dX4_copyFrom_57 : decode cX4_copyFrom 57 = .ok (.aload_n 0, 1) := by decide +kernel
theorem dX4_copyFrom_58 : decode cX4_copyFrom 58 = .ok (.aload_n 1, 1) := by decide +kernel
theorem dX4_copyFrom_59 : decode cX4_copyFrom 59 = .ok (.getfield 45, 3) := by decide +kernel
theorem dX4_copyFrom_62 : decode cX4_copyFrom 62 = .ok (.putfield 45, 3) := by decide +kernel
theorem dX4_copyFrom_65 : decode cX4_copyFrom 65 = .ok (.return_, 1) := by decide +kernel
theorem dX4_buildOutOf_0 : decode cX4_buildOutOf 0 = .ok (.aload_n 0, 1) := by decide +kernel
theorem dX4_buildOutOf_1 : decode cX4_buildOutOf 1 = .ok (.getfield 14, 3) := by decide +kernel
theorem dX4_buildOutOf_4 : decode cX4_buildOutOf 4 = .ok (.aload_n 1, 1) := by decide +kernel
theorem dX4_buildOutOf_5 : decode cX4_buildOutOf 5 = .ok (.invokevirtual 27, 3) := by decide +kernel
theorem dX4_buildOutOf_8 : decode cX4_buildOutOf 8 = .ok (.aload_n 0, 1) := by decide +kernel
theorem dX4_buildOutOf_9 : decode cX4_buildOutOf 9 = .ok (.iconst 0, 1) := by decide +kernel
theorem dX4_buildOutOf_10 : decode cX4_buildOutOf 10 = .ok (.putfield 39, 3) := by decide +kernel
theorem dX4_buildOutOf_13 : decode cX4_buildOutOf 13 = .ok (.iconst 0, 1) := by decide +kernel
theorem dX4_buildOutOf_14 : decode cX4_buildOutOf 14 = .ok (.istore_n 3, 1) := by decide +kernel
theorem dX4_buildOutOf_15 : decode cX4_buildOutOf 15 = .ok (.iconst 0, 1) := by decide +kernel
theorem dX4_buildOutOf_16 : decode cX4_buildOutOf 16 = .ok (.istore 4, 2) := by decide +kernel
theorem dX4_buildOutOf_18 : decode cX4_buildOutOf 18 = .ok (.iload 4, 2) := by decide +kernel
theorem dX4_buildOutOf_20 : decode cX4_buildOutOf 20 = .ok (.aload_n 0, 1) := by decide +kernel
theorem dX4_buildOutOf_21 : decode cX4_buildOutOf 21 = .ok (.getfield 14, 3) := by decide +kernel
theorem dX4_buildOutOf_24 : decode cX4_buildOutOf 24 = .ok (.getfield 31, 3) := by decide +kernel
theorem dX4_buildOutOf_27 : decode cX4_buildOutOf 27 = .ok (.if_icmp .ge 49, 3) := by decide +kernel
theorem dX4_buildOutOf_30 : decode cX4_buildOutOf 30 = .ok (.iload 4, 2) := by decide +kernel
theorem dX4_buildOutOf_32 : decode cX4_buildOutOf 32 = .ok (.aload_n 0, 1) := by decide +kernel
theorem dX4_buildOutOf_33 : decode cX4_buildOutOf 33 = .ok (.getfield 20, 3) := by decide +kernel
theorem dX4_buildOutOf_36 : decode cX4_buildOutOf 36 = .ok (.arraylength, 1) := by decide +kernel
theorem dX4_buildOutOf_37 : decode cX4_buildOutOf 37 = .ok (.if_icmp .ge 39, 3) := by decide +kernel
theorem dX4_buildOutOf_40 : decode cX4_buildOutOf 40 = .ok (.aload_n 0, 1) := by decide +kernel
theorem dX4_buildOutOf_41 : decode cX4_buildOutOf 41 = .ok (.getfield 20, 3) := by decide +kernel
theorem dX4_buildOutOf_44 : decode cX4_buildOutOf 44 = .ok (.iload 4, 2) := by decide +kernel
theorem dX4_buildOutOf_46 : decode cX4_buildOutOf 46 = .ok (.iconst 0, 1) := by decide +kernel
theorem dX4_buildOutOf_47 : decode cX4_buildOutOf 47 = .ok (.iastore, 1) := by decide +kernel
theorem dX4_buildOutOf_48 : decode cX4_buildOutOf 48 = .ok (.iload_n 3, 1) := by decide +kernel
theorem dX4_buildOutOf_49 : decode cX4_buildOutOf 49 = .ok (.ifCond .ne 18, 3) := by decide +kernel
theorem dX4_buildOutOf_52 : decode cX4_buildOutOf 52 = .ok (.aload_n 0, 1) := by decide +kernel
theorem dX4_buildOutOf_53 : decode cX4_buildOutOf 53 = .ok (.aload_n 0, 1) := by decide +kernel
theorem dX4_buildOutOf_54 : decode cX4_buildOutOf 54 = .ok (.getfield 14, 3) := by decide +kernel
theorem dX4_buildOutOf_57 : decode cX4_buildOutOf 57 = .ok (.iload 4, 2) := by decide +kernel
theorem dX4_buildOutOf_59 : decode cX4_buildOutOf 59 = .ok (.invokevirtual 48, 3) := by decide +kernel
theorem dX4_buildOutOf_62 : decode cX4_buildOutOf 62 = .ok (.invokevirtual 52, 3) := by decide +kernel
theorem dX4_buildOutOf_65 : decode cX4_buildOutOf 65 = .ok (.iload_n 2, 1) := by decide +kernel
theorem dX4_buildOutOf_66 : decode cX4_buildOutOf 66 = .ok (.istore_n 3, 1) := by decide +kernel
theorem dX4_buildOutOf_67 : decode cX4_buildOutOf 67 = .ok (.iinc 3 (-1), 3) := by decide +kernel
theorem dX4_buildOutOf_70 : decode cX4_buildOutOf 70 = .ok (.iinc 4 1, 3) := by decide +kernel
theorem dX4_buildOutOf_73 : decode cX4_buildOutOf 73 = .ok (.goto (-55), 3) := by decide +kernel
theorem dX4_buildOutOf_76 : decode cX4_buildOutOf 76 = .ok (.return_, 1) := by decide +kernel
theorem dX4_addLeaf_0 : decode cX4_addLeaf 0 = .ok (.aload_n 0, 1) := by decide +kernel
theorem dX4_addLeaf_1 : decode cX4_addLeaf 1 = .ok (.getfield 39, 3) := by decide +kernel
theorem dX4_addLeaf_4 : decode cX4_addLeaf 4 = .ok (.ifCond .lt 46, 3) := by decide +kernel
theorem dX4_addLeaf_7 : decode cX4_addLeaf 7 = .ok (.aload_n 0, 1) := by decide +kernel
theorem dX4_addLeaf_8 : decode cX4_addLeaf 8 = .ok (.getfield 39, 3) := by decide +kernel
theorem dX4_addLeaf_11 : decode cX4_addLeaf 11 = .ok (.aload_n 0, 1) := by decide +kernel
theorem dX4_addLeaf_12 : decode cX4_addLeaf 12 = .ok (.getfield 24, 3) := by decide +kernel
theorem dX4_addLeaf_15 : decode cX4_addLeaf 15 = .ok (.arraylength, 1) := by decide +kernel
theorem dX4_addLeaf_16 : decode cX4_addLeaf 16 = .ok (.if_icmp .ge 34, 3) := by decide +kernel
theorem dX4_addLeaf_19 : decode cX4_addLeaf 19 = .ok (.aload_n 0, 1) := by decide +kernel
theorem dX4_addLeaf_20 : decode cX4_addLeaf 20 = .ok (.getfield 24, 3) := by decide +kernel
theorem dX4_addLeaf_23 : decode cX4_addLeaf 23 = .ok (.aload_n 0, 1) := by decide +kernel
theorem dX4_addLeaf_24 : decode cX4_addLeaf 24 = .ok (.getfield 39, 3) := by decide +kernel
theorem dX4_addLeaf_27 : decode cX4_addLeaf 27 = .ok (.aload_n 0, 1) := by decide +kernel
theorem dX4_addLeaf_28 : decode cX4_addLeaf 28 = .ok (.getfield 39, 3) := by decide +kernel
theorem dX4_addLeaf_31 : decode cX4_addLeaf 31 = .ok (.ifCond .ne 7, 3) := by decide +kernel
theorem dX4_addLeaf_34 : decode cX4_addLeaf 34 = .ok (.iconst 0, 1) := by decide +kernel
theorem dX4_addLeaf_35 : decode cX4_addLeaf 35 = .ok (.goto 4, 3) := by decide +kernel
theorem dX4_addLeaf_38 : decode cX4_addLeaf 38 = .ok (.iload_n 1, 1) := by decide +kernel
theorem dX4_addLeaf_39 : decode cX4_addLeaf 39 = .ok (.iastore, 1) := by decide +kernel
theorem dX4_addLeaf_40 : decode cX4_addLeaf 40 = .ok (.aload_n 0, 1) := by decide +kernel
theorem dX4_addLeaf_41 : decode cX4_addLeaf 41 = .ok (.dup, 1) := by decide +kernel
theorem dX4_addLeaf_42 : decode cX4_addLeaf 42 = .ok (.getfield 39, 3) := by decide +kernel
theorem dX4_addLeaf_45 : decode cX4_addLeaf 45 = .ok (.iconst 1, 1) := by decide +kernel
theorem dX4_addLeaf_46 : decode cX4_addLeaf 46 = .ok (.iadd, 1) := by decide +kernel
theorem dX4_addLeaf_47 : decode cX4_addLeaf 47 = .ok (.putfield 39, 3) := by decide +kernel
theorem dX4_addLeaf_50 : decode cX4_addLeaf 50 = .ok (.return_, 1) := by decide +kernel
theorem dX4_boundOn_0 : decode cX4_boundOn 0 = .ok (.iload_n 1, 1) := by decide +kernel
theorem dX4_boundOn_1 : decode cX4_boundOn 1 = .ok (.ifCond .lt 29, 3) := by decide +kernel
theorem dX4_boundOn_4 : decode cX4_boundOn 4 = .ok (.iload_n 1, 1) := by decide +kernel
theorem dX4_boundOn_5 : decode cX4_boundOn 5 = .ok (.aload_n 0, 1) := by decide +kernel
theorem dX4_boundOn_6 : decode cX4_boundOn 6 = .ok (.getfield 39, 3) := by decide +kernel
theorem dX4_boundOn_9 : decode cX4_boundOn 9 = .ok (.if_icmp .ge 21, 3) := by decide +kernel
theorem dX4_boundOn_12 : decode cX4_boundOn 12 = .ok (.iload_n 1, 1) := by decide +kernel
theorem dX4_boundOn_13 : decode cX4_boundOn 13 = .ok (.aload_n 0, 1) := by decide +kernel
theorem dX4_boundOn_14 : decode cX4_boundOn 14 = .ok (.getfield 24, 3) := by decide +kernel
theorem dX4_boundOn_17 : decode cX4_boundOn 17 = .ok (.arraylength, 1) := by decide +kernel
theorem dX4_boundOn_18 : decode cX4_boundOn 18 = .ok (.if_icmp .ge 12, 3) := by decide +kernel
theorem dX4_boundOn_21 : decode cX4_boundOn 21 = .ok (.aload_n 0, 1) := by decide +kernel
theorem dX4_boundOn_22 : decode cX4_boundOn 22 = .ok (.getfield 24, 3) := by decide +kernel
theorem dX4_boundOn_25 : decode cX4_boundOn 25 = .ok (.iload_n 1, 1) := by decide +kernel
theorem dX4_boundOn_26 : decode cX4_boundOn 26 = .ok (.iaload, 1) := by decide +kernel
theorem dX4_boundOn_27 : decode cX4_boundOn 27 = .ok (.goto 6, 3) := by decide +kernel
theorem dX4_boundOn_30 : decode cX4_boundOn 30 = .ok (.sipush 10000, 3) := by decide +kernel
theorem dX4_boundOn_33 : decode cX4_boundOn 33 = .ok (.ireturn, 1) := by decide +kernel
theorem dX4_leafOfKey_0 : decode cX4_leafOfKey 0 = .ok (.iconst 0, 1) := by decide +kernel
theorem dX4_leafOfKey_1 : decode cX4_leafOfKey 1 = .ok (.istore_n 2, 1) := by decide +kernel
theorem dX4_leafOfKey_2 : decode cX4_leafOfKey 2 = .ok (.aload_n 0, 1) := by decide +kernel
theorem dX4_leafOfKey_3 : decode cX4_leafOfKey 3 = .ok (.getfield 39, 3) := by decide +kernel
theorem dX4_leafOfKey_6 : decode cX4_leafOfKey 6 = .ok (.istore_n 3, 1) := by decide +kernel
theorem dX4_leafOfKey_7 : decode cX4_leafOfKey 7 = .ok (.iconst 0, 1) := by decide +kernel
theorem dX4_leafOfKey_8 : decode cX4_leafOfKey 8 = .ok (.istore 4, 2) := by decide +kernel
theorem dX4_leafOfKey_10 : decode cX4_leafOfKey 10 = .ok (.iload 4, 2) := by decide +kernel
theorem dX4_leafOfKey_12 : decode cX4_leafOfKey 12 = .ok (.bipush 32, 2) := by decide +kernel
theorem dX4_leafOfKey_14 : decode cX4_leafOfKey 14 = .ok (.if_icmp .ge 53, 3) := by decide +kernel
theorem dX4_leafOfKey_17 : decode cX4_leafOfKey 17 = .ok (.iload_n 2, 1) := by decide +kernel
theorem dX4_leafOfKey_18 : decode cX4_leafOfKey 18 = .ok (.iload_n 3, 1) := by decide +kernel
theorem dX4_leafOfKey_19 : decode cX4_leafOfKey 19 = .ok (.if_icmp .ge 48, 3) := by decide +kernel
theorem dX4_leafOfKey_22 : decode cX4_leafOfKey 22 = .ok (.iload_n 2, 1) := by decide +kernel
theorem dX4_leafOfKey_23 : decode cX4_leafOfKey 23 = .ok (.iload_n 3, 1) := by decide +kernel
theorem dX4_leafOfKey_24 : decode cX4_leafOfKey 24 = .ok (.iadd, 1) := by decide +kernel
theorem dX4_leafOfKey_25 : decode cX4_leafOfKey 25 = .ok (.iconst 1, 1) := by decide +kernel
theorem dX4_leafOfKey_26 : decode cX4_leafOfKey 26 = .ok (.iushr, 1) := by decide +kernel
theorem dX4_leafOfKey_27 : decode cX4_leafOfKey 27 = .ok (.istore 5, 2) := by decide +kernel
theorem dX4_leafOfKey_29 : decode cX4_leafOfKey 29 = .ok (.iload 5, 2) := by decide +kernel
theorem dX4_leafOfKey_31 : decode cX4_leafOfKey 31 = .ok (.aload_n 0, 1) := by decide +kernel
theorem dX4_leafOfKey_32 : decode cX4_leafOfKey 32 = .ok (.getfield 24, 3) := by decide +kernel
theorem dX4_leafOfKey_35 : decode cX4_leafOfKey 35 = .ok (.arraylength, 1) := by decide +kernel
theorem dX4_leafOfKey_36 : decode cX4_leafOfKey 36 = .ok (.if_icmp .ge 22, 3) := by decide +kernel
theorem dX4_leafOfKey_39 : decode cX4_leafOfKey 39 = .ok (.aload_n 0, 1) := by decide +kernel
theorem dX4_leafOfKey_40 : decode cX4_leafOfKey 40 = .ok (.getfield 24, 3) := by decide +kernel
theorem dX4_leafOfKey_43 : decode cX4_leafOfKey 43 = .ok (.iload 5, 2) := by decide +kernel
theorem dX4_leafOfKey_45 : decode cX4_leafOfKey 45 = .ok (.iaload, 1) := by decide +kernel
theorem dX4_leafOfKey_46 : decode cX4_leafOfKey 46 = .ok (.iload_n 1, 1) := by decide +kernel
theorem dX4_leafOfKey_47 : decode cX4_leafOfKey 47 = .ok (.if_icmp .gt 11, 3) := by decide +kernel
theorem dX4_leafOfKey_50 : decode cX4_leafOfKey 50 = .ok (.iload 5, 2) := by decide +kernel
theorem dX4_leafOfKey_52 : decode cX4_leafOfKey 52 = .ok (.iconst 1, 1) := by decide +kernel
theorem dX4_leafOfKey_53 : decode cX4_leafOfKey 53 = .ok (.iadd, 1) := by decide +kernel
theorem dX4_leafOfKey_54 : decode cX4_leafOfKey 54 = .ok (.istore_n 2, 1) := by decide +kernel
theorem dX4_leafOfKey_55 : decode cX4_leafOfKey 55 = .ok (.goto 6, 3) := by decide +kernel
theorem dX4_leafOfKey_58 : decode cX4_leafOfKey 58 = .ok (.iload 5, 2) := by decide +kernel
theorem dX4_leafOfKey_60 : decode cX4_leafOfKey 60 = .ok (.istore_n 3, 1) := by decide +kernel
theorem dX4_leafOfKey_61 : decode cX4_leafOfKey 61 = .ok (.iinc 4 1, 3) := by decide +kernel
theorem dX4_leafOfKey_64 : decode cX4_leafOfKey 64 = .ok (.goto (-54), 3) := by decide +kernel
theorem dX4_leafOfKey_67 : decode cX4_leafOfKey 67 = .ok (.iload_n 2, 1) := by decide +kernel
theorem dX4_leafOfKey_68 : decode cX4_leafOfKey 68 = .ok (.iconst 1, 1) := by decide +kernel
theorem dX4_leafOfKey_69 : decode cX4_leafOfKey 69 = .ok (.isub, 1) := by decide +kernel
theorem dX4_leafOfKey_70 : decode cX4_leafOfKey 70 = .ok (.ireturn, 1) := by decide +kernel
theorem dX4_firstEntry_0 : decode cX4_firstEntry 0 = .ok (.aload_n 0, 1) := by decide +kernel
theorem dX4_firstEntry_1 : decode cX4_firstEntry 1 = .ok (.getfield 14, 3) := by decide +kernel
theorem dX4_firstEntry_4 : decode cX4_firstEntry 4 = .ok (.aload_n 0, 1) := by decide +kernel
theorem dX4_firstEntry_5 : decode cX4_firstEntry 5 = .ok (.iload_n 1, 1) := by decide +kernel
theorem dX4_firstEntry_6 : decode cX4_firstEntry 6 = .ok (.invokevirtual 55, 3) := by decide +kernel
theorem dX4_firstEntry_9 : decode cX4_firstEntry 9 = .ok (.invokevirtual 58, 3) := by decide +kernel
theorem dX4_firstEntry_12 : decode cX4_firstEntry 12 = .ok (.ireturn, 1) := by decide +kernel
theorem dX4_placeOn_0 : decode cX4_placeOn 0 = .ok (.iload_n 1, 1) := by decide +kernel
theorem dX4_placeOn_1 : decode cX4_placeOn 1 = .ok (.ifCond .lt 21, 3) := by decide +kernel
theorem dX4_placeOn_4 : decode cX4_placeOn 4 = .ok (.iload_n 1, 1) := by decide +kernel
theorem dX4_placeOn_5 : decode cX4_placeOn 5 = .ok (.aload_n 0, 1) := by decide +kernel
theorem dX4_placeOn_6 : decode cX4_placeOn 6 = .ok (.getfield 20, 3) := by decide +kernel
theorem dX4_placeOn_9 : decode cX4_placeOn 9 = .ok (.arraylength, 1) := by decide +kernel
theorem dX4_placeOn_10 : decode cX4_placeOn 10 = .ok (.if_icmp .ge 12, 3) := by decide +kernel
theorem dX4_placeOn_13 : decode cX4_placeOn 13 = .ok (.aload_n 0, 1) := by decide +kernel
theorem dX4_placeOn_14 : decode cX4_placeOn 14 = .ok (.getfield 20, 3) := by decide +kernel
theorem dX4_placeOn_17 : decode cX4_placeOn 17 = .ok (.iload_n 1, 1) := by decide +kernel
theorem dX4_placeOn_18 : decode cX4_placeOn 18 = .ok (.iaload, 1) := by decide +kernel
theorem dX4_placeOn_19 : decode cX4_placeOn 19 = .ok (.goto 4, 3) := by decide +kernel
theorem dX4_placeOn_22 : decode cX4_placeOn 22 = .ok (.iconst 0, 1) := by decide +kernel
theorem dX4_placeOn_23 : decode cX4_placeOn 23 = .ok (.ireturn, 1) := by decide +kernel
theorem dX4_ownCount_0 : decode cX4_ownCount 0 = .ok (.iconst 0, 1) := by decide +kernel
theorem dX4_ownCount_1 : decode cX4_ownCount 1 = .ok (.istore_n 2, 1) := by decide +kernel
theorem dX4_ownCount_2 : decode cX4_ownCount 2 = .ok (.aload_n 0, 1) := by decide +kernel
theorem dX4_ownCount_3 : decode cX4_ownCount 3 = .ok (.getfield 14, 3) := by decide +kernel
theorem dX4_ownCount_6 : decode cX4_ownCount 6 = .ok (.aload_n 0, 1) := by decide +kernel
theorem dX4_ownCount_7 : decode cX4_ownCount 7 = .ok (.iload_n 1, 1) := by decide +kernel
theorem dX4_ownCount_8 : decode cX4_ownCount 8 = .ok (.iconst 1, 1) := by decide +kernel
theorem dX4_ownCount_9 : decode cX4_ownCount 9 = .ok (.iadd, 1) := by decide +kernel
theorem dX4_ownCount_10 : decode cX4_ownCount 10 = .ok (.invokevirtual 55, 3) := by decide +kernel
theorem dX4_ownCount_13 : decode cX4_ownCount 13 = .ok (.invokevirtual 58, 3) := by decide +kernel
theorem dX4_ownCount_16 : decode cX4_ownCount 16 = .ok (.istore_n 3, 1) := by decide +kernel
theorem dX4_ownCount_17 : decode cX4_ownCount 17 = .ok (.aload_n 0, 1) := by decide +kernel
theorem dX4_ownCount_18 : decode cX4_ownCount 18 = .ok (.getfield 14, 3) := by decide +kernel
theorem dX4_ownCount_21 : decode cX4_ownCount 21 = .ok (.aload_n 0, 1) := by decide +kernel
theorem dX4_ownCount_22 : decode cX4_ownCount 22 = .ok (.iload_n 1, 1) := by decide +kernel
theorem dX4_ownCount_23 : decode cX4_ownCount 23 = .ok (.invokevirtual 55, 3) := by decide +kernel
theorem dX4_ownCount_26 : decode cX4_ownCount 26 = .ok (.invokevirtual 58, 3) := by decide +kernel
theorem dX4_ownCount_29 : decode cX4_ownCount 29 = .ok (.istore 4, 2) := by decide +kernel
theorem dX4_ownCount_31 : decode cX4_ownCount 31 = .ok (.iload 4, 2) := by decide +kernel
theorem dX4_ownCount_33 : decode cX4_ownCount 33 = .ok (.iload_n 3, 1) := by decide +kernel
theorem dX4_ownCount_34 : decode cX4_ownCount 34 = .ok (.if_icmp .ge 21, 3) := by decide +kernel
theorem dX4_ownCount_37 : decode cX4_ownCount 37 = .ok (.aload_n 0, 1) := by decide +kernel
theorem dX4_ownCount_38 : decode cX4_ownCount 38 = .ok (.iload 4, 2) := by decide +kernel
theorem dX4_ownCount_40 : decode cX4_ownCount 40 = .ok (.invokevirtual 61, 3) := by decide +kernel
theorem dX4_ownCount_43 : decode cX4_ownCount 43 = .ok (.ifCond .ne 6, 3) := by decide +kernel
theorem dX4_ownCount_46 : decode cX4_ownCount 46 = .ok (.iinc 2 1, 3) := by decide +kernel
theorem dX4_ownCount_49 : decode cX4_ownCount 49 = .ok (.iinc 4 1, 3) := by decide +kernel
theorem dX4_ownCount_52 : decode cX4_ownCount 52 = .ok (.goto (-21), 3) := by decide +kernel
theorem dX4_ownCount_55 : decode cX4_ownCount 55 = .ok (.iload_n 2, 1) := by decide +kernel
theorem dX4_ownCount_56 : decode cX4_ownCount 56 = .ok (.ireturn, 1) := by decide +kernel
theorem dX4_overflowCount_0 : decode cX4_overflowCount 0 = .ok (.iconst 0, 1) := by decide +kernel
theorem dX4_overflowCount_1 : decode cX4_overflowCount 1 = .ok (.istore_n 2, 1) := by decide +kernel
theorem dX4_overflowCount_2 : decode cX4_overflowCount 2 = .ok (.aload_n 0, 1) := by decide +kernel
theorem dX4_overflowCount_3 : decode cX4_overflowCount 3 = .ok (.getfield 14, 3) := by decide +kernel
theorem dX4_overflowCount_6 : decode cX4_overflowCount 6 = .ok (.aload_n 0, 1) := by decide +kernel
theorem dX4_overflowCount_7 : decode cX4_overflowCount 7 = .ok (.iload_n 1, 1) := by decide +kernel
theorem dX4_overflowCount_8 : decode cX4_overflowCount 8 = .ok (.iconst 1, 1) := by decide +kernel
theorem dX4_overflowCount_9 : decode cX4_overflowCount 9 = .ok (.iadd, 1) := by decide +kernel
theorem dX4_overflowCount_10 : decode cX4_overflowCount 10 = .ok (.invokevirtual 55, 3) := by decide +kernel
theorem dX4_overflowCount_13 : decode cX4_overflowCount 13 = .ok (.invokevirtual 58, 3) := by decide +kernel
theorem dX4_overflowCount_16 : decode cX4_overflowCount 16 = .ok (.istore_n 3, 1) := by decide +kernel
theorem dX4_overflowCount_17 : decode cX4_overflowCount 17 = .ok (.aload_n 0, 1) := by decide +kernel
theorem dX4_overflowCount_18 : decode cX4_overflowCount 18 = .ok (.getfield 14, 3) := by decide +kernel
theorem dX4_overflowCount_21 : decode cX4_overflowCount 21 = .ok (.aload_n 0, 1) := by decide +kernel
theorem dX4_overflowCount_22 : decode cX4_overflowCount 22 = .ok (.iload_n 1, 1) := by decide +kernel
theorem dX4_overflowCount_23 : decode cX4_overflowCount 23 = .ok (.invokevirtual 55, 3) := by decide +kernel
theorem dX4_overflowCount_26 : decode cX4_overflowCount 26 = .ok (.invokevirtual 58, 3) := by decide +kernel
theorem dX4_overflowCount_29 : decode cX4_overflowCount 29 = .ok (.istore 4, 2) := by decide +kernel
theorem dX4_overflowCount_31 : decode cX4_overflowCount 31 = .ok (.iload 4, 2) := by decide +kernel
theorem dX4_overflowCount_33 : decode cX4_overflowCount 33 = .ok (.iload_n 3, 1) := by decide +kernel
theorem dX4_overflowCount_34 : decode cX4_overflowCount 34 = .ok (.if_icmp .ge 21, 3) := by decide +kernel
theorem dX4_overflowCount_37 : decode cX4_overflowCount 37 = .ok (.aload_n 0, 1) := by decide +kernel
theorem dX4_overflowCount_38 : decode cX4_overflowCount 38 = .ok (.iload 4, 2) := by decide +kernel
theorem dX4_overflowCount_40 : decode cX4_overflowCount 40 = .ok (.invokevirtual 61, 3) := by decide +kernel
theorem dX4_overflowCount_43 : decode cX4_overflowCount 43 = .ok (.ifCond .le 6, 3) := by decide +kernel
theorem dX4_overflowCount_46 : decode cX4_overflowCount 46 = .ok (.iinc 2 1, 3) := by decide +kernel
theorem dX4_overflowCount_49 : decode cX4_overflowCount 49 = .ok (.iinc 4 1, 3) := by decide +kernel
theorem dX4_overflowCount_52 : decode cX4_overflowCount 52 = .ok (.goto (-21), 3) := by decide +kernel
theorem dX4_overflowCount_55 : decode cX4_overflowCount 55 = .ok (.iload_n 2, 1) := by decide +kernel
theorem dX4_overflowCount_56 : decode cX4_overflowCount 56 = .ok (.ireturn, 1) := by decide +kernel
theorem dX4_overflowLeafCount_0 : decode cX4_overflowLeafCount 0 = .ok (.aload_n 0, 1) := by decide +kernel
theorem dX4_overflowLeafCount_1 : decode cX4_overflowLeafCount 1 = .ok (.iload_n 1, 1) := by decide +kernel
theorem dX4_overflowLeafCount_2 : decode cX4_overflowLeafCount 2 = .ok (.invokevirtual 64, 3) := by decide +kernel
theorem dX4_overflowLeafCount_5 : decode cX4_overflowLeafCount 5 = .ok (.aload_n 0, 1) := by decide +kernel
theorem dX4_overflowLeafCount_6 : decode cX4_overflowLeafCount 6 = .ok (.getfield 42, 3) := by decide +kernel
theorem dX4_overflowLeafCount_9 : decode cX4_overflowLeafCount 9 = .ok (.invokestatic 67, 3) := by decide +kernel
theorem dX4_overflowLeafCount_12 : decode cX4_overflowLeafCount 12 = .ok (.ireturn, 1) := by decide +kernel
theorem dX4_ownEntry_0 : decode cX4_ownEntry 0 = .ok (.iload_n 2, 1) := by decide +kernel
theorem dX4_ownEntry_1 : decode cX4_ownEntry 1 = .ok (.istore_n 3, 1) := by decide +kernel
theorem dX4_ownEntry_2 : decode cX4_ownEntry 2 = .ok (.aload_n 0, 1) := by decide +kernel
theorem dX4_ownEntry_3 : decode cX4_ownEntry 3 = .ok (.iload_n 1, 1) := by decide +kernel
theorem dX4_ownEntry_4 : decode cX4_ownEntry 4 = .ok (.iconst 1, 1) := by decide +kernel
theorem dX4_ownEntry_5 : decode cX4_ownEntry 5 = .ok (.iadd, 1) := by decide +kernel
theorem dX4_ownEntry_6 : decode cX4_ownEntry 6 = .ok (.invokevirtual 71, 3) := by decide +kernel
theorem dX4_ownEntry_9 : decode cX4_ownEntry 9 = .ok (.istore 4, 2) := by decide +kernel
theorem dX4_ownEntry_11 : decode cX4_ownEntry 11 = .ok (.aload_n 0, 1) := by decide +kernel
theorem dX4_ownEntry_12 : decode cX4_ownEntry 12 = .ok (.iload_n 1, 1) := by decide +kernel
theorem dX4_ownEntry_13 : decode cX4_ownEntry 13 = .ok (.invokevirtual 71, 3) := by decide +kernel
theorem dX4_ownEntry_16 : decode cX4_ownEntry 16 = .ok (.istore 5, 2) := by decide +kernel
theorem dX4_ownEntry_18 : decode cX4_ownEntry 18 = .ok (.iload 5, 2) := by decide +kernel
theorem dX4_ownEntry_20 : decode cX4_ownEntry 20 = .ok (.iload 4, 2) := by decide +kernel
theorem dX4_ownEntry_22 : decode cX4_ownEntry 22 = .ok (.if_icmp .ge 32, 3) := by decide +kernel
theorem dX4_ownEntry_25 : decode cX4_ownEntry 25 = .ok (.iload_n 3, 1) := by decide +kernel
theorem dX4_ownEntry_26 : decode cX4_ownEntry 26 = .ok (.ifCond .lt 28, 3) := by decide +kernel
theorem dX4_ownEntry_29 : decode cX4_ownEntry 29 = .ok (.aload_n 0, 1) := by decide +kernel
theorem dX4_ownEntry_30 : decode cX4_ownEntry 30 = .ok (.iload 5, 2) := by decide +kernel
theorem dX4_ownEntry_32 : decode cX4_ownEntry 32 = .ok (.invokevirtual 61, 3) := by decide +kernel
theorem dX4_ownEntry_35 : decode cX4_ownEntry 35 = .ok (.ifCond .ne 13, 3) := by decide +kernel
theorem dX4_ownEntry_38 : decode cX4_ownEntry 38 = .ok (.iload_n 3, 1) := by decide +kernel
theorem dX4_ownEntry_39 : decode cX4_ownEntry 39 = .ok (.ifCond .ne 6, 3) := by decide +kernel
theorem dX4_ownEntry_42 : decode cX4_ownEntry 42 = .ok (.iload 5, 2) := by decide +kernel
theorem dX4_ownEntry_44 : decode cX4_ownEntry 44 = .ok (.ireturn, 1) := by decide +kernel
theorem dX4_ownEntry_45 : decode cX4_ownEntry 45 = .ok (.iinc 3 (-1), 3) := by decide +kernel
theorem dX4_ownEntry_48 : decode cX4_ownEntry 48 = .ok (.iinc 5 1, 3) := by decide +kernel
theorem dX4_ownEntry_51 : decode cX4_ownEntry 51 = .ok (.goto (-33), 3) := by decide +kernel
theorem dX4_ownEntry_54 : decode cX4_ownEntry 54 = .ok (.iconst (-1), 1) := by decide +kernel
theorem dX4_ownEntry_55 : decode cX4_ownEntry 55 = .ok (.ireturn, 1) := by decide +kernel
theorem dX4_write_0 : decode cX4_write 0 = .ok (.aload_n 0, 1) := by decide +kernel
theorem dX4_write_1 : decode cX4_write 1 = .ok (.getfield 14, 3) := by decide +kernel
theorem dX4_write_4 : decode cX4_write 4 = .ok (.iload_n 1, 1) := by decide +kernel
theorem dX4_write_5 : decode cX4_write 5 = .ok (.invokevirtual 74, 3) := by decide +kernel
theorem dX4_write_8 : decode cX4_write 8 = .ok (.istore_n 3, 1) := by decide +kernel
theorem dX4_write_9 : decode cX4_write 9 = .ok (.iload_n 3, 1) := by decide +kernel
theorem dX4_write_10 : decode cX4_write 10 = .ok (.iconst (-1), 1) := by decide +kernel
theorem dX4_write_11 : decode cX4_write 11 = .ok (.if_icmp .eq 14, 3) := by decide +kernel
theorem dX4_write_14 : decode cX4_write 14 = .ok (.aload_n 0, 1) := by decide +kernel
theorem dX4_write_15 : decode cX4_write 15 = .ok (.getfield 14, 3) := by decide +kernel
theorem dX4_write_18 : decode cX4_write 18 = .ok (.iload_n 3, 1) := by decide +kernel
theorem dX4_write_19 : decode cX4_write 19 = .ok (.iload_n 2, 1) := by decide +kernel
theorem dX4_write_20 : decode cX4_write 20 = .ok (.invokevirtual 77, 3) := by decide +kernel
theorem dX4_write_23 : decode cX4_write 23 = .ok (.iconst 0, 1) := by decide +kernel
theorem dX4_write_24 : decode cX4_write 24 = .ok (.ireturn, 1) := by decide +kernel
theorem dX4_write_25 : decode cX4_write 25 = .ok (.aload_n 0, 1) := by decide +kernel
theorem dX4_write_26 : decode cX4_write 26 = .ok (.getfield 14, 3) := by decide +kernel
theorem dX4_write_29 : decode cX4_write 29 = .ok (.invokevirtual 81, 3) := by decide +kernel
theorem dX4_write_32 : decode cX4_write 32 = .ok (.ifCond .eq 5, 3) := by decide +kernel
theorem dX4_write_35 : decode cX4_write 35 = .ok (.iconst (-1), 1) := by decide +kernel
theorem dX4_write_36 : decode cX4_write 36 = .ok (.ireturn, 1) := by decide +kernel
theorem dX4_write_37 : decode cX4_write 37 = .ok (.aload_n 0, 1) := by decide +kernel
theorem dX4_write_38 : decode cX4_write 38 = .ok (.iload_n 1, 1) := by decide +kernel
theorem dX4_write_39 : decode cX4_write 39 = .ok (.invokevirtual 85, 3) := by decide +kernel
theorem dX4_write_42 : decode cX4_write 42 = .ok (.istore 4, 2) := by decide +kernel
theorem dX4_write_44 : decode cX4_write 44 = .ok (.iload 4, 2) := by decide +kernel
theorem dX4_write_46 : decode cX4_write 46 = .ok (.iconst (-1), 1) := by decide +kernel
theorem dX4_write_47 : decode cX4_write 47 = .ok (.if_icmp .eq 25, 3) := by decide +kernel
theorem dX4_write_50 : decode cX4_write 50 = .ok (.aload_n 0, 1) := by decide +kernel
theorem dX4_write_51 : decode cX4_write 51 = .ok (.iload 4, 2) := by decide +kernel
theorem dX4_write_53 : decode cX4_write 53 = .ok (.invokevirtual 88, 3) := by decide +kernel
theorem dX4_write_56 : decode cX4_write 56 = .ok (.aload_n 0, 1) := by decide +kernel
theorem dX4_write_57 : decode cX4_write 57 = .ok (.getfield 42, 3) := by decide +kernel
theorem dX4_write_60 : decode cX4_write 60 = .ok (.if_icmp .ge 12, 3) := by decide +kernel
theorem dX4_write_63 : decode cX4_write 63 = .ok (.aload_n 0, 1) := by decide +kernel
theorem dX4_write_64 : decode cX4_write 64 = .ok (.iload_n 1, 1) := by decide +kernel
theorem dX4_write_65 : decode cX4_write 65 = .ok (.iload_n 2, 1) := by decide +kernel
theorem dX4_write_66 : decode cX4_write 66 = .ok (.iconst 0, 1) := by decide +kernel
theorem dX4_write_67 : decode cX4_write 67 = .ok (.invokevirtual 91, 3) := by decide +kernel
theorem dX4_write_70 : decode cX4_write 70 = .ok (.iconst 1, 1) := by decide +kernel
theorem dX4_write_71 : decode cX4_write 71 = .ok (.ireturn, 1) := by decide +kernel
theorem dX4_write_72 : decode cX4_write 72 = .ok (.iload 4, 2) := by decide +kernel
theorem dX4_write_74 : decode cX4_write 74 = .ok (.aload_n 0, 1) := by decide +kernel
theorem dX4_write_75 : decode cX4_write 75 = .ok (.getfield 39, 3) := by decide +kernel
theorem dX4_write_78 : decode cX4_write 78 = .ok (.iconst 1, 1) := by decide +kernel
theorem dX4_write_79 : decode cX4_write 79 = .ok (.isub, 1) := by decide +kernel
theorem dX4_write_80 : decode cX4_write 80 = .ok (.if_icmp .ne 27, 3) := by decide +kernel
theorem dX4_write_83 : decode cX4_write 83 = .ok (.iload_n 1, 1) := by decide +kernel
theorem dX4_write_84 : decode cX4_write 84 = .ok (.aload_n 0, 1) := by decide +kernel
theorem dX4_write_85 : decode cX4_write 85 = .ok (.getfield 14, 3) := by decide +kernel
theorem dX4_write_88 : decode cX4_write 88 = .ok (.aload_n 0, 1) := by decide +kernel
theorem dX4_write_89 : decode cX4_write 89 = .ok (.getfield 14, 3) := by decide +kernel
theorem dX4_write_92 : decode cX4_write 92 = .ok (.getfield 31, 3) := by decide +kernel
theorem dX4_write_95 : decode cX4_write 95 = .ok (.iconst 1, 1) := by decide +kernel
theorem dX4_write_96 : decode cX4_write 96 = .ok (.isub, 1) := by decide +kernel
theorem dX4_write_97 : decode cX4_write 97 = .ok (.invokevirtual 48, 3) := by decide +kernel
theorem dX4_write_100 : decode cX4_write 100 = .ok (.if_icmp .le 7, 3) := by decide +kernel
theorem dX4_write_103 : decode cX4_write 103 = .ok (.iconst 1, 1) := by decide +kernel
theorem dX4_write_104 : decode cX4_write 104 = .ok (.goto 4, 3) := by decide +kernel
theorem dX4_write_107 : decode cX4_write 107 = .ok (.iconst 0, 1) := by decide +kernel
theorem dX4_write_108 : decode cX4_write 108 = .ok (.istore 5, 2) := by decide +kernel
theorem dX4_write_110 : decode cX4_write 110 = .ok (.iload 4, 2) := by decide +kernel
theorem dX4_write_112 : decode cX4_write 112 = .ok (.iconst (-1), 1) := by decide +kernel
theorem dX4_write_113 : decode cX4_write 113 = .ok (.if_icmp .eq 20, 3) := by decide +kernel
theorem dX4_write_116 : decode cX4_write 116 = .ok (.iload 5, 2) := by decide +kernel
theorem dX4_write_118 : decode cX4_write 118 = .ok (.ifCond .eq 29, 3) := by decide +kernel
theorem dX4_write_121 : decode cX4_write 121 = .ok (.aload_n 0, 1) := by decide +kernel
theorem dX4_write_122 : decode cX4_write 122 = .ok (.getfield 39, 3) := by decide +kernel
theorem dX4_write_125 : decode cX4_write 125 = .ok (.aload_n 0, 1) := by decide +kernel
theorem dX4_write_126 : decode cX4_write 126 = .ok (.getfield 24, 3) := by decide +kernel
theorem dX4_write_129 : decode cX4_write 129 = .ok (.arraylength, 1) := by decide +kernel
theorem dX4_write_130 : decode cX4_write 130 = .ok (.if_icmp .ge 17, 3) := by decide +kernel
theorem dX4_write_133 : decode cX4_write 133 = .ok (.aload_n 0, 1) := by decide +kernel
theorem dX4_write_134 : decode cX4_write 134 = .ok (.iload_n 1, 1) := by decide +kernel
theorem dX4_write_135 : decode cX4_write 135 = .ok (.invokevirtual 52, 3) := by decide +kernel
theorem dX4_write_138 : decode cX4_write 138 = .ok (.aload_n 0, 1) := by decide +kernel
theorem dX4_write_139 : decode cX4_write 139 = .ok (.iload_n 1, 1) := by decide +kernel
theorem dX4_write_140 : decode cX4_write 140 = .ok (.iload_n 2, 1) := by decide +kernel
theorem dX4_write_141 : decode cX4_write 141 = .ok (.iconst 0, 1) := by decide +kernel
theorem dX4_write_142 : decode cX4_write 142 = .ok (.invokevirtual 91, 3) := by decide +kernel
theorem dX4_write_145 : decode cX4_write 145 = .ok (.iconst 3, 1) := by decide +kernel
theorem dX4_write_146 : decode cX4_write 146 = .ok (.ireturn, 1) := by decide +kernel
theorem dX4_write_147 : decode cX4_write 147 = .ok (.aload_n 0, 1) := by decide +kernel
theorem dX4_write_148 : decode cX4_write 148 = .ok (.iload_n 1, 1) := by decide +kernel
theorem dX4_write_149 : decode cX4_write 149 = .ok (.iload_n 2, 1) := by decide +kernel
theorem dX4_write_150 : decode cX4_write 150 = .ok (.aload_n 0, 1) := by decide +kernel
theorem dX4_write_151 : decode cX4_write 151 = .ok (.iload 4, 2) := by decide +kernel
theorem dX4_write_153 : decode cX4_write 153 = .ok (.invokevirtual 64, 3) := by decide +kernel
theorem dX4_write_156 : decode cX4_write 156 = .ok (.iconst 1, 1) := by decide +kernel
theorem dX4_write_157 : decode cX4_write 157 = .ok (.iadd, 1) := by decide +kernel
theorem dX4_write_158 : decode cX4_write 158 = .ok (.invokevirtual 91, 3) := by decide +kernel
theorem dX4_write_161 : decode cX4_write 161 = .ok (.iconst 2, 1) := by decide +kernel
theorem dX4_write_162 : decode cX4_write 162 = .ok (.ireturn, 1) := by decide +kernel
theorem dX4_addEntry_0 : decode cX4_addEntry 0 = .ok (.aload_n 0, 1) := by decide +kernel
theorem dX4_addEntry_1 : decode cX4_addEntry 1 = .ok (.getfield 14, 3) := by decide +kernel
theorem dX4_addEntry_4 : decode cX4_addEntry 4 = .ok (.iload_n 1, 1) := by decide +kernel
theorem dX4_addEntry_5 : decode cX4_addEntry 5 = .ok (.invokevirtual 58, 3) := by decide +kernel
theorem dX4_addEntry_8 : decode cX4_addEntry 8 = .ok (.istore 4, 2) := by decide +kernel
theorem dX4_addEntry_10 : decode cX4_addEntry 10 = .ok (.iload 4, 2) := by decide +kernel
theorem dX4_addEntry_12 : decode cX4_addEntry 12 = .ok (.ifCond .lt 30, 3) := by decide +kernel
theorem dX4_addEntry_15 : decode cX4_addEntry 15 = .ok (.iload 4, 2) := by decide +kernel
theorem dX4_addEntry_17 : decode cX4_addEntry 17 = .ok (.aload_n 0, 1) := by decide +kernel
theorem dX4_addEntry_18 : decode cX4_addEntry 18 = .ok (.getfield 14, 3) := by decide +kernel
theorem dX4_addEntry_21 : decode cX4_addEntry 21 = .ok (.getfield 31, 3) := by decide +kernel
theorem dX4_addEntry_24 : decode cX4_addEntry 24 = .ok (.if_icmp .gt 18, 3) := by decide +kernel
theorem dX4_addEntry_27 : decode cX4_addEntry 27 = .ok (.aload_n 0, 1) := by decide +kernel
theorem dX4_addEntry_28 : decode cX4_addEntry 28 = .ok (.getfield 14, 3) := by decide +kernel
theorem dX4_addEntry_31 : decode cX4_addEntry 31 = .ok (.getfield 31, 3) := by decide +kernel
theorem dX4_addEntry_34 : decode cX4_addEntry 34 = .ok (.aload_n 0, 1) := by decide +kernel
theorem dX4_addEntry_35 : decode cX4_addEntry 35 = .ok (.getfield 20, 3) := by decide +kernel
theorem dX4_addEntry_38 : decode cX4_addEntry 38 = .ok (.arraylength, 1) := by decide +kernel
theorem dX4_addEntry_39 : decode cX4_addEntry 39 = .ok (.if_icmp .lt 4, 3) := by decide +kernel
theorem dX4_addEntry_42 : decode cX4_addEntry 42 = .ok (.return_, 1) := by decide +kernel
theorem dX4_addEntry_43 : decode cX4_addEntry 43 = .ok (.aload_n 0, 1) := by decide +kernel
theorem dX4_addEntry_44 : decode cX4_addEntry 44 = .ok (.getfield 14, 3) := by decide +kernel
theorem dX4_addEntry_47 : decode cX4_addEntry 47 = .ok (.getfield 31, 3) := by decide +kernel
theorem dX4_addEntry_50 : decode cX4_addEntry 50 = .ok (.istore 5, 2) := by decide +kernel
theorem dX4_addEntry_52 : decode cX4_addEntry 52 = .ok (.iload 5, 2) := by decide +kernel
theorem dX4_addEntry_54 : decode cX4_addEntry 54 = .ok (.iload 4, 2) := by decide +kernel
theorem dX4_addEntry_56 : decode cX4_addEntry 56 = .ok (.if_icmp .le 25, 3) := by decide +kernel
theorem dX4_addEntry_59 : decode cX4_addEntry 59 = .ok (.aload_n 0, 1) := by decide +kernel
theorem dX4_addEntry_60 : decode cX4_addEntry 60 = .ok (.getfield 20, 3) := by decide +kernel
theorem dX4_addEntry_63 : decode cX4_addEntry 63 = .ok (.iload 5, 2) := by decide +kernel
theorem dX4_addEntry_65 : decode cX4_addEntry 65 = .ok (.aload_n 0, 1) := by decide +kernel
theorem dX4_addEntry_66 : decode cX4_addEntry 66 = .ok (.getfield 20, 3) := by decide +kernel
theorem dX4_addEntry_69 : decode cX4_addEntry 69 = .ok (.iload 5, 2) := by decide +kernel
theorem dX4_addEntry_71 : decode cX4_addEntry 71 = .ok (.iconst 1, 1) := by decide +kernel
theorem dX4_addEntry_72 : decode cX4_addEntry 72 = .ok (.isub, 1) := by decide +kernel
theorem dX4_addEntry_73 : decode cX4_addEntry 73 = .ok (.iaload, 1) := by decide +kernel
theorem dX4_addEntry_74 : decode cX4_addEntry 74 = .ok (.iastore, 1) := by decide +kernel
theorem dX4_addEntry_75 : decode cX4_addEntry 75 = .ok (.iinc 5 (-1), 3) := by decide +kernel
theorem dX4_addEntry_78 : decode cX4_addEntry 78 = .ok (.goto (-26), 3) := by decide +kernel
theorem dX4_addEntry_81 : decode cX4_addEntry 81 = .ok (.aload_n 0, 1) := by decide +kernel
theorem dX4_addEntry_82 : decode cX4_addEntry 82 = .ok (.getfield 20, 3) := by decide +kernel
theorem dX4_addEntry_85 : decode cX4_addEntry 85 = .ok (.iload 4, 2) := by decide +kernel
theorem dX4_addEntry_87 : decode cX4_addEntry 87 = .ok (.iload_n 3, 1) := by decide +kernel
theorem dX4_addEntry_88 : decode cX4_addEntry 88 = .ok (.iastore, 1) := by decide +kernel
theorem dX4_addEntry_89 : decode cX4_addEntry 89 = .ok (.aload_n 0, 1) := by decide +kernel
theorem dX4_addEntry_90 : decode cX4_addEntry 90 = .ok (.getfield 14, 3) := by decide +kernel
theorem dX4_addEntry_93 : decode cX4_addEntry 93 = .ok (.iload 4, 2) := by decide +kernel
theorem dX4_addEntry_95 : decode cX4_addEntry 95 = .ok (.iload_n 1, 1) := by decide +kernel
theorem dX4_addEntry_96 : decode cX4_addEntry 96 = .ok (.iload_n 2, 1) := by decide +kernel
theorem dX4_addEntry_97 : decode cX4_addEntry 97 = .ok (.invokevirtual 95, 3) := by decide +kernel
theorem dX4_addEntry_100 : decode cX4_addEntry 100 = .ok (.return_, 1) := by decide +kernel
theorem dX4_takeOut_0 : decode cX4_takeOut 0 = .ok (.aload_n 0, 1) := by decide +kernel
theorem dX4_takeOut_1 : decode cX4_takeOut 1 = .ok (.getfield 14, 3) := by decide +kernel
theorem dX4_takeOut_4 : decode cX4_takeOut 4 = .ok (.iload_n 1, 1) := by decide +kernel
theorem dX4_takeOut_5 : decode cX4_takeOut 5 = .ok (.invokevirtual 74, 3) := by decide +kernel
theorem dX4_takeOut_8 : decode cX4_takeOut 8 = .ok (.istore_n 2, 1) := by decide +kernel
theorem dX4_takeOut_9 : decode cX4_takeOut 9 = .ok (.iload_n 2, 1) := by decide +kernel
theorem dX4_takeOut_10 : decode cX4_takeOut 10 = .ok (.ifCond .lt 12, 3) := by decide +kernel
theorem dX4_takeOut_13 : decode cX4_takeOut 13 = .ok (.iload_n 2, 1) := by decide +kernel
theorem dX4_takeOut_14 : decode cX4_takeOut 14 = .ok (.aload_n 0, 1) := by decide +kernel
theorem dX4_takeOut_15 : decode cX4_takeOut 15 = .ok (.getfield 20, 3) := by decide +kernel
theorem dX4_takeOut_18 : decode cX4_takeOut 18 = .ok (.arraylength, 1) := by decide +kernel
theorem dX4_takeOut_19 : decode cX4_takeOut 19 = .ok (.if_icmp .lt 5, 3) := by decide +kernel
theorem dX4_takeOut_22 : decode cX4_takeOut 22 = .ok (.iconst (-1), 1) := by decide +kernel
theorem dX4_takeOut_23 : decode cX4_takeOut 23 = .ok (.ireturn, 1) := by decide +kernel
theorem dX4_takeOut_24 : decode cX4_takeOut 24 = .ok (.aload_n 0, 1) := by decide +kernel
theorem dX4_takeOut_25 : decode cX4_takeOut 25 = .ok (.getfield 14, 3) := by decide +kernel
theorem dX4_takeOut_28 : decode cX4_takeOut 28 = .ok (.iload_n 2, 1) := by decide +kernel
theorem dX4_takeOut_29 : decode cX4_takeOut 29 = .ok (.invokevirtual 98, 3) := by decide +kernel
theorem dX4_takeOut_32 : decode cX4_takeOut 32 = .ok (.istore_n 3, 1) := by decide +kernel
theorem dX4_takeOut_33 : decode cX4_takeOut 33 = .ok (.aload_n 0, 1) := by decide +kernel
theorem dX4_takeOut_34 : decode cX4_takeOut 34 = .ok (.getfield 20, 3) := by decide +kernel
theorem dX4_takeOut_37 : decode cX4_takeOut 37 = .ok (.iload_n 2, 1) := by decide +kernel
theorem dX4_takeOut_38 : decode cX4_takeOut 38 = .ok (.iaload, 1) := by decide +kernel
theorem dX4_takeOut_39 : decode cX4_takeOut 39 = .ok (.ifCond .le 18, 3) := by decide +kernel
theorem dX4_takeOut_42 : decode cX4_takeOut 42 = .ok (.aload_n 0, 1) := by decide +kernel
theorem dX4_takeOut_43 : decode cX4_takeOut 43 = .ok (.aload_n 0, 1) := by decide +kernel
theorem dX4_takeOut_44 : decode cX4_takeOut 44 = .ok (.iload_n 1, 1) := by decide +kernel
theorem dX4_takeOut_45 : decode cX4_takeOut 45 = .ok (.invokevirtual 85, 3) := by decide +kernel
theorem dX4_takeOut_48 : decode cX4_takeOut 48 = .ok (.aload_n 0, 1) := by decide +kernel
theorem dX4_takeOut_49 : decode cX4_takeOut 49 = .ok (.getfield 20, 3) := by decide +kernel
theorem dX4_takeOut_52 : decode cX4_takeOut 52 = .ok (.iload_n 2, 1) := by decide +kernel
theorem dX4_takeOut_53 : decode cX4_takeOut 53 = .ok (.iaload, 1) := by decide +kernel
theorem dX4_takeOut_54 : decode cX4_takeOut 54 = .ok (.invokevirtual 101, 3) := by decide +kernel
theorem dX4_takeOut_57 : decode cX4_takeOut 57 = .ok (.iload_n 2, 1) := by decide +kernel
theorem dX4_takeOut_58 : decode cX4_takeOut 58 = .ok (.iconst 1, 1) := by decide +kernel
theorem dX4_takeOut_59 : decode cX4_takeOut 59 = .ok (.iadd, 1) := by decide +kernel
theorem dX4_takeOut_60 : decode cX4_takeOut 60 = .ok (.istore 4, 2) := by decide +kernel
theorem dX4_takeOut_62 : decode cX4_takeOut 62 = .ok (.iload 4, 2) := by decide +kernel
theorem dX4_takeOut_64 : decode cX4_takeOut 64 = .ok (.aload_n 0, 1) := by decide +kernel
theorem dX4_takeOut_65 : decode cX4_takeOut 65 = .ok (.getfield 14, 3) := by decide +kernel
theorem dX4_takeOut_68 : decode cX4_takeOut 68 = .ok (.getfield 31, 3) := by decide +kernel
theorem dX4_takeOut_71 : decode cX4_takeOut 71 = .ok (.if_icmp .ge 35, 3) := by decide +kernel
theorem dX4_takeOut_74 : decode cX4_takeOut 74 = .ok (.iload 4, 2) := by decide +kernel
theorem dX4_takeOut_76 : decode cX4_takeOut 76 = .ok (.aload_n 0, 1) := by decide +kernel
theorem dX4_takeOut_77 : decode cX4_takeOut 77 = .ok (.getfield 20, 3) := by decide +kernel
theorem dX4_takeOut_80 : decode cX4_takeOut 80 = .ok (.arraylength, 1) := by decide +kernel
theorem dX4_takeOut_81 : decode cX4_takeOut 81 = .ok (.if_icmp .ge 25, 3) := by decide +kernel
theorem dX4_takeOut_84 : decode cX4_takeOut 84 = .ok (.aload_n 0, 1) := by decide +kernel
theorem dX4_takeOut_85 : decode cX4_takeOut 85 = .ok (.getfield 20, 3) := by decide +kernel
theorem dX4_takeOut_88 : decode cX4_takeOut 88 = .ok (.iload 4, 2) := by decide +kernel
theorem dX4_takeOut_90 : decode cX4_takeOut 90 = .ok (.iconst 1, 1) := by decide +kernel
theorem dX4_takeOut_91 : decode cX4_takeOut 91 = .ok (.isub, 1) := by decide +kernel
theorem dX4_takeOut_92 : decode cX4_takeOut 92 = .ok (.aload_n 0, 1) := by decide +kernel
theorem dX4_takeOut_93 : decode cX4_takeOut 93 = .ok (.getfield 20, 3) := by decide +kernel
theorem dX4_takeOut_96 : decode cX4_takeOut 96 = .ok (.iload 4, 2) := by decide +kernel
theorem dX4_takeOut_98 : decode cX4_takeOut 98 = .ok (.iaload, 1) := by decide +kernel
theorem dX4_takeOut_99 : decode cX4_takeOut 99 = .ok (.iastore, 1) := by decide +kernel
theorem dX4_takeOut_100 : decode cX4_takeOut 100 = .ok (.iinc 4 1, 3) := by decide +kernel
theorem dX4_takeOut_103 : decode cX4_takeOut 103 = .ok (.goto (-41), 3) := by decide +kernel
theorem dX4_takeOut_106 : decode cX4_takeOut 106 = .ok (.aload_n 0, 1) := by decide +kernel
theorem dX4_takeOut_107 : decode cX4_takeOut 107 = .ok (.getfield 14, 3) := by decide +kernel
theorem dX4_takeOut_110 : decode cX4_takeOut 110 = .ok (.iload_n 2, 1) := by decide +kernel
theorem dX4_takeOut_111 : decode cX4_takeOut 111 = .ok (.invokevirtual 104, 3) := by decide +kernel
theorem dX4_takeOut_114 : decode cX4_takeOut 114 = .ok (.iload_n 3, 1) := by decide +kernel
theorem dX4_takeOut_115 : decode cX4_takeOut 115 = .ok (.ireturn, 1) := by decide +kernel
theorem dX4_moveUpBehind_0 : decode cX4_moveUpBehind 0 = .ok (.aload_n 0, 1) := by decide +kernel
theorem dX4_moveUpBehind_1 : decode cX4_moveUpBehind 1 = .ok (.getfield 14, 3) := by decide +kernel
theorem dX4_moveUpBehind_4 : decode cX4_moveUpBehind 4 = .ok (.aload_n 0, 1) := by decide +kernel
theorem dX4_moveUpBehind_5 : decode cX4_moveUpBehind 5 = .ok (.iload_n 1, 1) := by decide +kernel
theorem dX4_moveUpBehind_6 : decode cX4_moveUpBehind 6 = .ok (.iconst 1, 1) := by decide +kernel
theorem dX4_moveUpBehind_7 : decode cX4_moveUpBehind 7 = .ok (.iadd, 1) := by decide +kernel
theorem dX4_moveUpBehind_8 : decode cX4_moveUpBehind 8 = .ok (.invokevirtual 55, 3) := by decide +kernel
theorem dX4_moveUpBehind_11 : decode cX4_moveUpBehind 11 = .ok (.invokevirtual 58, 3) := by decide +kernel
theorem dX4_moveUpBehind_14 : decode cX4_moveUpBehind 14 = .ok (.istore_n 3, 1) := by decide +kernel
theorem dX4_moveUpBehind_15 : decode cX4_moveUpBehind 15 = .ok (.aload_n 0, 1) := by decide +kernel
theorem dX4_moveUpBehind_16 : decode cX4_moveUpBehind 16 = .ok (.getfield 14, 3) := by decide +kernel
theorem dX4_moveUpBehind_19 : decode cX4_moveUpBehind 19 = .ok (.aload_n 0, 1) := by decide +kernel
theorem dX4_moveUpBehind_20 : decode cX4_moveUpBehind 20 = .ok (.iload_n 1, 1) := by decide +kernel
theorem dX4_moveUpBehind_21 : decode cX4_moveUpBehind 21 = .ok (.invokevirtual 55, 3) := by decide +kernel
theorem dX4_moveUpBehind_24 : decode cX4_moveUpBehind 24 = .ok (.invokevirtual 58, 3) := by decide +kernel
theorem dX4_moveUpBehind_27 : decode cX4_moveUpBehind 27 = .ok (.istore 4, 2) := by decide +kernel
theorem dX4_moveUpBehind_29 : decode cX4_moveUpBehind 29 = .ok (.iload 4, 2) := by decide +kernel
theorem dX4_moveUpBehind_31 : decode cX4_moveUpBehind 31 = .ok (.iload_n 3, 1) := by decide +kernel
theorem dX4_moveUpBehind_32 : decode cX4_moveUpBehind 32 = .ok (.if_icmp .ge 46, 3) := by decide +kernel
theorem dX4_moveUpBehind_35 : decode cX4_moveUpBehind 35 = .ok (.iload 4, 2) := by decide +kernel
theorem dX4_moveUpBehind_37 : decode cX4_moveUpBehind 37 = .ok (.aload_n 0, 1) := by decide +kernel
theorem dX4_moveUpBehind_38 : decode cX4_moveUpBehind 38 = .ok (.getfield 20, 3) := by decide +kernel
theorem dX4_moveUpBehind_41 : decode cX4_moveUpBehind 41 = .ok (.arraylength, 1) := by decide +kernel
theorem dX4_moveUpBehind_42 : decode cX4_moveUpBehind 42 = .ok (.if_icmp .ge 36, 3) := by decide +kernel
theorem dX4_moveUpBehind_45 : decode cX4_moveUpBehind 45 = .ok (.iload 4, 2) := by decide +kernel
theorem dX4_moveUpBehind_47 : decode cX4_moveUpBehind 47 = .ok (.ifCond .lt 25, 3) := by decide +kernel
theorem dX4_moveUpBehind_50 : decode cX4_moveUpBehind 50 = .ok (.aload_n 0, 1) := by decide +kernel
theorem dX4_moveUpBehind_51 : decode cX4_moveUpBehind 51 = .ok (.getfield 20, 3) := by decide +kernel
theorem dX4_moveUpBehind_54 : decode cX4_moveUpBehind 54 = .ok (.iload 4, 2) := by decide +kernel
theorem dX4_moveUpBehind_56 : decode cX4_moveUpBehind 56 = .ok (.iaload, 1) := by decide +kernel
theorem dX4_moveUpBehind_57 : decode cX4_moveUpBehind 57 = .ok (.iload_n 2, 1) := by decide +kernel
theorem dX4_moveUpBehind_58 : decode cX4_moveUpBehind 58 = .ok (.if_icmp .le 14, 3) := by decide +kernel
theorem dX4_moveUpBehind_61 : decode cX4_moveUpBehind 61 = .ok (.aload_n 0, 1) := by decide +kernel
theorem dX4_moveUpBehind_62 : decode cX4_moveUpBehind 62 = .ok (.getfield 20, 3) := by decide +kernel
theorem dX4_moveUpBehind_65 : decode cX4_moveUpBehind 65 = .ok (.iload 4, 2) := by decide +kernel
theorem dX4_moveUpBehind_67 : decode cX4_moveUpBehind 67 = .ok (.dup2, 1) := by decide +kernel
theorem dX4_moveUpBehind_68 : decode cX4_moveUpBehind 68 = .ok (.iaload, 1) := by decide +kernel
theorem dX4_moveUpBehind_69 : decode cX4_moveUpBehind 69 = .ok (.iconst 1, 1) := by decide +kernel
theorem dX4_moveUpBehind_70 : decode cX4_moveUpBehind 70 = .ok (.isub, 1) := by decide +kernel
theorem dX4_moveUpBehind_71 : decode cX4_moveUpBehind 71 = .ok (.iastore, 1) := by decide +kernel
theorem dX4_moveUpBehind_72 : decode cX4_moveUpBehind 72 = .ok (.iinc 4 1, 3) := by decide +kernel
theorem dX4_moveUpBehind_75 : decode cX4_moveUpBehind 75 = .ok (.goto (-46), 3) := by decide +kernel
theorem dX4_moveUpBehind_78 : decode cX4_moveUpBehind 78 = .ok (.return_, 1) := by decide +kernel
theorem dX4_pagesRead_0 : decode cX4_pagesRead 0 = .ok (.aload_n 0, 1) := by decide +kernel
theorem dX4_pagesRead_1 : decode cX4_pagesRead 1 = .ok (.iload_n 1, 1) := by decide +kernel
theorem dX4_pagesRead_2 : decode cX4_pagesRead 2 = .ok (.invokevirtual 85, 3) := by decide +kernel
theorem dX4_pagesRead_5 : decode cX4_pagesRead 5 = .ok (.istore_n 2, 1) := by decide +kernel
theorem dX4_pagesRead_6 : decode cX4_pagesRead 6 = .ok (.iload_n 2, 1) := by decide +kernel
theorem dX4_pagesRead_7 : decode cX4_pagesRead 7 = .ok (.iconst (-1), 1) := by decide +kernel
theorem dX4_pagesRead_8 : decode cX4_pagesRead 8 = .ok (.if_icmp .ne 5, 3) := by decide +kernel
theorem dX4_pagesRead_11 : decode cX4_pagesRead 11 = .ok (.iconst 0, 1) := by decide +kernel
theorem dX4_pagesRead_12 : decode cX4_pagesRead 12 = .ok (.ireturn, 1) := by decide +kernel
theorem dX4_pagesRead_13 : decode cX4_pagesRead 13 = .ok (.aload_n 0, 1) := by decide +kernel
theorem dX4_pagesRead_14 : decode cX4_pagesRead 14 = .ok (.getfield 14, 3) := by decide +kernel
theorem dX4_pagesRead_17 : decode cX4_pagesRead 17 = .ok (.iload_n 1, 1) := by decide +kernel
theorem dX4_pagesRead_18 : decode cX4_pagesRead 18 = .ok (.invokevirtual 74, 3) := by decide +kernel
theorem dX4_pagesRead_21 : decode cX4_pagesRead 21 = .ok (.istore_n 3, 1) := by decide +kernel
theorem dX4_pagesRead_22 : decode cX4_pagesRead 22 = .ok (.iload_n 3, 1) := by decide +kernel
theorem dX4_pagesRead_23 : decode cX4_pagesRead 23 = .ok (.iconst (-1), 1) := by decide +kernel
theorem dX4_pagesRead_24 : decode cX4_pagesRead 24 = .ok (.if_icmp .ne 11, 3) := by decide +kernel
theorem dX4_pagesRead_27 : decode cX4_pagesRead 27 = .ok (.aload_n 0, 1) := by decide +kernel
theorem dX4_pagesRead_28 : decode cX4_pagesRead 28 = .ok (.iload_n 2, 1) := by decide +kernel
theorem dX4_pagesRead_29 : decode cX4_pagesRead 29 = .ok (.invokevirtual 64, 3) := by decide +kernel
theorem dX4_pagesRead_32 : decode cX4_pagesRead 32 = .ok (.goto 8, 3) := by decide +kernel
theorem dX4_pagesRead_35 : decode cX4_pagesRead 35 = .ok (.aload_n 0, 1) := by decide +kernel
theorem dX4_pagesRead_36 : decode cX4_pagesRead 36 = .ok (.iload_n 3, 1) := by decide +kernel
theorem dX4_pagesRead_37 : decode cX4_pagesRead 37 = .ok (.invokevirtual 61, 3) := by decide +kernel
theorem dX4_pagesRead_40 : decode cX4_pagesRead 40 = .ok (.istore 4, 2) := by decide +kernel
theorem dX4_pagesRead_42 : decode cX4_pagesRead 42 = .ok (.aload_n 0, 1) := by decide +kernel
theorem dX4_pagesRead_43 : decode cX4_pagesRead 43 = .ok (.invokevirtual 107, 3) := by decide +kernel
theorem dX4_pagesRead_46 : decode cX4_pagesRead 46 = .ok (.iconst 1, 1) := by decide +kernel
theorem dX4_pagesRead_47 : decode cX4_pagesRead 47 = .ok (.iadd, 1) := by decide +kernel
theorem dX4_pagesRead_48 : decode cX4_pagesRead 48 = .ok (.iload 4, 2) := by decide +kernel
theorem dX4_pagesRead_50 : decode cX4_pagesRead 50 = .ok (.aload_n 0, 1) := by decide +kernel
theorem dX4_pagesRead_51 : decode cX4_pagesRead 51 = .ok (.getfield 42, 3) := by decide +kernel
theorem dX4_pagesRead_54 : decode cX4_pagesRead 54 = .ok (.invokestatic 67, 3) := by decide +kernel
theorem dX4_pagesRead_57 : decode cX4_pagesRead 57 = .ok (.iadd, 1) := by decide +kernel
theorem dX4_pagesRead_58 : decode cX4_pagesRead 58 = .ok (.ireturn, 1) := by decide +kernel
theorem dX4_shareInOverflow_0 : decode cX4_shareInOverflow 0 = .ok (.iconst 0, 1) := by decide +kernel
theorem dX4_shareInOverflow_1 : decode cX4_shareInOverflow 1 = .ok (.istore_n 1, 1) := by decide +kernel
theorem dX4_shareInOverflow_2 : decode cX4_shareInOverflow 2 = .ok (.iconst 0, 1) := by decide +kernel
theorem dX4_shareInOverflow_3 : decode cX4_shareInOverflow 3 = .ok (.istore_n 2, 1) := by decide +kernel
theorem dX4_shareInOverflow_4 : decode cX4_shareInOverflow 4 = .ok (.iload_n 2, 1) := by decide +kernel
theorem dX4_shareInOverflow_5 : decode cX4_shareInOverflow 5 = .ok (.aload_n 0, 1) := by decide +kernel
theorem dX4_shareInOverflow_6 : decode cX4_shareInOverflow 6 = .ok (.getfield 14, 3) := by decide +kernel
theorem dX4_shareInOverflow_9 : decode cX4_shareInOverflow 9 = .ok (.getfield 31, 3) := by decide +kernel
theorem dX4_shareInOverflow_12 : decode cX4_shareInOverflow 12 = .ok (.if_icmp .ge 20, 3) := by decide +kernel
theorem dX4_shareInOverflow_15 : decode cX4_shareInOverflow 15 = .ok (.aload_n 0, 1) := by decide +kernel
theorem dX4_shareInOverflow_16 : decode cX4_shareInOverflow 16 = .ok (.iload_n 2, 1) := by decide +kernel
theorem dX4_shareInOverflow_17 : decode cX4_shareInOverflow 17 = .ok (.invokevirtual 61, 3) := by decide +kernel
theorem dX4_shareInOverflow_20 : decode cX4_shareInOverflow 20 = .ok (.ifCond .le 6, 3) := by decide +kernel
theorem dX4_shareInOverflow_23 : decode cX4_shareInOverflow 23 = .ok (.iinc 1 1, 3) := by decide +kernel
theorem dX4_shareInOverflow_26 : decode cX4_shareInOverflow 26 = .ok (.iinc 2 1, 3) := by decide +kernel
theorem dX4_shareInOverflow_29 : decode cX4_shareInOverflow 29 = .ok (.goto (-25), 3) := by decide +kernel
theorem dX4_shareInOverflow_32 : decode cX4_shareInOverflow 32 = .ok (.aload_n 0, 1) := by decide +kernel
theorem dX4_shareInOverflow_33 : decode cX4_shareInOverflow 33 = .ok (.getfield 14, 3) := by decide +kernel
theorem dX4_shareInOverflow_36 : decode cX4_shareInOverflow 36 = .ok (.getfield 31, 3) := by decide +kernel
theorem dX4_shareInOverflow_39 : decode cX4_shareInOverflow 39 = .ok (.ifCond .gt 7, 3) := by decide +kernel
theorem dX4_shareInOverflow_42 : decode cX4_shareInOverflow 42 = .ok (.dconst 0, 1) := by decide +kernel
theorem dX4_shareInOverflow_43 : decode cX4_shareInOverflow 43 = .ok (.goto 14, 3) := by decide +kernel
theorem dX4_shareInOverflow_46 : decode cX4_shareInOverflow 46 = .ok (.iload_n 1, 1) := by decide +kernel
theorem dX4_shareInOverflow_47 : decode cX4_shareInOverflow 47 = .ok (.i2d, 1) := by decide +kernel
theorem dX4_shareInOverflow_48 : decode cX4_shareInOverflow 48 = .ok (.aload_n 0, 1) := by decide +kernel
theorem dX4_shareInOverflow_49 : decode cX4_shareInOverflow 49 = .ok (.getfield 14, 3) := by decide +kernel
theorem dX4_shareInOverflow_52 : decode cX4_shareInOverflow 52 = .ok (.getfield 31, 3) := by decide +kernel
theorem dX4_shareInOverflow_55 : decode cX4_shareInOverflow 55 = .ok (.i2d, 1) := by decide +kernel
theorem dX4_shareInOverflow_56 : decode cX4_shareInOverflow 56 = .ok (.ddiv, 1) := by decide +kernel
theorem dX4_shareInOverflow_57 : decode cX4_shareInOverflow 57 = .ok (.dreturn, 1) := by decide +kernel
theorem dX4_levelCount_0 : decode cX4_levelCount 0 = .ok (.aload_n 0, 1) := by decide +kernel
theorem dX4_levelCount_1 : decode cX4_levelCount 1 = .ok (.getfield 39, 3) := by decide +kernel
theorem dX4_levelCount_4 : decode cX4_levelCount 4 = .ok (.aload_n 0, 1) := by decide +kernel
theorem dX4_levelCount_5 : decode cX4_levelCount 5 = .ok (.getfield 45, 3) := by decide +kernel
theorem dX4_levelCount_8 : decode cX4_levelCount 8 = .ok (.invokestatic 111, 3) := by decide +kernel
theorem dX4_levelCount_11 : decode cX4_levelCount 11 = .ok (.ireturn, 1) := by decide +kernel
theorem dX4_nodeCount_0 : decode cX4_nodeCount 0 = .ok (.aload_n 0, 1) := by decide +kernel
theorem dX4_nodeCount_1 : decode cX4_nodeCount 1 = .ok (.getfield 39, 3) := by decide +kernel
theorem dX4_nodeCount_4 : decode cX4_nodeCount 4 = .ok (.istore_n 2, 1) := by decide +kernel
theorem dX4_nodeCount_5 : decode cX4_nodeCount 5 = .ok (.iconst 0, 1) := by decide +kernel
theorem dX4_nodeCount_6 : decode cX4_nodeCount 6 = .ok (.istore_n 3, 1) := by decide +kernel
theorem dX4_nodeCount_7 : decode cX4_nodeCount 7 = .ok (.iload_n 3, 1) := by decide +kernel
theorem dX4_nodeCount_8 : decode cX4_nodeCount 8 = .ok (.iload_n 1, 1) := by decide +kernel
theorem dX4_nodeCount_9 : decode cX4_nodeCount 9 = .ok (.if_icmp .gt 24, 3) := by decide +kernel
theorem dX4_nodeCount_12 : decode cX4_nodeCount 12 = .ok (.iload_n 3, 1) := by decide +kernel
theorem dX4_nodeCount_13 : decode cX4_nodeCount 13 = .ok (.bipush 32, 2) := by decide +kernel
theorem dX4_nodeCount_15 : decode cX4_nodeCount 15 = .ok (.if_icmp .ge 18, 3) := by decide +kernel
theorem dX4_nodeCount_18 : decode cX4_nodeCount 18 = .ok (.iload_n 2, 1) := by decide +kernel
theorem dX4_nodeCount_19 : decode cX4_nodeCount 19 = .ok (.aload_n 0, 1) := by decide +kernel
theorem dX4_nodeCount_20 : decode cX4_nodeCount 20 = .ok (.getfield 45, 3) := by decide +kernel
theorem dX4_nodeCount_23 : decode cX4_nodeCount 23 = .ok (.invokestatic 67, 3) := by decide +kernel
theorem dX4_nodeCount_26 : decode cX4_nodeCount 26 = .ok (.istore_n 2, 1) := by decide +kernel
theorem dX4_nodeCount_27 : decode cX4_nodeCount 27 = .ok (.iinc 3 1, 3) := by decide +kernel
theorem dX4_nodeCount_30 : decode cX4_nodeCount 30 = .ok (.goto (-23), 3) := by decide +kernel
theorem dX4_nodeCount_33 : decode cX4_nodeCount 33 = .ok (.iload_n 2, 1) := by decide +kernel
theorem dX4_nodeCount_34 : decode cX4_nodeCount 34 = .ok (.ireturn, 1) := by decide +kernel
theorem dX4_childCount_0 : decode cX4_childCount 0 = .ok (.aload_n 0, 1) := by decide +kernel
theorem dX4_childCount_1 : decode cX4_childCount 1 = .ok (.getfield 45, 3) := by decide +kernel
theorem dX4_childCount_4 : decode cX4_childCount 4 = .ok (.aload_n 0, 1) := by decide +kernel
theorem dX4_childCount_5 : decode cX4_childCount 5 = .ok (.iload_n 1, 1) := by decide +kernel
theorem dX4_childCount_6 : decode cX4_childCount 6 = .ok (.iconst 1, 1) := by decide +kernel
theorem dX4_childCount_7 : decode cX4_childCount 7 = .ok (.isub, 1) := by decide +kernel
theorem dX4_childCount_8 : decode cX4_childCount 8 = .ok (.invokevirtual 114, 3) := by decide +kernel
theorem dX4_childCount_11 : decode cX4_childCount 11 = .ok (.iload_n 2, 1) := by decide +kernel
theorem dX4_childCount_12 : decode cX4_childCount 12 = .ok (.aload_n 0, 1) := by decide +kernel
theorem dX4_childCount_13 : decode cX4_childCount 13 = .ok (.getfield 45, 3) := by decide +kernel
theorem dX4_childCount_16 : decode cX4_childCount 16 = .ok (.imul, 1) := by decide +kernel
theorem dX4_childCount_17 : decode cX4_childCount 17 = .ok (.isub, 1) := by decide +kernel
theorem dX4_childCount_18 : decode cX4_childCount 18 = .ok (.invokestatic 117, 3) := by decide +kernel
theorem dX4_childCount_21 : decode cX4_childCount 21 = .ok (.ireturn, 1) := by decide +kernel
theorem dX4_nodeBound_0 : decode cX4_nodeBound 0 = .ok (.iload_n 2, 1) := by decide +kernel
theorem dX4_nodeBound_1 : decode cX4_nodeBound 1 = .ok (.istore_n 3, 1) := by decide +kernel
theorem dX4_nodeBound_2 : decode cX4_nodeBound 2 = .ok (.iconst 0, 1) := by decide +kernel
theorem dX4_nodeBound_3 : decode cX4_nodeBound 3 = .ok (.istore 4, 2) := by decide +kernel
theorem dX4_nodeBound_5 : decode cX4_nodeBound 5 = .ok (.iload 4, 2) := by decide +kernel
theorem dX4_nodeBound_7 : decode cX4_nodeBound 7 = .ok (.iload_n 1, 1) := by decide +kernel
theorem dX4_nodeBound_8 : decode cX4_nodeBound 8 = .ok (.if_icmp .gt 31, 3) := by decide +kernel
theorem dX4_nodeBound_11 : decode cX4_nodeBound 11 = .ok (.iload 4, 2) := by decide +kernel
theorem dX4_nodeBound_13 : decode cX4_nodeBound 13 = .ok (.bipush 32, 2) := by decide +kernel
theorem dX4_nodeBound_15 : decode cX4_nodeBound 15 = .ok (.if_icmp .ge 24, 3) := by decide +kernel
theorem dX4_nodeBound_18 : decode cX4_nodeBound 18 = .ok (.iload_n 3, 1) := by decide +kernel
theorem dX4_nodeBound_19 : decode cX4_nodeBound 19 = .ok (.aload_n 0, 1) := by decide +kernel
theorem dX4_nodeBound_20 : decode cX4_nodeBound 20 = .ok (.getfield 39, 3) := by decide +kernel
theorem dX4_nodeBound_23 : decode cX4_nodeBound 23 = .ok (.if_icmp .ge 16, 3) := by decide +kernel
theorem dX4_nodeBound_26 : decode cX4_nodeBound 26 = .ok (.iload_n 3, 1) := by decide +kernel
theorem dX4_nodeBound_27 : decode cX4_nodeBound 27 = .ok (.aload_n 0, 1) := by decide +kernel
theorem dX4_nodeBound_28 : decode cX4_nodeBound 28 = .ok (.getfield 45, 3) := by decide +kernel
theorem dX4_nodeBound_31 : decode cX4_nodeBound 31 = .ok (.imul, 1) := by decide +kernel
theorem dX4_nodeBound_32 : decode cX4_nodeBound 32 = .ok (.istore_n 3, 1) := by decide +kernel
theorem dX4_nodeBound_33 : decode cX4_nodeBound 33 = .ok (.iinc 4 1, 3) := by decide +kernel
theorem dX4_nodeBound_36 : decode cX4_nodeBound 36 = .ok (.goto (-31), 3) := by decide +kernel
theorem dX4_nodeBound_39 : decode cX4_nodeBound 39 = .ok (.aload_n 0, 1) := by decide +kernel
theorem dX4_nodeBound_40 : decode cX4_nodeBound 40 = .ok (.iload_n 3, 1) := by decide +kernel
theorem dX4_nodeBound_41 : decode cX4_nodeBound 41 = .ok (.invokevirtual 55, 3) := by decide +kernel
theorem dX4_nodeBound_44 : decode cX4_nodeBound 44 = .ok (.ireturn, 1) := by decide +kernel
theorem dX4_roundedUp_0 : decode cX4_roundedUp 0 = .ok (.iload_n 1, 1) := by decide +kernel
theorem dX4_roundedUp_1 : decode cX4_roundedUp 1 = .ok (.iconst 1, 1) := by decide +kernel
theorem dX4_roundedUp_2 : decode cX4_roundedUp 2 = .ok (.if_icmp .ge 7, 3) := by decide +kernel
theorem dX4_roundedUp_5 : decode cX4_roundedUp 5 = .ok (.iconst 0, 1) := by decide +kernel
theorem dX4_roundedUp_6 : decode cX4_roundedUp 6 = .ok (.goto 10, 3) := by decide +kernel
theorem dX4_roundedUp_9 : decode cX4_roundedUp 9 = .ok (.iload_n 0, 1) := by decide +kernel
theorem dX4_roundedUp_10 : decode cX4_roundedUp 10 = .ok (.iload_n 1, 1) := by decide +kernel
theorem dX4_roundedUp_11 : decode cX4_roundedUp 11 = .ok (.iadd, 1) := by decide +kernel
theorem dX4_roundedUp_12 : decode cX4_roundedUp 12 = .ok (.iconst 1, 1) := by decide +kernel
theorem dX4_roundedUp_13 : decode cX4_roundedUp 13 = .ok (.isub, 1) := by decide +kernel
theorem dX4_roundedUp_14 : decode cX4_roundedUp 14 = .ok (.iload_n 1, 1) := by decide +kernel
theorem dX4_roundedUp_15 : decode cX4_roundedUp 15 = .ok (.idiv, 1) := by decide +kernel
theorem dX4_roundedUp_16 : decode cX4_roundedUp 16 = .ok (.ireturn, 1) := by decide +kernel
theorem dX4_levelsAbove_0 : decode cX4_levelsAbove 0 = .ok (.iload_n 1, 1) := by decide +kernel
theorem dX4_levelsAbove_1 : decode cX4_levelsAbove 1 = .ok (.iconst 2, 1) := by decide +kernel
theorem dX4_levelsAbove_2 : decode cX4_levelsAbove 2 = .ok (.if_icmp .ge 5, 3) := by decide +kernel
theorem dX4_levelsAbove_5 : decode cX4_levelsAbove 5 = .ok (.iconst 0, 1) := by decide +kernel
theorem dX4_levelsAbove_6 : decode cX4_levelsAbove 6 = .ok (.ireturn, 1) := by decide +kernel
theorem dX4_levelsAbove_7 : decode cX4_levelsAbove 7 = .ok (.iload_n 0, 1) := by decide +kernel
theorem dX4_levelsAbove_8 : decode cX4_levelsAbove 8 = .ok (.istore_n 2, 1) := by decide +kernel
theorem dX4_levelsAbove_9 : decode cX4_levelsAbove 9 = .ok (.iconst 0, 1) := by decide +kernel
theorem dX4_levelsAbove_10 : decode cX4_levelsAbove 10 = .ok (.istore_n 3, 1) := by decide +kernel
theorem dX4_levelsAbove_11 : decode cX4_levelsAbove 11 = .ok (.iconst 0, 1) := by decide +kernel
theorem dX4_levelsAbove_12 : decode cX4_levelsAbove 12 = .ok (.istore 4, 2) := by decide +kernel
theorem dX4_levelsAbove_14 : decode cX4_levelsAbove 14 = .ok (.iload 4, 2) := by decide +kernel
theorem dX4_levelsAbove_16 : decode cX4_levelsAbove 16 = .ok (.bipush 32, 2) := by decide +kernel
theorem dX4_levelsAbove_18 : decode cX4_levelsAbove 18 = .ok (.if_icmp .ge 25, 3) := by decide +kernel
theorem dX4_levelsAbove_21 : decode cX4_levelsAbove 21 = .ok (.iload_n 2, 1) := by decide +kernel
theorem dX4_levelsAbove_22 : decode cX4_levelsAbove 22 = .ok (.iconst 1, 1) := by decide +kernel
theorem dX4_levelsAbove_23 : decode cX4_levelsAbove 23 = .ok (.if_icmp .le 20, 3) := by decide +kernel
theorem dX4_levelsAbove_26 : decode cX4_levelsAbove 26 = .ok (.iload_n 2, 1) := by decide +kernel
theorem dX4_levelsAbove_27 : decode cX4_levelsAbove 27 = .ok (.iload_n 1, 1) := by decide +kernel
theorem dX4_levelsAbove_28 : decode cX4_levelsAbove 28 = .ok (.iadd, 1) := by decide +kernel
theorem dX4_levelsAbove_29 : decode cX4_levelsAbove 29 = .ok (.iconst 1, 1) := by decide +kernel
theorem dX4_levelsAbove_30 : decode cX4_levelsAbove 30 = .ok (.isub, 1) := by decide +kernel
theorem dX4_levelsAbove_31 : decode cX4_levelsAbove 31 = .ok (.iload_n 1, 1) := by decide +kernel
theorem dX4_levelsAbove_32 : decode cX4_levelsAbove 32 = .ok (.idiv, 1) := by decide +kernel
theorem dX4_levelsAbove_33 : decode cX4_levelsAbove 33 = .ok (.istore_n 2, 1) := by decide +kernel
theorem dX4_levelsAbove_34 : decode cX4_levelsAbove 34 = .ok (.iinc 3 1, 3) := by decide +kernel
theorem dX4_levelsAbove_37 : decode cX4_levelsAbove 37 = .ok (.iinc 4 1, 3) := by decide +kernel
theorem dX4_levelsAbove_40 : decode cX4_levelsAbove 40 = .ok (.goto (-26), 3) := by decide +kernel
theorem dX4_levelsAbove_43 : decode cX4_levelsAbove 43 = .ok (.iload_n 3, 1) := by decide +kernel
theorem dX4_levelsAbove_44 : decode cX4_levelsAbove 44 = .ok (.ireturn, 1) := by decide +kernel
theorem dX5_init_0 : decode cX5_init 0 = .ok (.aload_n 0, 1) := by decide +kernel
theorem dX5_init_1 : decode cX5_init 1 = .ok (.invokespecial 3, 3) := by decide +kernel
theorem dX5_init_4 : decode cX5_init 4 = .ok (.aload_n 0, 1) := by decide +kernel
theorem dX5_init_5 : decode cX5_init 5 = .ok (.new 9, 3) := by decide +kernel
theorem dX5_init_8 : decode cX5_init 8 = .ok (.dup, 1) := by decide +kernel
theorem dX5_init_9 : decode cX5_init 9 = .ok (.invokespecial 11, 3) := by decide +kernel
theorem dX5_init_12 : decode cX5_init 12 = .ok (.putfield 12, 3) := by decide +kernel
theorem dX5_init_15 : decode cX5_init 15 = .ok (.aload_n 0, 1) := by decide +kernel
theorem dX5_init_16 : decode cX5_init 16 = .ok (.new 9, 3) := by decide +kernel
theorem dX5_init_19 : decode cX5_init 19 = .ok (.dup, 1) := by decide +kernel
theorem dX5_init_20 : decode cX5_init 20 = .ok (.invokespecial 11, 3) := by decide +kernel
theorem dX5_init_23 : decode cX5_init 23 = .ok (.putfield 16, 3) := by decide +kernel
theorem dX5_init_26 : decode cX5_init 26 = .ok (.aload_n 0, 1) := by decide +kernel
theorem dX5_init_27 : decode cX5_init 27 = .ok (.bipush 6, 2) := by decide +kernel
theorem dX5_init_29 : decode cX5_init 29 = .ok (.anewarray 9, 3) := by decide +kernel
theorem dX5_init_32 : decode cX5_init 32 = .ok (.putfield 19, 3) := by decide +kernel
theorem dX5_init_35 : decode cX5_init 35 = .ok (.aload_n 0, 1) := by decide +kernel
theorem dX5_init_36 : decode cX5_init 36 = .ok (.iconst 2, 1) := by decide +kernel
theorem dX5_init_37 : decode cX5_init 37 = .ok (.anewarray 9, 3) := by decide +kernel
theorem dX5_init_40 : decode cX5_init 40 = .ok (.putfield 23, 3) := by decide +kernel
theorem dX5_init_43 : decode cX5_init 43 = .ok (.aload_n 0, 1) := by decide +kernel
theorem dX5_init_44 : decode cX5_init 44 = .ok (.bipush 60, 2) := by decide +kernel
theorem dX5_init_46 : decode cX5_init 46 = .ok (.newarray .int, 2) := by decide +kernel
theorem dX5_init_48 : decode cX5_init 48 = .ok (.putfield 26, 3) := by decide +kernel
theorem dX5_init_51 : decode cX5_init 51 = .ok (.aload_n 0, 1) := by decide +kernel
theorem dX5_init_52 : decode cX5_init 52 = .ok (.new 30, 3) := by decide +kernel
theorem dX5_init_55 : decode cX5_init 55 = .ok (.dup, 1) := by decide +kernel
theorem dX5_init_56 : decode cX5_init 56 = .ok (.invokespecial 32, 3) := by decide +kernel
theorem dX5_init_59 : decode cX5_init 59 = .ok (.putfield 33, 3) := by decide +kernel
theorem dX5_init_62 : decode cX5_init 62 = .ok (.aload_n 0, 1) := by decide +kernel
theorem dX5_init_63 : decode cX5_init 63 = .ok (.new 37, 3) := by decide +kernel
theorem dX5_init_66 : decode cX5_init 66 = .ok (.dup, 1) := by decide +kernel
theorem dX5_init_67 : decode cX5_init 67 = .ok (.invokespecial 39, 3) := by decide +kernel
theorem dX5_init_70 : decode cX5_init 70 = .ok (.putfield 40, 3) := by decide +kernel
theorem dX5_init_73 : decode cX5_init 73 = .ok (.return_, 1) := by decide +kernel
theorem dX5_put_0 : decode cX5_put 0 = .ok (.iload_n 1, 1) := by decide +kernel
theorem dX5_put_1 : decode cX5_put 1 = .ok (.invokestatic 44, 3) := by decide +kernel
theorem dX5_put_4 : decode cX5_put 4 = .ok (.iload_n 2, 1) := by decide +kernel
theorem dX5_put_5 : decode cX5_put 5 = .ok (.invokestatic 48, 3) := by decide +kernel
theorem dX5_put_8 : decode cX5_put 8 = .ok (.aload_n 0, 1) := by decide +kernel
theorem dX5_put_9 : decode cX5_put 9 = .ok (.getfield 16, 3) := by decide +kernel
theorem dX5_put_12 : decode cX5_put 12 = .ok (.aload_n 0, 1) := by decide +kernel
theorem dX5_put_13 : decode cX5_put 13 = .ok (.getfield 12, 3) := by decide +kernel
theorem dX5_put_16 : decode cX5_put 16 = .ok (.invokevirtual 51, 3) := by decide +kernel
theorem dX5_put_19 : decode cX5_put 19 = .ok (.aload_n 0, 1) := by decide +kernel
theorem dX5_put_20 : decode cX5_put 20 = .ok (.aload_n 0, 1) := by decide +kernel
theorem dX5_put_21 : decode cX5_put 21 = .ok (.getfield 12, 3) := by decide +kernel
theorem dX5_put_24 : decode cX5_put 24 = .ok (.iload_n 1, 1) := by decide +kernel
theorem dX5_put_25 : decode cX5_put 25 = .ok (.iload_n 2, 1) := by decide +kernel
theorem dX5_put_26 : decode cX5_put 26 = .ok (.invokevirtual 55, 3) := by decide +kernel
theorem dX5_put_29 : decode cX5_put 29 = .ok (.invokevirtual 59, 3) := by decide +kernel
theorem dX5_put_32 : decode cX5_put 32 = .ok (.ireturn, 1) := by decide +kernel
theorem dX5_drop_0 : decode cX5_drop 0 = .ok (.iload_n 1, 1) := by decide +kernel
theorem dX5_drop_1 : decode cX5_drop 1 = .ok (.invokestatic 44, 3) := by decide +kernel
theorem dX5_drop_4 : decode cX5_drop 4 = .ok (.aload_n 0, 1) := by decide +kernel
theorem dX5_drop_5 : decode cX5_drop 5 = .ok (.getfield 16, 3) := by decide +kernel
theorem dX5_drop_8 : decode cX5_drop 8 = .ok (.aload_n 0, 1) := by decide +kernel
theorem dX5_drop_9 : decode cX5_drop 9 = .ok (.getfield 12, 3) := by decide +kernel
theorem dX5_drop_12 : decode cX5_drop 12 = .ok (.invokevirtual 51, 3) := by decide +kernel
theorem dX5_drop_15 : decode cX5_drop 15 = .ok (.aload_n 0, 1) := by decide +kernel
theorem dX5_drop_16 : decode cX5_drop 16 = .ok (.aload_n 0, 1) := by decide +kernel
theorem dX5_drop_17 : decode cX5_drop 17 = .ok (.getfield 12, 3) := by decide +kernel
theorem dX5_drop_20 : decode cX5_drop 20 = .ok (.iload_n 1, 1) := by decide +kernel
theorem dX5_drop_21 : decode cX5_drop 21 = .ok (.iconst (-1), 1) := by decide +kernel
theorem dX5_drop_22 : decode cX5_drop 22 = .ok (.invokevirtual 55, 3) := by decide +kernel
theorem dX5_drop_25 : decode cX5_drop 25 = .ok (.invokevirtual 59, 3) := by decide +kernel
theorem dX5_drop_28 : decode cX5_drop 28 = .ok (.ireturn, 1) := by decide +kernel
theorem dX5_closeRun_0 : decode cX5_closeRun 0 = .ok (.aload_n 0, 1) := by decide +kernel
theorem dX5_closeRun_1 : decode cX5_closeRun 1 = .ok (.getfield 16, 3) := by decide +kernel
theorem dX5_closeRun_4 : decode cX5_closeRun 4 = .ok (.aload_n 0, 1) := by decide +kernel
theorem dX5_closeRun_5 : decode cX5_closeRun 5 = .ok (.getfield 12, 3) := by decide +kernel
theorem dX5_closeRun_8 : decode cX5_closeRun 8 = .ok (.invokevirtual 51, 3) := by decide +kernel
theorem dX5_closeRun_11 : decode cX5_closeRun 11 = .ok (.aload_n 0, 1) := by decide +kernel
theorem dX5_closeRun_12 : decode cX5_closeRun 12 = .ok (.aload_n 0, 1) := by decide +kernel
theorem dX5_closeRun_13 : decode cX5_closeRun 13 = .ok (.getfield 12, 3) := by decide +kernel
theorem dX5_closeRun_16 : decode cX5_closeRun 16 = .ok (.invokevirtual 63, 3) := by decide +kernel
theorem dX5_closeRun_19 : decode cX5_closeRun 19 = .ok (.invokevirtual 59, 3) := by decide +kernel
theorem dX5_closeRun_22 : decode cX5_closeRun 22 = .ok (.ireturn, 1) := by decide +kernel
theorem dX5_mergeRuns_0 : decode cX5_mergeRuns 0 = .ok (.aload_n 0, 1) := by decide +kernel
theorem dX5_mergeRuns_1 : decode cX5_mergeRuns 1 = .ok (.getfield 16, 3) := by decide +kernel
theorem dX5_mergeRuns_4 : decode cX5_mergeRuns 4 = .ok (.aload_n 0, 1) := by decide +kernel
theorem dX5_mergeRuns_5 : decode cX5_mergeRuns 5 = .ok (.getfield 12, 3) := by decide +kernel
theorem dX5_mergeRuns_8 : decode cX5_mergeRuns 8 = .ok (.invokevirtual 51, 3) := by decide +kernel
theorem dX5_mergeRuns_11 : decode cX5_mergeRuns 11 = .ok (.aload_n 0, 1) := by decide +kernel
theorem dX5_mergeRuns_12 : decode cX5_mergeRuns 12 = .ok (.aload_n 0, 1) := by decide +kernel
theorem dX5_mergeRuns_13 : decode cX5_mergeRuns 13 = .ok (.getfield 12, 3) := by decide +kernel
theorem dX5_mergeRuns_16 : decode cX5_mergeRuns 16 = .ok (.aload_n 0, 1) := by decide +kernel
theorem dX5_mergeRuns_17 : decode cX5_mergeRuns 17 = .ok (.getfield 40, 3) := by decide +kernel
theorem dX5_mergeRuns_20 : decode cX5_mergeRuns 20 = .ok (.invokevirtual 67, 3) := by decide +kernel
theorem dX5_mergeRuns_23 : decode cX5_mergeRuns 23 = .ok (.invokevirtual 59, 3) := by decide +kernel
theorem dX5_mergeRuns_26 : decode cX5_mergeRuns 26 = .ok (.ireturn, 1) := by decide +kernel
theorem dX5_build_0 : decode cX5_build 0 = .ok (.iload_n 1, 1) := by decide +kernel
theorem dX5_build_1 : decode cX5_build 1 = .ok (.invokestatic 71, 3) := by decide +kernel
theorem dX5_build_4 : decode cX5_build 4 = .ok (.aload_n 0, 1) := by decide +kernel
theorem dX5_build_5 : decode cX5_build 5 = .ok (.getfield 16, 3) := by decide +kernel
theorem dX5_build_8 : decode cX5_build 8 = .ok (.aload_n 0, 1) := by decide +kernel
theorem dX5_build_9 : decode cX5_build 9 = .ok (.getfield 12, 3) := by decide +kernel
theorem dX5_build_12 : decode cX5_build 12 = .ok (.invokevirtual 51, 3) := by decide +kernel
theorem dX5_build_15 : decode cX5_build 15 = .ok (.aload_n 0, 1) := by decide +kernel
theorem dX5_build_16 : decode cX5_build 16 = .ok (.aload_n 0, 1) := by decide +kernel
theorem dX5_build_17 : decode cX5_build 17 = .ok (.getfield 12, 3) := by decide +kernel
theorem dX5_build_20 : decode cX5_build 20 = .ok (.iload_n 1, 1) := by decide +kernel
theorem dX5_build_21 : decode cX5_build 21 = .ok (.aload_n 0, 1) := by decide +kernel
theorem dX5_build_22 : decode cX5_build 22 = .ok (.getfield 40, 3) := by decide +kernel
theorem dX5_build_25 : decode cX5_build 25 = .ok (.invokevirtual 74, 3) := by decide +kernel
theorem dX5_build_28 : decode cX5_build 28 = .ok (.invokevirtual 59, 3) := by decide +kernel
theorem dX5_build_31 : decode cX5_build 31 = .ok (.ireturn, 1) := by decide +kernel
theorem dX5_insert_0 : decode cX5_insert 0 = .ok (.iload_n 1, 1) := by decide +kernel
theorem dX5_insert_1 : decode cX5_insert 1 = .ok (.invokestatic 44, 3) := by decide +kernel
theorem dX5_insert_4 : decode cX5_insert 4 = .ok (.iload_n 2, 1) := by decide +kernel
theorem dX5_insert_5 : decode cX5_insert 5 = .ok (.invokestatic 48, 3) := by decide +kernel
theorem dX5_insert_8 : decode cX5_insert 8 = .ok (.aload_n 0, 1) := by decide +kernel
theorem dX5_insert_9 : decode cX5_insert 9 = .ok (.getfield 16, 3) := by decide +kernel
theorem dX5_insert_12 : decode cX5_insert 12 = .ok (.aload_n 0, 1) := by decide +kernel
theorem dX5_insert_13 : decode cX5_insert 13 = .ok (.getfield 12, 3) := by decide +kernel
theorem dX5_insert_16 : decode cX5_insert 16 = .ok (.invokevirtual 51, 3) := by decide +kernel
theorem dX5_insert_19 : decode cX5_insert 19 = .ok (.aload_n 0, 1) := by decide +kernel
theorem dX5_insert_20 : decode cX5_insert 20 = .ok (.aload_n 0, 1) := by decide +kernel
theorem dX5_insert_21 : decode cX5_insert 21 = .ok (.getfield 12, 3) := by decide +kernel
theorem dX5_insert_24 : decode cX5_insert 24 = .ok (.iload_n 1, 1) := by decide +kernel
theorem dX5_insert_25 : decode cX5_insert 25 = .ok (.iload_n 2, 1) := by decide +kernel
theorem dX5_insert_26 : decode cX5_insert 26 = .ok (.invokevirtual 78, 3) := by decide +kernel
theorem dX5_insert_29 : decode cX5_insert 29 = .ok (.invokevirtual 59, 3) := by decide +kernel
theorem dX5_insert_32 : decode cX5_insert 32 = .ok (.ireturn, 1) := by decide +kernel
theorem dX5_erase_0 : decode cX5_erase 0 = .ok (.iload_n 1, 1) := by decide +kernel
theorem dX5_erase_1 : decode cX5_erase 1 = .ok (.invokestatic 44, 3) := by decide +kernel
theorem dX5_erase_4 : decode cX5_erase 4 = .ok (.aload_n 0, 1) := by decide +kernel
theorem dX5_erase_5 : decode cX5_erase 5 = .ok (.getfield 16, 3) := by decide +kernel
theorem dX5_erase_8 : decode cX5_erase 8 = .ok (.aload_n 0, 1) := by decide +kernel
theorem dX5_erase_9 : decode cX5_erase 9 = .ok (.getfield 12, 3) := by decide +kernel
theorem dX5_erase_12 : decode cX5_erase 12 = .ok (.invokevirtual 51, 3) := by decide +kernel
theorem dX5_erase_15 : decode cX5_erase 15 = .ok (.aload_n 0, 1) := by decide +kernel
theorem dX5_erase_16 : decode cX5_erase 16 = .ok (.aload_n 0, 1) := by decide +kernel
theorem dX5_erase_17 : decode cX5_erase 17 = .ok (.getfield 12, 3) := by decide +kernel
theorem dX5_erase_20 : decode cX5_erase 20 = .ok (.iload_n 1, 1) := by decide +kernel
theorem dX5_erase_21 : decode cX5_erase 21 = .ok (.invokevirtual 81, 3) := by decide +kernel
theorem dX5_erase_24 : decode cX5_erase 24 = .ok (.invokevirtual 59, 3) := by decide +kernel
theorem dX5_erase_27 : decode cX5_erase 27 = .ok (.ireturn, 1) := by decide +kernel
theorem dX5_changeLeaf_0 : decode cX5_changeLeaf 0 = .ok (.iload_n 1, 1) := by decide +kernel
theorem dX5_changeLeaf_1 : decode cX5_changeLeaf 1 = .ok (.iconst 2, 1) := by decide +kernel
theorem dX5_changeLeaf_2 : decode cX5_changeLeaf 2 = .ok (.if_icmp .lt 9, 3) := by decide +kernel
theorem dX5_changeLeaf_5 : decode cX5_changeLeaf 5 = .ok (.iload_n 1, 1) := by decide +kernel
theorem dX5_changeLeaf_6 : decode cX5_changeLeaf 6 = .ok (.bipush 8, 2) := by decide +kernel
theorem dX5_changeLeaf_8 : decode cX5_changeLeaf 8 = .ok (.if_icmp .le 13, 3) := by decide +kernel
theorem dX5_changeLeaf_11 : decode cX5_changeLeaf 11 = .ok (.new 84, 3) := by decide +kernel
theorem dX5_changeLeaf_14 : decode cX5_changeLeaf 14 = .ok (.dup, 1) := by decide +kernel
theorem dX5_changeLeaf_15 : decode cX5_changeLeaf 15 = .ok (.ldc 86, 2) := by decide +kernel
theorem dX5_changeLeaf_17 : decode cX5_changeLeaf 17 = .ok (.invokespecial 88, 3) := by decide +kernel
theorem dX5_changeLeaf_20 : decode cX5_changeLeaf 20 = .ok (.athrow, 1) := by decide +kernel
theorem dX5_changeLeaf_21 : decode cX5_changeLeaf 21 = .ok (.aload_n 0, 1) := by decide +kernel
theorem dX5_changeLeaf_22 : decode cX5_changeLeaf 22 = .ok (.getfield 16, 3) := by decide +kernel
theorem dX5_changeLeaf_25 : decode cX5_changeLeaf 25 = .ok (.aload_n 0, 1) := by decide +kernel
theorem dX5_changeLeaf_26 : decode cX5_changeLeaf 26 = .ok (.getfield 12, 3) := by decide +kernel
theorem dX5_changeLeaf_29 : decode cX5_changeLeaf 29 = .ok (.invokevirtual 51, 3) := by decide +kernel
theorem dX5_changeLeaf_32 : decode cX5_changeLeaf 32 = .ok (.aload_n 0, 1) := by decide +kernel
theorem dX5_changeLeaf_33 : decode cX5_changeLeaf 33 = .ok (.getfield 12, 3) := by decide +kernel
theorem dX5_changeLeaf_36 : decode cX5_changeLeaf 36 = .ok (.getfield 91, 3) := by decide +kernel
theorem dX5_changeLeaf_39 : decode cX5_changeLeaf 39 = .ok (.istore_n 2, 1) := by decide +kernel
theorem dX5_changeLeaf_40 : decode cX5_changeLeaf 40 = .ok (.aload_n 0, 1) := by decide +kernel
theorem dX5_changeLeaf_41 : decode cX5_changeLeaf 41 = .ok (.getfield 12, 3) := by decide +kernel
theorem dX5_changeLeaf_44 : decode cX5_changeLeaf 44 = .ok (.iload_n 1, 1) := by decide +kernel
theorem dX5_changeLeaf_45 : decode cX5_changeLeaf 45 = .ok (.putfield 91, 3) := by decide +kernel
theorem dX5_changeLeaf_48 : decode cX5_changeLeaf 48 = .ok (.aload_n 0, 1) := by decide +kernel
theorem dX5_changeLeaf_49 : decode cX5_changeLeaf 49 = .ok (.invokevirtual 95, 3) := by decide +kernel
theorem dX5_changeLeaf_52 : decode cX5_changeLeaf 52 = .ok (.iload_n 2, 1) := by decide +kernel
theorem dX5_changeLeaf_53 : decode cX5_changeLeaf 53 = .ok (.ireturn, 1) := by decide +kernel
theorem dX5_changeFan_0 : decode cX5_changeFan 0 = .ok (.iload_n 1, 1) := by decide +kernel
theorem dX5_changeFan_1 : decode cX5_changeFan 1 = .ok (.iconst 2, 1) := by decide +kernel
theorem dX5_changeFan_2 : decode cX5_changeFan 2 = .ok (.if_icmp .lt 9, 3) := by decide +kernel
theorem dX5_changeFan_5 : decode cX5_changeFan 5 = .ok (.iload_n 1, 1) := by decide +kernel
theorem dX5_changeFan_6 : decode cX5_changeFan 6 = .ok (.bipush 6, 2) := by decide +kernel
theorem dX5_changeFan_8 : decode cX5_changeFan 8 = .ok (.if_icmp .le 13, 3) := by decide +kernel
theorem dX5_changeFan_11 : decode cX5_changeFan 11 = .ok (.new 84, 3) := by decide +kernel
theorem dX5_changeFan_14 : decode cX5_changeFan 14 = .ok (.dup, 1) := by decide +kernel
theorem dX5_changeFan_15 : decode cX5_changeFan 15 = .ok (.ldc 98, 2) := by decide +kernel
theorem dX5_changeFan_17 : decode cX5_changeFan 17 = .ok (.invokespecial 88, 3) := by decide +kernel
theorem dX5_changeFan_20 : decode cX5_changeFan 20 = .ok (.athrow, 1) := by decide +kernel
theorem dX5_changeFan_21 : decode cX5_changeFan 21 = .ok (.aload_n 0, 1) := by decide +kernel
theorem dX5_changeFan_22 : decode cX5_changeFan 22 = .ok (.getfield 16, 3) := by decide +kernel
theorem dX5_changeFan_25 : decode cX5_changeFan 25 = .ok (.aload_n 0, 1) := by decide +kernel
theorem dX5_changeFan_26 : decode cX5_changeFan 26 = .ok (.getfield 12, 3) := by decide +kernel
theorem dX5_changeFan_29 : decode cX5_changeFan 29 = .ok (.invokevirtual 51, 3) := by decide +kernel
theorem dX5_changeFan_32 : decode cX5_changeFan 32 = .ok (.aload_n 0, 1) := by decide +kernel
theorem dX5_changeFan_33 : decode cX5_changeFan 33 = .ok (.getfield 12, 3) := by decide +kernel
theorem dX5_changeFan_36 : decode cX5_changeFan 36 = .ok (.getfield 100, 3) := by decide +kernel
theorem dX5_changeFan_39 : decode cX5_changeFan 39 = .ok (.istore_n 2, 1) := by decide +kernel
theorem dX5_changeFan_40 : decode cX5_changeFan 40 = .ok (.aload_n 0, 1) := by decide +kernel
theorem dX5_changeFan_41 : decode cX5_changeFan 41 = .ok (.getfield 12, 3) := by decide +kernel
theorem dX5_changeFan_44 : decode cX5_changeFan 44 = .ok (.iload_n 1, 1) := by decide +kernel
theorem dX5_changeFan_45 : decode cX5_changeFan 45 = .ok (.putfield 100, 3) := by decide +kernel
theorem dX5_changeFan_48 : decode cX5_changeFan 48 = .ok (.aload_n 0, 1) := by decide +kernel
theorem dX5_changeFan_49 : decode cX5_changeFan 49 = .ok (.invokevirtual 95, 3) := by decide +kernel
theorem dX5_changeFan_52 : decode cX5_changeFan 52 = .ok (.iload_n 2, 1) := by decide +kernel
theorem dX5_changeFan_53 : decode cX5_changeFan 53 = .ok (.ireturn, 1) := by decide +kernel
theorem dX5_append_0 : decode cX5_append 0 = .ok (.iload_n 1, 1) := by decide +kernel
theorem dX5_append_1 : decode cX5_append 1 = .ok (.bipush 33, 2) := by decide +kernel
theorem dX5_append_3 : decode cX5_append 3 = .ok (.if_icmp .lt 9, 3) := by decide +kernel
theorem dX5_append_6 : decode cX5_append 6 = .ok (.iload_n 1, 1) := by decide +kernel
theorem dX5_append_7 : decode cX5_append 7 = .ok (.bipush 126, 2) := by decide +kernel
theorem dX5_append_9 : decode cX5_append 9 = .ok (.if_icmp .le 13, 3) := by decide +kernel
theorem dX5_append_12 : decode cX5_append 12 = .ok (.new 84, 3) := by decide +kernel
theorem dX5_append_15 : decode cX5_append 15 = .ok (.dup, 1) := by decide +kernel
theorem dX5_append_16 : decode cX5_append 16 = .ok (.ldc 103, 2) := by decide +kernel
theorem dX5_append_18 : decode cX5_append 18 = .ok (.invokespecial 88, 3) := by decide +kernel
theorem dX5_append_21 : decode cX5_append 21 = .ok (.athrow, 1) := by decide +kernel
theorem dX5_append_22 : decode cX5_append 22 = .ok (.aload_n 0, 1) := by decide +kernel
theorem dX5_append_23 : decode cX5_append 23 = .ok (.getfield 105, 3) := by decide +kernel
theorem dX5_append_26 : decode cX5_append 26 = .ok (.ifCond .lt 15, 3) := by decide +kernel
theorem dX5_append_29 : decode cX5_append 29 = .ok (.aload_n 0, 1) := by decide +kernel
theorem dX5_append_30 : decode cX5_append 30 = .ok (.getfield 105, 3) := by decide +kernel
theorem dX5_append_33 : decode cX5_append 33 = .ok (.aload_n 0, 1) := by decide +kernel
theorem dX5_append_34 : decode cX5_append 34 = .ok (.getfield 26, 3) := by decide +kernel
theorem dX5_append_37 : decode cX5_append 37 = .ok (.arraylength, 1) := by decide +kernel
theorem dX5_append_38 : decode cX5_append 38 = .ok (.if_icmp .lt 13, 3) := by decide +kernel
theorem dX5_append_41 : decode cX5_append 41 = .ok (.new 108, 3) := by decide +kernel
theorem dX5_append_44 : decode cX5_append 44 = .ok (.dup, 1) := by decide +kernel
theorem dX5_append_45 : decode cX5_append 45 = .ok (.ldc 110, 2) := by decide +kernel
theorem dX5_append_47 : decode cX5_append 47 = .ok (.invokespecial 112, 3) := by decide +kernel
theorem dX5_append_50 : decode cX5_append 50 = .ok (.athrow, 1) := by decide +kernel
theorem dX5_append_51 : decode cX5_append 51 = .ok (.aload_n 0, 1) := by decide +kernel
theorem dX5_append_52 : decode cX5_append 52 = .ok (.getfield 26, 3) := by decide +kernel
theorem dX5_append_55 : decode cX5_append 55 = .ok (.aload_n 0, 1) := by decide +kernel
theorem dX5_append_56 : decode cX5_append 56 = .ok (.getfield 105, 3) := by decide +kernel
theorem dX5_append_59 : decode cX5_append 59 = .ok (.iload_n 1, 1) := by decide +kernel
theorem dX5_append_60 : decode cX5_append 60 = .ok (.iastore, 1) := by decide +kernel
theorem dX5_append_61 : decode cX5_append 61 = .ok (.aload_n 0, 1) := by decide +kernel
theorem dX5_append_62 : decode cX5_append 62 = .ok (.dup, 1) := by decide +kernel
theorem dX5_append_63 : decode cX5_append 63 = .ok (.getfield 105, 3) := by decide +kernel
theorem dX5_append_66 : decode cX5_append 66 = .ok (.iconst 1, 1) := by decide +kernel
theorem dX5_append_67 : decode cX5_append 67 = .ok (.iadd, 1) := by decide +kernel
theorem dX5_append_68 : decode cX5_append 68 = .ok (.putfield 105, 3) := by decide +kernel
theorem dX5_append_71 : decode cX5_append 71 = .ok (.aload_n 0, 1) := by decide +kernel
theorem dX5_append_72 : decode cX5_append 72 = .ok (.getfield 105, 3) := by decide +kernel
theorem dX5_append_75 : decode cX5_append 75 = .ok (.ireturn, 1) := by decide +kernel
theorem dX5_clearBuffer_0 : decode cX5_clearBuffer 0 = .ok (.aload_n 0, 1) := by decide +kernel
theorem dX5_clearBuffer_1 : decode cX5_clearBuffer 1 = .ok (.getfield 105, 3) := by decide +kernel
theorem dX5_clearBuffer_4 : decode cX5_clearBuffer 4 = .ok (.istore_n 1, 1) := by decide +kernel
theorem dX5_clearBuffer_5 : decode cX5_clearBuffer 5 = .ok (.aload_n 0, 1) := by decide +kernel
theorem dX5_clearBuffer_6 : decode cX5_clearBuffer 6 = .ok (.iconst 0, 1) := by decide +kernel
theorem dX5_clearBuffer_7 : decode cX5_clearBuffer 7 = .ok (.putfield 105, 3) := by decide +kernel
theorem dX5_clearBuffer_10 : decode cX5_clearBuffer 10 = .ok (.iload_n 1, 1) := by decide +kernel
theorem dX5_clearBuffer_11 : decode cX5_clearBuffer 11 = .ok (.ireturn, 1) := by decide +kernel
theorem dX5_firstError_0 : decode cX5_firstError 0 = .ok (.aload_n 0, 1) := by decide +kernel
theorem dX5_firstError_1 : decode cX5_firstError 1 = .ok (.getfield 33, 3) := by decide +kernel
theorem dX5_firstError_4 : decode cX5_firstError 4 = .ok (.aload_n 0, 1) := by decide +kernel
theorem dX5_firstError_5 : decode cX5_firstError 5 = .ok (.getfield 26, 3) := by decide +kernel
theorem dX5_firstError_8 : decode cX5_firstError 8 = .ok (.aload_n 0, 1) := by decide +kernel
theorem dX5_firstError_9 : decode cX5_firstError 9 = .ok (.getfield 105, 3) := by decide +kernel
theorem dX5_firstError_12 : decode cX5_firstError 12 = .ok (.invokevirtual 113, 3) := by decide +kernel
theorem dX5_firstError_15 : decode cX5_firstError 15 = .ok (.ireturn, 1) := by decide +kernel
theorem dX5_follow_0 : decode cX5_follow 0 = .ok (.aload_n 0, 1) := by decide +kernel
theorem dX5_follow_1 : decode cX5_follow 1 = .ok (.getfield 33, 3) := by decide +kernel
theorem dX5_follow_4 : decode cX5_follow 4 = .ok (.aload_n 0, 1) := by decide +kernel
theorem dX5_follow_5 : decode cX5_follow 5 = .ok (.getfield 26, 3) := by decide +kernel
theorem dX5_follow_8 : decode cX5_follow 8 = .ok (.aload_n 0, 1) := by decide +kernel
theorem dX5_follow_9 : decode cX5_follow 9 = .ok (.getfield 105, 3) := by decide +kernel
theorem dX5_follow_12 : decode cX5_follow 12 = .ok (.invokevirtual 117, 3) := by decide +kernel
theorem dX5_follow_15 : decode cX5_follow 15 = .ok (.ifCond .ne 13, 3) := by decide +kernel
theorem dX5_follow_18 : decode cX5_follow 18 = .ok (.new 84, 3) := by decide +kernel
theorem dX5_follow_21 : decode cX5_follow 21 = .ok (.dup, 1) := by decide +kernel
theorem dX5_follow_22 : decode cX5_follow 22 = .ok (.ldc 121, 2) := by decide +kernel
theorem dX5_follow_24 : decode cX5_follow 24 = .ok (.invokespecial 88, 3) := by decide +kernel
theorem dX5_follow_27 : decode cX5_follow 27 = .ok (.athrow, 1) := by decide +kernel
theorem dX5_follow_28 : decode cX5_follow 28 = .ok (.aload_n 0, 1) := by decide +kernel
theorem dX5_follow_29 : decode cX5_follow 29 = .ok (.getfield 16, 3) := by decide +kernel
theorem dX5_follow_32 : decode cX5_follow 32 = .ok (.aload_n 0, 1) := by decide +kernel
theorem dX5_follow_33 : decode cX5_follow 33 = .ok (.getfield 12, 3) := by decide +kernel
theorem dX5_follow_36 : decode cX5_follow 36 = .ok (.invokevirtual 51, 3) := by decide +kernel
theorem dX5_follow_39 : decode cX5_follow 39 = .ok (.aload_n 0, 1) := by decide +kernel
theorem dX5_follow_40 : decode cX5_follow 40 = .ok (.invokevirtual 123, 3) := by decide +kernel
theorem dX5_follow_43 : decode cX5_follow 43 = .ok (.ifCond .ne 24, 3) := by decide +kernel
theorem dX5_follow_46 : decode cX5_follow 46 = .ok (.aload_n 0, 1) := by decide +kernel
theorem dX5_follow_47 : decode cX5_follow 47 = .ok (.getfield 12, 3) := by decide +kernel
theorem dX5_follow_50 : decode cX5_follow 50 = .ok (.aload_n 0, 1) := by decide +kernel
theorem dX5_follow_51 : decode cX5_follow 51 = .ok (.getfield 16, 3) := by decide +kernel
theorem dX5_follow_54 : decode cX5_follow 54 = .ok (.invokevirtual 51, 3) := by decide +kernel
theorem dX5_follow_57 : decode cX5_follow 57 = .ok (.new 108, 3) := by decide +kernel
theorem dX5_follow_60 : decode cX5_follow 60 = .ok (.dup, 1) := by decide +kernel
theorem dX5_follow_61 : decode cX5_follow 61 = .ok (.ldc 127, 2) := by decide +kernel
theorem dX5_follow_63 : decode cX5_follow 63 = .ok (.invokespecial 112, 3) := by decide +kernel
theorem dX5_follow_66 : decode cX5_follow 66 = .ok (.athrow, 1) := by decide +kernel
theorem dX5_follow_67 : decode cX5_follow 67 = .ok (.aload_n 0, 1) := by decide +kernel
theorem dX5_follow_68 : decode cX5_follow 68 = .ok (.invokevirtual 95, 3) := by decide +kernel
theorem dX5_follow_71 : decode cX5_follow 71 = .ok (.aload_n 0, 1) := by decide +kernel
theorem dX5_follow_72 : decode cX5_follow 72 = .ok (.iconst 0, 1) := by decide +kernel
theorem dX5_follow_73 : decode cX5_follow 73 = .ok (.putfield 105, 3) := by decide +kernel
theorem dX5_follow_76 : decode cX5_follow 76 = .ok (.aload_n 0, 1) := by decide +kernel
theorem dX5_follow_77 : decode cX5_follow 77 = .ok (.getfield 40, 3) := by decide +kernel
theorem dX5_follow_80 : decode cX5_follow 80 = .ok (.aload_n 0, 1) := by decide +kernel
theorem dX5_follow_81 : decode cX5_follow 81 = .ok (.getfield 12, 3) := by decide +kernel
theorem dX5_follow_84 : decode cX5_follow 84 = .ok (.invokevirtual 129, 3) := by decide +kernel
theorem dX5_follow_87 : decode cX5_follow 87 = .ok (.getfield 133, 3) := by decide +kernel
theorem dX5_follow_90 : decode cX5_follow 90 = .ok (.ireturn, 1) := by decide +kernel
theorem dX5_keep_0 : decode cX5_keep 0 = .ok (.iload_n 1, 1) := by decide +kernel
theorem dX5_keep_1 : decode cX5_keep 1 = .ok (.invokestatic 138, 3) := by decide +kernel
theorem dX5_keep_4 : decode cX5_keep 4 = .ok (.aload_n 0, 1) := by decide +kernel
theorem dX5_keep_5 : decode cX5_keep 5 = .ok (.iload_n 1, 1) := by decide +kernel
theorem dX5_keep_6 : decode cX5_keep 6 = .ok (.invokevirtual 141, 3) := by decide +kernel
theorem dX5_keep_9 : decode cX5_keep 9 = .ok (.astore_n 2, 1) := by decide +kernel
theorem dX5_keep_10 : decode cX5_keep 10 = .ok (.aload_n 2, 1) := by decide +kernel
theorem dX5_keep_11 : decode cX5_keep 11 = .ok (.ifnonnull 17, 3) := by decide +kernel
theorem dX5_keep_14 : decode cX5_keep 14 = .ok (.new 9, 3) := by decide +kernel
theorem dX5_keep_17 : decode cX5_keep 17 = .ok (.dup, 1) := by decide +kernel
theorem dX5_keep_18 : decode cX5_keep 18 = .ok (.invokespecial 11, 3) := by decide +kernel
theorem dX5_keep_21 : decode cX5_keep 21 = .ok (.astore_n 2, 1) := by decide +kernel
theorem dX5_keep_22 : decode cX5_keep 22 = .ok (.aload_n 0, 1) := by decide +kernel
theorem dX5_keep_23 : decode cX5_keep 23 = .ok (.iload_n 1, 1) := by decide +kernel
theorem dX5_keep_24 : decode cX5_keep 24 = .ok (.aload_n 2, 1) := by decide +kernel
theorem dX5_keep_25 : decode cX5_keep 25 = .ok (.invokevirtual 145, 3) := by decide +kernel
theorem dX5_keep_28 : decode cX5_keep 28 = .ok (.aload_n 2, 1) := by decide +kernel
theorem dX5_keep_29 : decode cX5_keep 29 = .ok (.aload_n 0, 1) := by decide +kernel
theorem dX5_keep_30 : decode cX5_keep 30 = .ok (.getfield 12, 3) := by decide +kernel
theorem dX5_keep_33 : decode cX5_keep 33 = .ok (.invokevirtual 51, 3) := by decide +kernel
theorem dX5_keep_36 : decode cX5_keep 36 = .ok (.return_, 1) := by decide +kernel
theorem dX5_goBack_0 : decode cX5_goBack 0 = .ok (.iload_n 1, 1) := by decide +kernel
theorem dX5_goBack_1 : decode cX5_goBack 1 = .ok (.invokestatic 138, 3) := by decide +kernel
theorem dX5_goBack_4 : decode cX5_goBack 4 = .ok (.aload_n 0, 1) := by decide +kernel
theorem dX5_goBack_5 : decode cX5_goBack 5 = .ok (.iload_n 1, 1) := by decide +kernel
theorem dX5_goBack_6 : decode cX5_goBack 6 = .ok (.invokevirtual 141, 3) := by decide +kernel
theorem dX5_goBack_9 : decode cX5_goBack 9 = .ok (.astore_n 2, 1) := by decide +kernel
theorem dX5_goBack_10 : decode cX5_goBack 10 = .ok (.aload_n 2, 1) := by decide +kernel
theorem dX5_goBack_11 : decode cX5_goBack 11 = .ok (.ifnonnull 13, 3) := by decide +kernel
theorem dX5_goBack_14 : decode cX5_goBack 14 = .ok (.new 108, 3) := by decide +kernel
theorem dX5_goBack_17 : decode cX5_goBack 17 = .ok (.dup, 1) := by decide +kernel
theorem dX5_goBack_18 : decode cX5_goBack 18 = .ok (.ldc 149, 2) := by decide +kernel
theorem dX5_goBack_20 : decode cX5_goBack 20 = .ok (.invokespecial 112, 3) := by decide +kernel
theorem dX5_goBack_23 : decode cX5_goBack 23 = .ok (.athrow, 1) := by decide +kernel
theorem dX5_goBack_24 : decode cX5_goBack 24 = .ok (.aload_n 0, 1) := by decide +kernel
theorem dX5_goBack_25 : decode cX5_goBack 25 = .ok (.getfield 16, 3) := by decide +kernel
theorem dX5_goBack_28 : decode cX5_goBack 28 = .ok (.aload_n 0, 1) := by decide +kernel
theorem dX5_goBack_29 : decode cX5_goBack 29 = .ok (.getfield 12, 3) := by decide +kernel
theorem dX5_goBack_32 : decode cX5_goBack 32 = .ok (.invokevirtual 51, 3) := by decide +kernel
theorem dX5_goBack_35 : decode cX5_goBack 35 = .ok (.aload_n 0, 1) := by decide +kernel
theorem dX5_goBack_36 : decode cX5_goBack 36 = .ok (.getfield 12, 3) := by decide +kernel
theorem dX5_goBack_39 : decode cX5_goBack 39 = .ok (.aload_n 2, 1) := by decide +kernel
theorem dX5_goBack_40 : decode cX5_goBack 40 = .ok (.invokevirtual 51, 3) := by decide +kernel
theorem dX5_goBack_43 : decode cX5_goBack 43 = .ok (.aload_n 0, 1) := by decide +kernel
theorem dX5_goBack_44 : decode cX5_goBack 44 = .ok (.invokevirtual 95, 3) := by decide +kernel
theorem dX5_goBack_47 : decode cX5_goBack 47 = .ok (.return_, 1) := by decide +kernel
theorem dX5_undo_0 : decode cX5_undo 0 = .ok (.aload_n 0, 1) := by decide +kernel
theorem dX5_undo_1 : decode cX5_undo 1 = .ok (.invokevirtual 151, 3) := by decide +kernel
theorem dX5_undo_4 : decode cX5_undo 4 = .ok (.astore_n 1, 1) := by decide +kernel
theorem dX5_undo_5 : decode cX5_undo 5 = .ok (.aload_n 1, 1) := by decide +kernel
theorem dX5_undo_6 : decode cX5_undo 6 = .ok (.ifnonnull 13, 3) := by decide +kernel
theorem dX5_undo_9 : decode cX5_undo 9 = .ok (.new 108, 3) := by decide +kernel
theorem dX5_undo_12 : decode cX5_undo 12 = .ok (.dup, 1) := by decide +kernel
theorem dX5_undo_13 : decode cX5_undo 13 = .ok (.ldc 155, 2) := by decide +kernel
theorem dX5_undo_15 : decode cX5_undo 15 = .ok (.invokespecial 112, 3) := by decide +kernel
theorem dX5_undo_18 : decode cX5_undo 18 = .ok (.athrow, 1) := by decide +kernel
theorem dX5_undo_19 : decode cX5_undo 19 = .ok (.aload_n 0, 1) := by decide +kernel
theorem dX5_undo_20 : decode cX5_undo 20 = .ok (.getfield 12, 3) := by decide +kernel
theorem dX5_undo_23 : decode cX5_undo 23 = .ok (.aload_n 1, 1) := by decide +kernel
theorem dX5_undo_24 : decode cX5_undo 24 = .ok (.invokevirtual 51, 3) := by decide +kernel
theorem dX5_undo_27 : decode cX5_undo 27 = .ok (.aload_n 0, 1) := by decide +kernel
theorem dX5_undo_28 : decode cX5_undo 28 = .ok (.dup, 1) := by decide +kernel
theorem dX5_undo_29 : decode cX5_undo 29 = .ok (.getfield 157, 3) := by decide +kernel
theorem dX5_undo_32 : decode cX5_undo 32 = .ok (.iconst 1, 1) := by decide +kernel
theorem dX5_undo_33 : decode cX5_undo 33 = .ok (.isub, 1) := by decide +kernel
theorem dX5_undo_34 : decode cX5_undo 34 = .ok (.putfield 157, 3) := by decide +kernel
theorem dX5_undo_37 : decode cX5_undo 37 = .ok (.return_, 1) := by decide +kernel
theorem dX5_savedStates_0 : decode cX5_savedStates 0 = .ok (.aload_n 0, 1) := by decide +kernel
theorem dX5_savedStates_1 : decode cX5_savedStates 1 = .ok (.getfield 157, 3) := by decide +kernel
theorem dX5_savedStates_4 : decode cX5_savedStates 4 = .ok (.ireturn, 1) := by decide +kernel
theorem dX5_isFoundByTree_0 : decode cX5_isFoundByTree 0 = .ok (.iload_n 1, 1) := by decide +kernel
theorem dX5_isFoundByTree_1 : decode cX5_isFoundByTree 1 = .ok (.invokestatic 44, 3) := by decide +kernel
theorem dX5_isFoundByTree_4 : decode cX5_isFoundByTree 4 = .ok (.aload_n 0, 1) := by decide +kernel
theorem dX5_isFoundByTree_5 : decode cX5_isFoundByTree 5 = .ok (.getfield 12, 3) := by decide +kernel
theorem dX5_isFoundByTree_8 : decode cX5_isFoundByTree 8 = .ok (.iload_n 1, 1) := by decide +kernel
theorem dX5_isFoundByTree_9 : decode cX5_isFoundByTree 9 = .ok (.invokevirtual 160, 3) := by decide +kernel
theorem dX5_isFoundByTree_12 : decode cX5_isFoundByTree 12 = .ok (.iconst (-1), 1) := by decide +kernel
theorem dX5_isFoundByTree_13 : decode cX5_isFoundByTree 13 = .ok (.if_icmp .eq 7, 3) := by decide +kernel
theorem dX5_isFoundByTree_16 : decode cX5_isFoundByTree 16 = .ok (.iconst 1, 1) := by decide +kernel
theorem dX5_isFoundByTree_17 : decode cX5_isFoundByTree 17 = .ok (.goto 4, 3) := by decide +kernel
theorem dX5_isFoundByTree_20 : decode cX5_isFoundByTree 20 = .ok (.iconst 0, 1) := by decide +kernel
theorem dX5_isFoundByTree_21 : decode cX5_isFoundByTree 21 = .ok (.ireturn, 1) := by decide +kernel
theorem dX5_isFoundByGoing_0 : decode cX5_isFoundByGoing 0 = .ok (.iload_n 1, 1) := by decide +kernel
theorem dX5_isFoundByGoing_1 : decode cX5_isFoundByGoing 1 = .ok (.invokestatic 44, 3) := by decide +kernel
theorem dX5_isFoundByGoing_4 : decode cX5_isFoundByGoing 4 = .ok (.aload_n 0, 1) := by decide +kernel
theorem dX5_isFoundByGoing_5 : decode cX5_isFoundByGoing 5 = .ok (.getfield 12, 3) := by decide +kernel
theorem dX5_isFoundByGoing_8 : decode cX5_isFoundByGoing 8 = .ok (.iload_n 1, 1) := by decide +kernel
theorem dX5_isFoundByGoing_9 : decode cX5_isFoundByGoing 9 = .ok (.invokevirtual 163, 3) := by decide +kernel
theorem dX5_isFoundByGoing_12 : decode cX5_isFoundByGoing 12 = .ok (.ireturn, 1) := by decide +kernel
theorem dX5_valueOf_0 : decode cX5_valueOf 0 = .ok (.iload_n 1, 1) := by decide +kernel
theorem dX5_valueOf_1 : decode cX5_valueOf 1 = .ok (.invokestatic 44, 3) := by decide +kernel
theorem dX5_valueOf_4 : decode cX5_valueOf 4 = .ok (.aload_n 0, 1) := by decide +kernel
theorem dX5_valueOf_5 : decode cX5_valueOf 5 = .ok (.getfield 12, 3) := by decide +kernel
theorem dX5_valueOf_8 : decode cX5_valueOf 8 = .ok (.iload_n 1, 1) := by decide +kernel
theorem dX5_valueOf_9 : decode cX5_valueOf 9 = .ok (.invokevirtual 160, 3) := by decide +kernel
theorem dX5_valueOf_12 : decode cX5_valueOf 12 = .ok (.istore_n 2, 1) := by decide +kernel
theorem dX5_valueOf_13 : decode cX5_valueOf 13 = .ok (.iload_n 2, 1) := by decide +kernel
theorem dX5_valueOf_14 : decode cX5_valueOf 14 = .ok (.iconst (-1), 1) := by decide +kernel
theorem dX5_valueOf_15 : decode cX5_valueOf 15 = .ok (.if_icmp .ne 13, 3) := by decide +kernel
theorem dX5_valueOf_18 : decode cX5_valueOf 18 = .ok (.new 108, 3) := by decide +kernel
theorem dX5_valueOf_21 : decode cX5_valueOf 21 = .ok (.dup, 1) := by decide +kernel
theorem dX5_valueOf_22 : decode cX5_valueOf 22 = .ok (.ldc 167, 2) := by decide +kernel
theorem dX5_valueOf_24 : decode cX5_valueOf 24 = .ok (.invokespecial 112, 3) := by decide +kernel
theorem dX5_valueOf_27 : decode cX5_valueOf 27 = .ok (.athrow, 1) := by decide +kernel
theorem dX5_valueOf_28 : decode cX5_valueOf 28 = .ok (.iload_n 2, 1) := by decide +kernel
theorem dX5_valueOf_29 : decode cX5_valueOf 29 = .ok (.ireturn, 1) := by decide +kernel
theorem dX5_pagesFor_0 : decode cX5_pagesFor 0 = .ok (.iload_n 1, 1) := by decide +kernel
theorem dX5_pagesFor_1 : decode cX5_pagesFor 1 = .ok (.invokestatic 44, 3) := by decide +kernel
theorem dX5_pagesFor_4 : decode cX5_pagesFor 4 = .ok (.aload_n 0, 1) := by decide +kernel
theorem dX5_pagesFor_5 : decode cX5_pagesFor 5 = .ok (.getfield 12, 3) := by decide +kernel
theorem dX5_pagesFor_8 : decode cX5_pagesFor 8 = .ok (.iload_n 1, 1) := by decide +kernel
theorem dX5_pagesFor_9 : decode cX5_pagesFor 9 = .ok (.invokevirtual 169, 3) := by decide +kernel
theorem dX5_pagesFor_12 : decode cX5_pagesFor 12 = .ok (.ireturn, 1) := by decide +kernel
theorem dX5_countByLeaves_0 : decode cX5_countByLeaves 0 = .ok (.iload_n 1, 1) := by decide +kernel
theorem dX5_countByLeaves_1 : decode cX5_countByLeaves 1 = .ok (.iload_n 2, 1) := by decide +kernel
theorem dX5_countByLeaves_2 : decode cX5_countByLeaves 2 = .ok (.invokestatic 172, 3) := by decide +kernel
theorem dX5_countByLeaves_5 : decode cX5_countByLeaves 5 = .ok (.aload_n 0, 1) := by decide +kernel
theorem dX5_countByLeaves_6 : decode cX5_countByLeaves 6 = .ok (.getfield 12, 3) := by decide +kernel
theorem dX5_countByLeaves_9 : decode cX5_countByLeaves 9 = .ok (.iload_n 1, 1) := by decide +kernel
theorem dX5_countByLeaves_10 : decode cX5_countByLeaves 10 = .ok (.iload_n 2, 1) := by decide +kernel
theorem dX5_countByLeaves_11 : decode cX5_countByLeaves 11 = .ok (.invokevirtual 176, 3) := by decide +kernel
theorem dX5_countByLeaves_14 : decode cX5_countByLeaves 14 = .ok (.ireturn, 1) := by decide +kernel
theorem dX5_countByNext_0 : decode cX5_countByNext 0 = .ok (.iload_n 1, 1) := by decide +kernel
theorem dX5_countByNext_1 : decode cX5_countByNext 1 = .ok (.iload_n 2, 1) := by decide +kernel
theorem dX5_countByNext_2 : decode cX5_countByNext 2 = .ok (.invokestatic 172, 3) := by decide +kernel
theorem dX5_countByNext_5 : decode cX5_countByNext 5 = .ok (.aload_n 0, 1) := by decide +kernel
theorem dX5_countByNext_6 : decode cX5_countByNext 6 = .ok (.getfield 40, 3) := by decide +kernel
theorem dX5_countByNext_9 : decode cX5_countByNext 9 = .ok (.aload_n 0, 1) := by decide +kernel
theorem dX5_countByNext_10 : decode cX5_countByNext 10 = .ok (.getfield 12, 3) := by decide +kernel
theorem dX5_countByNext_13 : decode cX5_countByNext 13 = .ok (.invokevirtual 129, 3) := by decide +kernel
theorem dX5_countByNext_16 : decode cX5_countByNext 16 = .ok (.iload_n 1, 1) := by decide +kernel
theorem dX5_countByNext_17 : decode cX5_countByNext 17 = .ok (.iload_n 2, 1) := by decide +kernel
theorem dX5_countByNext_18 : decode cX5_countByNext 18 = .ok (.invokevirtual 179, 3) := by decide +kernel
theorem dX5_countByNext_21 : decode cX5_countByNext 21 = .ok (.ireturn, 1) := by decide +kernel
theorem dX5_nextKey_0 : decode cX5_nextKey 0 = .ok (.iload_n 1, 1) := by decide +kernel
theorem dX5_nextKey_1 : decode cX5_nextKey 1 = .ok (.invokestatic 44, 3) := by decide +kernel
theorem dX5_nextKey_4 : decode cX5_nextKey 4 = .ok (.aload_n 0, 1) := by decide +kernel
theorem dX5_nextKey_5 : decode cX5_nextKey 5 = .ok (.getfield 40, 3) := by decide +kernel
theorem dX5_nextKey_8 : decode cX5_nextKey 8 = .ok (.aload_n 0, 1) := by decide +kernel
theorem dX5_nextKey_9 : decode cX5_nextKey 9 = .ok (.getfield 12, 3) := by decide +kernel
theorem dX5_nextKey_12 : decode cX5_nextKey 12 = .ok (.invokevirtual 129, 3) := by decide +kernel
theorem dX5_nextKey_15 : decode cX5_nextKey 15 = .ok (.astore_n 2, 1) := by decide +kernel
theorem dX5_nextKey_16 : decode cX5_nextKey 16 = .ok (.aload_n 2, 1) := by decide +kernel
theorem dX5_nextKey_17 : decode cX5_nextKey 17 = .ok (.aload_n 2, 1) := by decide +kernel
theorem dX5_nextKey_18 : decode cX5_nextKey 18 = .ok (.iload_n 1, 1) := by decide +kernel
theorem dX5_nextKey_19 : decode cX5_nextKey 19 = .ok (.iconst 1, 1) := by decide +kernel
theorem dX5_nextKey_20 : decode cX5_nextKey 20 = .ok (.iadd, 1) := by decide +kernel
theorem dX5_nextKey_21 : decode cX5_nextKey 21 = .ok (.invokevirtual 182, 3) := by decide +kernel
theorem dX5_nextKey_24 : decode cX5_nextKey 24 = .ok (.invokevirtual 185, 3) := by decide +kernel
theorem dX5_nextKey_27 : decode cX5_nextKey 27 = .ok (.istore_n 3, 1) := by decide +kernel
theorem dX5_nextKey_28 : decode cX5_nextKey 28 = .ok (.iload_n 3, 1) := by decide +kernel
theorem dX5_nextKey_29 : decode cX5_nextKey 29 = .ok (.iconst (-1), 1) := by decide +kernel
theorem dX5_nextKey_30 : decode cX5_nextKey 30 = .ok (.if_icmp .ne 13, 3) := by decide +kernel
theorem dX5_nextKey_33 : decode cX5_nextKey 33 = .ok (.new 108, 3) := by decide +kernel
theorem dX5_nextKey_36 : decode cX5_nextKey 36 = .ok (.dup, 1) := by decide +kernel
theorem dX5_nextKey_37 : decode cX5_nextKey 37 = .ok (.ldc 188, 2) := by decide +kernel
theorem dX5_nextKey_39 : decode cX5_nextKey 39 = .ok (.invokespecial 112, 3) := by decide +kernel
theorem dX5_nextKey_42 : decode cX5_nextKey 42 = .ok (.athrow, 1) := by decide +kernel
theorem dX5_nextKey_43 : decode cX5_nextKey 43 = .ok (.iload_n 3, 1) := by decide +kernel
theorem dX5_nextKey_44 : decode cX5_nextKey 44 = .ok (.ireturn, 1) := by decide +kernel
theorem dX5_keyBefore_0 : decode cX5_keyBefore 0 = .ok (.iload_n 1, 1) := by decide +kernel
theorem dX5_keyBefore_1 : decode cX5_keyBefore 1 = .ok (.invokestatic 44, 3) := by decide +kernel
theorem dX5_keyBefore_4 : decode cX5_keyBefore 4 = .ok (.aload_n 0, 1) := by decide +kernel
theorem dX5_keyBefore_5 : decode cX5_keyBefore 5 = .ok (.getfield 40, 3) := by decide +kernel
theorem dX5_keyBefore_8 : decode cX5_keyBefore 8 = .ok (.aload_n 0, 1) := by decide +kernel
theorem dX5_keyBefore_9 : decode cX5_keyBefore 9 = .ok (.getfield 12, 3) := by decide +kernel
theorem dX5_keyBefore_12 : decode cX5_keyBefore 12 = .ok (.invokevirtual 129, 3) := by decide +kernel
theorem dX5_keyBefore_15 : decode cX5_keyBefore 15 = .ok (.astore_n 2, 1) := by decide +kernel
theorem dX5_keyBefore_16 : decode cX5_keyBefore 16 = .ok (.aload_n 2, 1) := by decide +kernel
theorem dX5_keyBefore_17 : decode cX5_keyBefore 17 = .ok (.aload_n 2, 1) := by decide +kernel
theorem dX5_keyBefore_18 : decode cX5_keyBefore 18 = .ok (.iload_n 1, 1) := by decide +kernel
theorem dX5_keyBefore_19 : decode cX5_keyBefore 19 = .ok (.invokevirtual 182, 3) := by decide +kernel
theorem dX5_keyBefore_22 : decode cX5_keyBefore 22 = .ok (.iconst 1, 1) := by decide +kernel
theorem dX5_keyBefore_23 : decode cX5_keyBefore 23 = .ok (.isub, 1) := by decide +kernel
theorem dX5_keyBefore_24 : decode cX5_keyBefore 24 = .ok (.invokevirtual 185, 3) := by decide +kernel
theorem dX5_keyBefore_27 : decode cX5_keyBefore 27 = .ok (.istore_n 3, 1) := by decide +kernel
theorem dX5_keyBefore_28 : decode cX5_keyBefore 28 = .ok (.iload_n 3, 1) := by decide +kernel
theorem dX5_keyBefore_29 : decode cX5_keyBefore 29 = .ok (.iconst (-1), 1) := by decide +kernel
theorem dX5_keyBefore_30 : decode cX5_keyBefore 30 = .ok (.if_icmp .ne 13, 3) := by decide +kernel
theorem dX5_keyBefore_33 : decode cX5_keyBefore 33 = .ok (.new 108, 3) := by decide +kernel
theorem dX5_keyBefore_36 : decode cX5_keyBefore 36 = .ok (.dup, 1) := by decide +kernel
theorem dX5_keyBefore_37 : decode cX5_keyBefore 37 = .ok (.ldc 190, 2) := by decide +kernel
theorem dX5_keyBefore_39 : decode cX5_keyBefore 39 = .ok (.invokespecial 112, 3) := by decide +kernel
theorem dX5_keyBefore_42 : decode cX5_keyBefore 42 = .ok (.athrow, 1) := by decide +kernel
theorem dX5_keyBefore_43 : decode cX5_keyBefore 43 = .ok (.iload_n 3, 1) := by decide +kernel
theorem dX5_keyBefore_44 : decode cX5_keyBefore 44 = .ok (.ireturn, 1) := by decide +kernel
theorem dX5_found_0 : decode cX5_found 0 = .ok (.aload_n 0, 1) := by decide +kernel
theorem dX5_found_1 : decode cX5_found 1 = .ok (.getfield 40, 3) := by decide +kernel
theorem dX5_found_4 : decode cX5_found 4 = .ok (.aload_n 0, 1) := by decide +kernel
theorem dX5_found_5 : decode cX5_found 5 = .ok (.getfield 12, 3) := by decide +kernel
theorem dX5_found_8 : decode cX5_found 8 = .ok (.invokevirtual 129, 3) := by decide +kernel
theorem dX5_found_11 : decode cX5_found 11 = .ok (.getfield 133, 3) := by decide +kernel
theorem dX5_found_14 : decode cX5_found 14 = .ok (.ireturn, 1) := by decide +kernel
theorem dX5_keyAt_0 : decode cX5_keyAt 0 = .ok (.aload_n 0, 1) := by decide +kernel
theorem dX5_keyAt_1 : decode cX5_keyAt 1 = .ok (.getfield 40, 3) := by decide +kernel
theorem dX5_keyAt_4 : decode cX5_keyAt 4 = .ok (.aload_n 0, 1) := by decide +kernel
theorem dX5_keyAt_5 : decode cX5_keyAt 5 = .ok (.getfield 12, 3) := by decide +kernel
theorem dX5_keyAt_8 : decode cX5_keyAt 8 = .ok (.invokevirtual 129, 3) := by decide +kernel
theorem dX5_keyAt_11 : decode cX5_keyAt 11 = .ok (.iload_n 1, 1) := by decide +kernel
theorem dX5_keyAt_12 : decode cX5_keyAt 12 = .ok (.invokevirtual 185, 3) := by decide +kernel
theorem dX5_keyAt_15 : decode cX5_keyAt 15 = .ok (.istore_n 2, 1) := by decide +kernel
theorem dX5_keyAt_16 : decode cX5_keyAt 16 = .ok (.iload_n 2, 1) := by decide +kernel
theorem dX5_keyAt_17 : decode cX5_keyAt 17 = .ok (.iconst (-1), 1) := by decide +kernel
theorem dX5_keyAt_18 : decode cX5_keyAt 18 = .ok (.if_icmp .ne 13, 3) := by decide +kernel
theorem dX5_keyAt_21 : decode cX5_keyAt 21 = .ok (.new 192, 3) := by decide +kernel
theorem dX5_keyAt_24 : decode cX5_keyAt 24 = .ok (.dup, 1) := by decide +kernel
theorem dX5_keyAt_25 : decode cX5_keyAt 25 = .ok (.ldc 194, 2) := by decide +kernel
theorem dX5_keyAt_27 : decode cX5_keyAt 27 = .ok (.invokespecial 196, 3) := by decide +kernel
theorem dX5_keyAt_30 : decode cX5_keyAt 30 = .ok (.athrow, 1) := by decide +kernel
theorem dX5_keyAt_31 : decode cX5_keyAt 31 = .ok (.iload_n 2, 1) := by decide +kernel
theorem dX5_keyAt_32 : decode cX5_keyAt 32 = .ok (.ireturn, 1) := by decide +kernel
theorem dX5_runs_0 : decode cX5_runs 0 = .ok (.aload_n 0, 1) := by decide +kernel
theorem dX5_runs_1 : decode cX5_runs 1 = .ok (.getfield 12, 3) := by decide +kernel
theorem dX5_runs_4 : decode cX5_runs 4 = .ok (.getfield 197, 3) := by decide +kernel
theorem dX5_runs_7 : decode cX5_runs 7 = .ok (.ireturn, 1) := by decide +kernel
theorem dX5_sizeOf_0 : decode cX5_sizeOf 0 = .ok (.aload_n 0, 1) := by decide +kernel
theorem dX5_sizeOf_1 : decode cX5_sizeOf 1 = .ok (.getfield 12, 3) := by decide +kernel
theorem dX5_sizeOf_4 : decode cX5_sizeOf 4 = .ok (.iload_n 1, 1) := by decide +kernel
theorem dX5_sizeOf_5 : decode cX5_sizeOf 5 = .ok (.invokevirtual 200, 3) := by decide +kernel
theorem dX5_sizeOf_8 : decode cX5_sizeOf 8 = .ok (.astore_n 2, 1) := by decide +kernel
theorem dX5_sizeOf_9 : decode cX5_sizeOf 9 = .ok (.aload_n 2, 1) := by decide +kernel
theorem dX5_sizeOf_10 : decode cX5_sizeOf 10 = .ok (.ifnonnull 13, 3) := by decide +kernel
theorem dX5_sizeOf_13 : decode cX5_sizeOf 13 = .ok (.new 192, 3) := by decide +kernel
theorem dX5_sizeOf_16 : decode cX5_sizeOf 16 = .ok (.dup, 1) := by decide +kernel
theorem dX5_sizeOf_17 : decode cX5_sizeOf 17 = .ok (.ldc 204, 2) := by decide +kernel
theorem dX5_sizeOf_19 : decode cX5_sizeOf 19 = .ok (.invokespecial 196, 3) := by decide +kernel
theorem dX5_sizeOf_22 : decode cX5_sizeOf 22 = .ok (.athrow, 1) := by decide +kernel
theorem dX5_sizeOf_23 : decode cX5_sizeOf 23 = .ok (.aload_n 2, 1) := by decide +kernel
theorem dX5_sizeOf_24 : decode cX5_sizeOf 24 = .ok (.getfield 133, 3) := by decide +kernel
theorem dX5_sizeOf_27 : decode cX5_sizeOf 27 = .ok (.ireturn, 1) := by decide +kernel
theorem dX5_keyIn_0 : decode cX5_keyIn 0 = .ok (.aload_n 0, 1) := by decide +kernel
theorem dX5_keyIn_1 : decode cX5_keyIn 1 = .ok (.getfield 12, 3) := by decide +kernel
theorem dX5_keyIn_4 : decode cX5_keyIn 4 = .ok (.iload_n 1, 1) := by decide +kernel
theorem dX5_keyIn_5 : decode cX5_keyIn 5 = .ok (.invokevirtual 200, 3) := by decide +kernel
theorem dX5_keyIn_8 : decode cX5_keyIn 8 = .ok (.astore_n 3, 1) := by decide +kernel
theorem dX5_keyIn_9 : decode cX5_keyIn 9 = .ok (.aload_n 3, 1) := by decide +kernel
theorem dX5_keyIn_10 : decode cX5_keyIn 10 = .ok (.ifnull 11, 3) := by decide +kernel
theorem dX5_keyIn_13 : decode cX5_keyIn 13 = .ok (.aload_n 3, 1) := by decide +kernel
theorem dX5_keyIn_14 : decode cX5_keyIn 14 = .ok (.iload_n 2, 1) := by decide +kernel
theorem dX5_keyIn_15 : decode cX5_keyIn 15 = .ok (.invokevirtual 206, 3) := by decide +kernel
theorem dX5_keyIn_18 : decode cX5_keyIn 18 = .ok (.ifCond .ne 13, 3) := by decide +kernel
theorem dX5_keyIn_21 : decode cX5_keyIn 21 = .ok (.new 192, 3) := by decide +kernel
theorem dX5_keyIn_24 : decode cX5_keyIn 24 = .ok (.dup, 1) := by decide +kernel
theorem dX5_keyIn_25 : decode cX5_keyIn 25 = .ok (.ldc 209, 2) := by decide +kernel
theorem dX5_keyIn_27 : decode cX5_keyIn 27 = .ok (.invokespecial 196, 3) := by decide +kernel
theorem dX5_keyIn_30 : decode cX5_keyIn 30 = .ok (.athrow, 1) := by decide +kernel
theorem dX5_keyIn_31 : decode cX5_keyIn 31 = .ok (.aload_n 3, 1) := by decide +kernel
theorem dX5_keyIn_32 : decode cX5_keyIn 32 = .ok (.iload_n 2, 1) := by decide +kernel
theorem dX5_keyIn_33 : decode cX5_keyIn 33 = .ok (.invokevirtual 185, 3) := by decide +kernel
theorem dX5_keyIn_36 : decode cX5_keyIn 36 = .ok (.ireturn, 1) := by decide +kernel
theorem dX5_isGoneIn_0 : decode cX5_isGoneIn 0 = .ok (.aload_n 0, 1) := by decide +kernel
theorem dX5_isGoneIn_1 : decode cX5_isGoneIn 1 = .ok (.getfield 12, 3) := by decide +kernel
theorem dX5_isGoneIn_4 : decode cX5_isGoneIn 4 = .ok (.iload_n 1, 1) := by decide +kernel
theorem dX5_isGoneIn_5 : decode cX5_isGoneIn 5 = .ok (.invokevirtual 200, 3) := by decide +kernel
theorem dX5_isGoneIn_8 : decode cX5_isGoneIn 8 = .ok (.astore_n 3, 1) := by decide +kernel
theorem dX5_isGoneIn_9 : decode cX5_isGoneIn 9 = .ok (.aload_n 3, 1) := by decide +kernel
theorem dX5_isGoneIn_10 : decode cX5_isGoneIn 10 = .ok (.ifnull 11, 3) := by decide +kernel
theorem dX5_isGoneIn_13 : decode cX5_isGoneIn 13 = .ok (.aload_n 3, 1) := by decide +kernel
theorem dX5_isGoneIn_14 : decode cX5_isGoneIn 14 = .ok (.iload_n 2, 1) := by decide +kernel
theorem dX5_isGoneIn_15 : decode cX5_isGoneIn 15 = .ok (.invokevirtual 206, 3) := by decide +kernel
theorem dX5_isGoneIn_18 : decode cX5_isGoneIn 18 = .ok (.ifCond .ne 13, 3) := by decide +kernel
theorem dX5_isGoneIn_21 : decode cX5_isGoneIn 21 = .ok (.new 192, 3) := by decide +kernel
theorem dX5_isGoneIn_24 : decode cX5_isGoneIn 24 = .ok (.dup, 1) := by decide +kernel
theorem dX5_isGoneIn_25 : decode cX5_isGoneIn 25 = .ok (.ldc 209, 2) := by decide +kernel
theorem dX5_isGoneIn_27 : decode cX5_isGoneIn 27 = .ok (.invokespecial 196, 3) := by decide +kernel
theorem dX5_isGoneIn_30 : decode cX5_isGoneIn 30 = .ok (.athrow, 1) := by decide +kernel
theorem dX5_isGoneIn_31 : decode cX5_isGoneIn 31 = .ok (.aload_n 3, 1) := by decide +kernel
theorem dX5_isGoneIn_32 : decode cX5_isGoneIn 32 = .ok (.iload_n 2, 1) := by decide +kernel
theorem dX5_isGoneIn_33 : decode cX5_isGoneIn 33 = .ok (.invokevirtual 211, 3) := by decide +kernel
theorem dX5_isGoneIn_36 : decode cX5_isGoneIn 36 = .ok (.iconst (-1), 1) := by decide +kernel
theorem dX5_isGoneIn_37 : decode cX5_isGoneIn 37 = .ok (.if_icmp .ne 7, 3) := by decide +kernel
theorem dX5_isGoneIn_40 : decode cX5_isGoneIn 40 = .ok (.iconst 1, 1) := by decide +kernel
theorem dX5_isGoneIn_41 : decode cX5_isGoneIn 41 = .ok (.goto 4, 3) := by decide +kernel
theorem dX5_isGoneIn_44 : decode cX5_isGoneIn 44 = .ok (.iconst 0, 1) := by decide +kernel
theorem dX5_isGoneIn_45 : decode cX5_isGoneIn 45 = .ok (.ireturn, 1) := by decide +kernel
theorem dX5_runOf_0 : decode cX5_runOf 0 = .ok (.iload_n 1, 1) := by decide +kernel
theorem dX5_runOf_1 : decode cX5_runOf 1 = .ok (.invokestatic 44, 3) := by decide +kernel
theorem dX5_runOf_4 : decode cX5_runOf 4 = .ok (.aload_n 0, 1) := by decide +kernel
theorem dX5_runOf_5 : decode cX5_runOf 5 = .ok (.getfield 12, 3) := by decide +kernel
theorem dX5_runOf_8 : decode cX5_runOf 8 = .ok (.iload_n 1, 1) := by decide +kernel
theorem dX5_runOf_9 : decode cX5_runOf 9 = .ok (.invokevirtual 214, 3) := by decide +kernel
theorem dX5_runOf_12 : decode cX5_runOf 12 = .ok (.istore_n 2, 1) := by decide +kernel
theorem dX5_runOf_13 : decode cX5_runOf 13 = .ok (.iload_n 2, 1) := by decide +kernel
theorem dX5_runOf_14 : decode cX5_runOf 14 = .ok (.iconst (-1), 1) := by decide +kernel
theorem dX5_runOf_15 : decode cX5_runOf 15 = .ok (.if_icmp .ne 13, 3) := by decide +kernel
theorem dX5_runOf_18 : decode cX5_runOf 18 = .ok (.new 108, 3) := by decide +kernel
theorem dX5_runOf_21 : decode cX5_runOf 21 = .ok (.dup, 1) := by decide +kernel
theorem dX5_runOf_22 : decode cX5_runOf 22 = .ok (.ldc 217, 2) := by decide +kernel
theorem dX5_runOf_24 : decode cX5_runOf 24 = .ok (.invokespecial 112, 3) := by decide +kernel
theorem dX5_runOf_27 : decode cX5_runOf 27 = .ok (.athrow, 1) := by decide +kernel
theorem dX5_runOf_28 : decode cX5_runOf 28 = .ok (.iload_n 2, 1) := by decide +kernel
theorem dX5_runOf_29 : decode cX5_runOf 29 = .ok (.ireturn, 1) := by decide +kernel
theorem dX5_entries_0 : decode cX5_entries 0 = .ok (.aload_n 0, 1) := by decide +kernel
theorem dX5_entries_1 : decode cX5_entries 1 = .ok (.getfield 12, 3) := by decide +kernel
theorem dX5_entries_4 : decode cX5_entries 4 = .ok (.getfield 219, 3) := by decide +kernel
theorem dX5_entries_7 : decode cX5_entries 7 = .ok (.getfield 223, 3) := by decide +kernel
theorem dX5_entries_10 : decode cX5_entries 10 = .ok (.getfield 133, 3) := by decide +kernel
theorem dX5_entries_13 : decode cX5_entries 13 = .ok (.ireturn, 1) := by decide +kernel
theorem dX5_leaves_0 : decode cX5_leaves 0 = .ok (.aload_n 0, 1) := by decide +kernel
theorem dX5_leaves_1 : decode cX5_leaves 1 = .ok (.getfield 12, 3) := by decide +kernel
theorem dX5_leaves_4 : decode cX5_leaves 4 = .ok (.getfield 219, 3) := by decide +kernel
theorem dX5_leaves_7 : decode cX5_leaves 7 = .ok (.getfield 229, 3) := by decide +kernel
theorem dX5_leaves_10 : decode cX5_leaves 10 = .ok (.ireturn, 1) := by decide +kernel
theorem dX5_entriesOf_0 : decode cX5_entriesOf 0 = .ok (.aload_n 0, 1) := by decide +kernel
theorem dX5_entriesOf_1 : decode cX5_entriesOf 1 = .ok (.iload_n 1, 1) := by decide +kernel
theorem dX5_entriesOf_2 : decode cX5_entriesOf 2 = .ok (.invokevirtual 232, 3) := by decide +kernel
theorem dX5_entriesOf_5 : decode cX5_entriesOf 5 = .ok (.aload_n 0, 1) := by decide +kernel
theorem dX5_entriesOf_6 : decode cX5_entriesOf 6 = .ok (.getfield 12, 3) := by decide +kernel
theorem dX5_entriesOf_9 : decode cX5_entriesOf 9 = .ok (.getfield 219, 3) := by decide +kernel
theorem dX5_entriesOf_12 : decode cX5_entriesOf 12 = .ok (.iload_n 1, 1) := by decide +kernel
theorem dX5_entriesOf_13 : decode cX5_entriesOf 13 = .ok (.invokevirtual 235, 3) := by decide +kernel
theorem dX5_entriesOf_16 : decode cX5_entriesOf 16 = .ok (.ireturn, 1) := by decide +kernel
theorem dX5_leafKey_0 : decode cX5_leafKey 0 = .ok (.aload_n 0, 1) := by decide +kernel
theorem dX5_leafKey_1 : decode cX5_leafKey 1 = .ok (.iload_n 1, 1) := by decide +kernel
theorem dX5_leafKey_2 : decode cX5_leafKey 2 = .ok (.invokevirtual 232, 3) := by decide +kernel
theorem dX5_leafKey_5 : decode cX5_leafKey 5 = .ok (.aload_n 0, 1) := by decide +kernel
theorem dX5_leafKey_6 : decode cX5_leafKey 6 = .ok (.getfield 12, 3) := by decide +kernel
theorem dX5_leafKey_9 : decode cX5_leafKey 9 = .ok (.getfield 219, 3) := by decide +kernel
theorem dX5_leafKey_12 : decode cX5_leafKey 12 = .ok (.iload_n 1, 1) := by decide +kernel
theorem dX5_leafKey_13 : decode cX5_leafKey 13 = .ok (.iload_n 2, 1) := by decide +kernel
theorem dX5_leafKey_14 : decode cX5_leafKey 14 = .ok (.invokevirtual 238, 3) := by decide +kernel
theorem dX5_leafKey_17 : decode cX5_leafKey 17 = .ok (.istore_n 3, 1) := by decide +kernel
theorem dX5_leafKey_18 : decode cX5_leafKey 18 = .ok (.iload_n 3, 1) := by decide +kernel
theorem dX5_leafKey_19 : decode cX5_leafKey 19 = .ok (.iconst (-1), 1) := by decide +kernel
theorem dX5_leafKey_20 : decode cX5_leafKey 20 = .ok (.if_icmp .ne 13, 3) := by decide +kernel
theorem dX5_leafKey_23 : decode cX5_leafKey 23 = .ok (.new 192, 3) := by decide +kernel
theorem dX5_leafKey_26 : decode cX5_leafKey 26 = .ok (.dup, 1) := by decide +kernel
theorem dX5_leafKey_27 : decode cX5_leafKey 27 = .ok (.ldc 241, 2) := by decide +kernel
theorem dX5_leafKey_29 : decode cX5_leafKey 29 = .ok (.invokespecial 196, 3) := by decide +kernel
theorem dX5_leafKey_32 : decode cX5_leafKey 32 = .ok (.athrow, 1) := by decide +kernel
theorem dX5_leafKey_33 : decode cX5_leafKey 33 = .ok (.aload_n 0, 1) := by decide +kernel
theorem dX5_leafKey_34 : decode cX5_leafKey 34 = .ok (.getfield 12, 3) := by decide +kernel
theorem dX5_leafKey_37 : decode cX5_leafKey 37 = .ok (.getfield 219, 3) := by decide +kernel
theorem dX5_leafKey_40 : decode cX5_leafKey 40 = .ok (.getfield 223, 3) := by decide +kernel
theorem dX5_leafKey_43 : decode cX5_leafKey 43 = .ok (.iload_n 3, 1) := by decide +kernel
theorem dX5_leafKey_44 : decode cX5_leafKey 44 = .ok (.invokevirtual 185, 3) := by decide +kernel
theorem dX5_leafKey_47 : decode cX5_leafKey 47 = .ok (.ireturn, 1) := by decide +kernel
theorem dX5_overflowOf_0 : decode cX5_overflowOf 0 = .ok (.aload_n 0, 1) := by decide +kernel
theorem dX5_overflowOf_1 : decode cX5_overflowOf 1 = .ok (.iload_n 1, 1) := by decide +kernel
theorem dX5_overflowOf_2 : decode cX5_overflowOf 2 = .ok (.invokevirtual 232, 3) := by decide +kernel
theorem dX5_overflowOf_5 : decode cX5_overflowOf 5 = .ok (.aload_n 0, 1) := by decide +kernel
theorem dX5_overflowOf_6 : decode cX5_overflowOf 6 = .ok (.getfield 12, 3) := by decide +kernel
theorem dX5_overflowOf_9 : decode cX5_overflowOf 9 = .ok (.getfield 219, 3) := by decide +kernel
theorem dX5_overflowOf_12 : decode cX5_overflowOf 12 = .ok (.iload_n 1, 1) := by decide +kernel
theorem dX5_overflowOf_13 : decode cX5_overflowOf 13 = .ok (.invokevirtual 243, 3) := by decide +kernel
theorem dX5_overflowOf_16 : decode cX5_overflowOf 16 = .ok (.ireturn, 1) := by decide +kernel
theorem dX5_overflowLeaves_0 : decode cX5_overflowLeaves 0 = .ok (.aload_n 0, 1) := by decide +kernel
theorem dX5_overflowLeaves_1 : decode cX5_overflowLeaves 1 = .ok (.iload_n 1, 1) := by decide +kernel
theorem dX5_overflowLeaves_2 : decode cX5_overflowLeaves 2 = .ok (.invokevirtual 232, 3) := by decide +kernel
theorem dX5_overflowLeaves_5 : decode cX5_overflowLeaves 5 = .ok (.aload_n 0, 1) := by decide +kernel
theorem dX5_overflowLeaves_6 : decode cX5_overflowLeaves 6 = .ok (.getfield 12, 3) := by decide +kernel
theorem dX5_overflowLeaves_9 : decode cX5_overflowLeaves 9 = .ok (.getfield 219, 3) := by decide +kernel
theorem dX5_overflowLeaves_12 : decode cX5_overflowLeaves 12 = .ok (.iload_n 1, 1) := by decide +kernel
theorem dX5_overflowLeaves_13 : decode cX5_overflowLeaves 13 = .ok (.invokevirtual 246, 3) := by decide +kernel
theorem dX5_overflowLeaves_16 : decode cX5_overflowLeaves 16 = .ok (.ireturn, 1) := by decide +kernel
theorem dX5_levels_0 : decode cX5_levels 0 = .ok (.aload_n 0, 1) := by decide +kernel
theorem dX5_levels_1 : decode cX5_levels 1 = .ok (.getfield 12, 3) := by decide +kernel
theorem dX5_levels_4 : decode cX5_levels 4 = .ok (.getfield 219, 3) := by decide +kernel
theorem dX5_levels_7 : decode cX5_levels 7 = .ok (.invokevirtual 249, 3) := by decide +kernel
theorem dX5_levels_10 : decode cX5_levels 10 = .ok (.ireturn, 1) := by decide +kernel
theorem dX5_nodesAt_0 : decode cX5_nodesAt 0 = .ok (.aload_n 0, 1) := by decide +kernel
theorem dX5_nodesAt_1 : decode cX5_nodesAt 1 = .ok (.iload_n 1, 1) := by decide +kernel
theorem dX5_nodesAt_2 : decode cX5_nodesAt 2 = .ok (.invokevirtual 252, 3) := by decide +kernel
theorem dX5_nodesAt_5 : decode cX5_nodesAt 5 = .ok (.aload_n 0, 1) := by decide +kernel
theorem dX5_nodesAt_6 : decode cX5_nodesAt 6 = .ok (.getfield 12, 3) := by decide +kernel
theorem dX5_nodesAt_9 : decode cX5_nodesAt 9 = .ok (.getfield 219, 3) := by decide +kernel
theorem dX5_nodesAt_12 : decode cX5_nodesAt 12 = .ok (.iload_n 1, 1) := by decide +kernel
theorem dX5_nodesAt_13 : decode cX5_nodesAt 13 = .ok (.invokevirtual 255, 3) := by decide +kernel
theorem dX5_nodesAt_16 : decode cX5_nodesAt 16 = .ok (.ireturn, 1) := by decide +kernel
theorem dX5_childrenOf_0 : decode cX5_childrenOf 0 = .ok (.aload_n 0, 1) := by decide +kernel
theorem dX5_childrenOf_1 : decode cX5_childrenOf 1 = .ok (.iload_n 1, 1) := by decide +kernel
theorem dX5_childrenOf_2 : decode cX5_childrenOf 2 = .ok (.invokevirtual 252, 3) := by decide +kernel
theorem dX5_childrenOf_5 : decode cX5_childrenOf 5 = .ok (.aload_n 0, 1) := by decide +kernel
theorem dX5_childrenOf_6 : decode cX5_childrenOf 6 = .ok (.iload_n 1, 1) := by decide +kernel
theorem dX5_childrenOf_7 : decode cX5_childrenOf 7 = .ok (.iload_n 2, 1) := by decide +kernel
theorem dX5_childrenOf_8 : decode cX5_childrenOf 8 = .ok (.invokevirtual 258, 3) := by decide +kernel
theorem dX5_childrenOf_11 : decode cX5_childrenOf 11 = .ok (.aload_n 0, 1) := by decide +kernel
theorem dX5_childrenOf_12 : decode cX5_childrenOf 12 = .ok (.getfield 12, 3) := by decide +kernel
theorem dX5_childrenOf_15 : decode cX5_childrenOf 15 = .ok (.getfield 219, 3) := by decide +kernel
theorem dX5_childrenOf_18 : decode cX5_childrenOf 18 = .ok (.iload_n 1, 1) := by decide +kernel
theorem dX5_childrenOf_19 : decode cX5_childrenOf 19 = .ok (.iload_n 2, 1) := by decide +kernel
theorem dX5_childrenOf_20 : decode cX5_childrenOf 20 = .ok (.invokevirtual 261, 3) := by decide +kernel
theorem dX5_childrenOf_23 : decode cX5_childrenOf 23 = .ok (.ireturn, 1) := by decide +kernel
theorem dX5_boundOf_0 : decode cX5_boundOf 0 = .ok (.aload_n 0, 1) := by decide +kernel
theorem dX5_boundOf_1 : decode cX5_boundOf 1 = .ok (.iload_n 1, 1) := by decide +kernel
theorem dX5_boundOf_2 : decode cX5_boundOf 2 = .ok (.invokevirtual 252, 3) := by decide +kernel
theorem dX5_boundOf_5 : decode cX5_boundOf 5 = .ok (.aload_n 0, 1) := by decide +kernel
theorem dX5_boundOf_6 : decode cX5_boundOf 6 = .ok (.iload_n 1, 1) := by decide +kernel
theorem dX5_boundOf_7 : decode cX5_boundOf 7 = .ok (.iload_n 2, 1) := by decide +kernel
theorem dX5_boundOf_8 : decode cX5_boundOf 8 = .ok (.invokevirtual 258, 3) := by decide +kernel
theorem dX5_boundOf_11 : decode cX5_boundOf 11 = .ok (.aload_n 0, 1) := by decide +kernel
theorem dX5_boundOf_12 : decode cX5_boundOf 12 = .ok (.getfield 12, 3) := by decide +kernel
theorem dX5_boundOf_15 : decode cX5_boundOf 15 = .ok (.getfield 219, 3) := by decide +kernel
theorem dX5_boundOf_18 : decode cX5_boundOf 18 = .ok (.iload_n 1, 1) := by decide +kernel
theorem dX5_boundOf_19 : decode cX5_boundOf 19 = .ok (.iload_n 2, 1) := by decide +kernel
theorem dX5_boundOf_20 : decode cX5_boundOf 20 = .ok (.invokevirtual 264, 3) := by decide +kernel
theorem dX5_boundOf_23 : decode cX5_boundOf 23 = .ok (.ireturn, 1) := by decide +kernel
theorem dX5_leafFor_0 : decode cX5_leafFor 0 = .ok (.iload_n 1, 1) := by decide +kernel
theorem dX5_leafFor_1 : decode cX5_leafFor 1 = .ok (.invokestatic 44, 3) := by decide +kernel
theorem dX5_leafFor_4 : decode cX5_leafFor 4 = .ok (.aload_n 0, 1) := by decide +kernel
theorem dX5_leafFor_5 : decode cX5_leafFor 5 = .ok (.getfield 12, 3) := by decide +kernel
theorem dX5_leafFor_8 : decode cX5_leafFor 8 = .ok (.getfield 219, 3) := by decide +kernel
theorem dX5_leafFor_11 : decode cX5_leafFor 11 = .ok (.iload_n 1, 1) := by decide +kernel
theorem dX5_leafFor_12 : decode cX5_leafFor 12 = .ok (.invokevirtual 267, 3) := by decide +kernel
theorem dX5_leafFor_15 : decode cX5_leafFor 15 = .ok (.istore_n 2, 1) := by decide +kernel
theorem dX5_leafFor_16 : decode cX5_leafFor 16 = .ok (.iload_n 2, 1) := by decide +kernel
theorem dX5_leafFor_17 : decode cX5_leafFor 17 = .ok (.iconst (-1), 1) := by decide +kernel
theorem dX5_leafFor_18 : decode cX5_leafFor 18 = .ok (.if_icmp .ne 14, 3) := by decide +kernel
theorem dX5_leafFor_21 : decode cX5_leafFor 21 = .ok (.new 108, 3) := by decide +kernel
theorem dX5_leafFor_24 : decode cX5_leafFor 24 = .ok (.dup, 1) := by decide +kernel
theorem dX5_leafFor_25 : decode cX5_leafFor 25 = .ok (.ldc_w 270, 3) := by decide +kernel
theorem dX5_leafFor_28 : decode cX5_leafFor 28 = .ok (.invokespecial 112, 3) := by decide +kernel
theorem dX5_leafFor_31 : decode cX5_leafFor 31 = .ok (.athrow, 1) := by decide +kernel
theorem dX5_leafFor_32 : decode cX5_leafFor 32 = .ok (.iload_n 2, 1) := by decide +kernel
theorem dX5_leafFor_33 : decode cX5_leafFor 33 = .ok (.ireturn, 1) := by decide +kernel
theorem dX5_builds_0 : decode cX5_builds 0 = .ok (.aload_n 0, 1) := by decide +kernel
theorem dX5_builds_1 : decode cX5_builds 1 = .ok (.getfield 12, 3) := by decide +kernel
theorem dX5_builds_4 : decode cX5_builds 4 = .ok (.getfield 272, 3) := by decide +kernel
theorem dX5_builds_7 : decode cX5_builds 7 = .ok (.ireturn, 1) := by decide +kernel
theorem dX5_written_0 : decode cX5_written 0 = .ok (.aload_n 0, 1) := by decide +kernel
theorem dX5_written_1 : decode cX5_written 1 = .ok (.getfield 12, 3) := by decide +kernel
theorem dX5_written_4 : decode cX5_written 4 = .ok (.getfield 275, 3) := by decide +kernel
theorem dX5_written_7 : decode cX5_written 7 = .ok (.ireturn, 1) := by decide +kernel
theorem dX5_told_0 : decode cX5_told 0 = .ok (.aload_n 0, 1) := by decide +kernel
theorem dX5_told_1 : decode cX5_told 1 = .ok (.getfield 12, 3) := by decide +kernel
theorem dX5_told_4 : decode cX5_told 4 = .ok (.invokevirtual 278, 3) := by decide +kernel
theorem dX5_told_7 : decode cX5_told 7 = .ok (.ireturn, 1) := by decide +kernel
theorem dX5_overflowShare_0 : decode cX5_overflowShare 0 = .ok (.aload_n 0, 1) := by decide +kernel
theorem dX5_overflowShare_1 : decode cX5_overflowShare 1 = .ok (.getfield 12, 3) := by decide +kernel
theorem dX5_overflowShare_4 : decode cX5_overflowShare 4 = .ok (.getfield 219, 3) := by decide +kernel
theorem dX5_overflowShare_7 : decode cX5_overflowShare 7 = .ok (.invokevirtual 281, 3) := by decide +kernel
theorem dX5_overflowShare_10 : decode cX5_overflowShare 10 = .ok (.dreturn, 1) := by decide +kernel
theorem dX5_meanPages_0 : decode cX5_meanPages 0 = .ok (.aload_n 0, 1) := by decide +kernel
theorem dX5_meanPages_1 : decode cX5_meanPages 1 = .ok (.aload_n 0, 1) := by decide +kernel
theorem dX5_meanPages_2 : decode cX5_meanPages 2 = .ok (.getfield 40, 3) := by decide +kernel
theorem dX5_meanPages_5 : decode cX5_meanPages 5 = .ok (.aload_n 0, 1) := by decide +kernel
theorem dX5_meanPages_6 : decode cX5_meanPages 6 = .ok (.getfield 12, 3) := by decide +kernel
theorem dX5_meanPages_9 : decode cX5_meanPages 9 = .ok (.invokevirtual 129, 3) := by decide +kernel
theorem dX5_meanPages_12 : decode cX5_meanPages 12 = .ok (.invokevirtual 285, 3) := by decide +kernel
theorem dX5_meanPages_15 : decode cX5_meanPages 15 = .ok (.dreturn, 1) := by decide +kernel
theorem dX5_worstPages_0 : decode cX5_worstPages 0 = .ok (.aload_n 0, 1) := by decide +kernel
theorem dX5_worstPages_1 : decode cX5_worstPages 1 = .ok (.aload_n 0, 1) := by decide +kernel
theorem dX5_worstPages_2 : decode cX5_worstPages 2 = .ok (.getfield 40, 3) := by decide +kernel
theorem dX5_worstPages_5 : decode cX5_worstPages 5 = .ok (.aload_n 0, 1) := by decide +kernel
theorem dX5_worstPages_6 : decode cX5_worstPages 6 = .ok (.getfield 12, 3) := by decide +kernel
theorem dX5_worstPages_9 : decode cX5_worstPages 9 = .ok (.invokevirtual 129, 3) := by decide +kernel
theorem dX5_worstPages_12 : decode cX5_worstPages 12 = .ok (.invokevirtual 289, 3) := by decide +kernel
theorem dX5_worstPages_15 : decode cX5_worstPages 15 = .ok (.ireturn, 1) := by decide +kernel
theorem dX5_leavesIfBuilt_0 : decode cX5_leavesIfBuilt 0 = .ok (.iload_n 1, 1) := by decide +kernel
theorem dX5_leavesIfBuilt_1 : decode cX5_leavesIfBuilt 1 = .ok (.invokestatic 71, 3) := by decide +kernel
theorem dX5_leavesIfBuilt_4 : decode cX5_leavesIfBuilt 4 = .ok (.aload_n 0, 1) := by decide +kernel
theorem dX5_leavesIfBuilt_5 : decode cX5_leavesIfBuilt 5 = .ok (.getfield 12, 3) := by decide +kernel
theorem dX5_leavesIfBuilt_8 : decode cX5_leavesIfBuilt 8 = .ok (.aload_n 0, 1) := by decide +kernel
theorem dX5_leavesIfBuilt_9 : decode cX5_leavesIfBuilt 9 = .ok (.getfield 40, 3) := by decide +kernel
theorem dX5_leavesIfBuilt_12 : decode cX5_leavesIfBuilt 12 = .ok (.aload_n 0, 1) := by decide +kernel
theorem dX5_leavesIfBuilt_13 : decode cX5_leavesIfBuilt 13 = .ok (.getfield 12, 3) := by decide +kernel
theorem dX5_leavesIfBuilt_16 : decode cX5_leavesIfBuilt 16 = .ok (.invokevirtual 129, 3) := by decide +kernel
theorem dX5_leavesIfBuilt_19 : decode cX5_leavesIfBuilt 19 = .ok (.getfield 133, 3) := by decide +kernel
theorem dX5_leavesIfBuilt_22 : decode cX5_leavesIfBuilt 22 = .ok (.iload_n 1, 1) := by decide +kernel
theorem dX5_leavesIfBuilt_23 : decode cX5_leavesIfBuilt 23 = .ok (.invokevirtual 293, 3) := by decide +kernel
theorem dX5_leavesIfBuilt_26 : decode cX5_leavesIfBuilt 26 = .ok (.ireturn, 1) := by decide +kernel
theorem dX5_levelsIfBuilt_0 : decode cX5_levelsIfBuilt 0 = .ok (.iload_n 1, 1) := by decide +kernel
theorem dX5_levelsIfBuilt_1 : decode cX5_levelsIfBuilt 1 = .ok (.invokestatic 71, 3) := by decide +kernel
theorem dX5_levelsIfBuilt_4 : decode cX5_levelsIfBuilt 4 = .ok (.aload_n 0, 1) := by decide +kernel
theorem dX5_levelsIfBuilt_5 : decode cX5_levelsIfBuilt 5 = .ok (.getfield 12, 3) := by decide +kernel
theorem dX5_levelsIfBuilt_8 : decode cX5_levelsIfBuilt 8 = .ok (.aload_n 0, 1) := by decide +kernel
theorem dX5_levelsIfBuilt_9 : decode cX5_levelsIfBuilt 9 = .ok (.getfield 40, 3) := by decide +kernel
theorem dX5_levelsIfBuilt_12 : decode cX5_levelsIfBuilt 12 = .ok (.aload_n 0, 1) := by decide +kernel
theorem dX5_levelsIfBuilt_13 : decode cX5_levelsIfBuilt 13 = .ok (.getfield 12, 3) := by decide +kernel
theorem dX5_levelsIfBuilt_16 : decode cX5_levelsIfBuilt 16 = .ok (.invokevirtual 129, 3) := by decide +kernel
theorem dX5_levelsIfBuilt_19 : decode cX5_levelsIfBuilt 19 = .ok (.getfield 133, 3) := by decide +kernel
theorem dX5_levelsIfBuilt_22 : decode cX5_levelsIfBuilt 22 = .ok (.iload_n 1, 1) := by decide +kernel
theorem dX5_levelsIfBuilt_23 : decode cX5_levelsIfBuilt 23 = .ok (.invokevirtual 296, 3) := by decide +kernel
theorem dX5_levelsIfBuilt_26 : decode cX5_levelsIfBuilt 26 = .ok (.ireturn, 1) := by decide +kernel
theorem dX5_digest_0 : decode cX5_digest 0 = .ok (.aload_n 0, 1) := by decide +kernel
theorem dX5_digest_1 : decode cX5_digest 1 = .ok (.getfield 40, 3) := by decide +kernel
theorem dX5_digest_4 : decode cX5_digest 4 = .ok (.aload_n 0, 1) := by decide +kernel
theorem dX5_digest_5 : decode cX5_digest 5 = .ok (.getfield 12, 3) := by decide +kernel
theorem dX5_digest_8 : decode cX5_digest 8 = .ok (.invokevirtual 129, 3) := by decide +kernel
theorem dX5_digest_11 : decode cX5_digest 11 = .ok (.astore_n 1, 1) := by decide +kernel
theorem dX5_digest_12 : decode cX5_digest 12 = .ok (.aload_n 0, 1) := by decide +kernel
theorem dX5_digest_13 : decode cX5_digest 13 = .ok (.ldc2_w 299, 3) := by decide +kernel
theorem dX5_digest_16 : decode cX5_digest 16 = .ok (.invokevirtual 301, 3) := by decide +kernel
theorem dX5_digest_19 : decode cX5_digest 19 = .ok (.lstore_n 2, 1) := by decide +kernel
theorem dX5_digest_20 : decode cX5_digest 20 = .ok (.aload_n 0, 1) := by decide +kernel
theorem dX5_digest_21 : decode cX5_digest 21 = .ok (.lload_n 2, 1) := by decide +kernel
theorem dX5_digest_22 : decode cX5_digest 22 = .ok (.invokevirtual 305, 3) := by decide +kernel
theorem dX5_digest_25 : decode cX5_digest 25 = .ok (.lstore_n 2, 1) := by decide +kernel
theorem dX5_digest_26 : decode cX5_digest 26 = .ok (.aload_n 0, 1) := by decide +kernel
theorem dX5_digest_27 : decode cX5_digest 27 = .ok (.lload_n 2, 1) := by decide +kernel
theorem dX5_digest_28 : decode cX5_digest 28 = .ok (.invokevirtual 308, 3) := by decide +kernel
theorem dX5_digest_31 : decode cX5_digest 31 = .ok (.lstore_n 2, 1) := by decide +kernel
theorem dX5_digest_32 : decode cX5_digest 32 = .ok (.aload_n 0, 1) := by decide +kernel
theorem dX5_digest_33 : decode cX5_digest 33 = .ok (.lload_n 2, 1) := by decide +kernel
theorem dX5_digest_34 : decode cX5_digest 34 = .ok (.aload_n 1, 1) := by decide +kernel
theorem dX5_digest_35 : decode cX5_digest 35 = .ok (.invokevirtual 311, 3) := by decide +kernel
theorem dX5_digest_38 : decode cX5_digest 38 = .ok (.lstore_n 2, 1) := by decide +kernel
theorem dX5_digest_39 : decode cX5_digest 39 = .ok (.aload_n 0, 1) := by decide +kernel
theorem dX5_digest_40 : decode cX5_digest 40 = .ok (.lload_n 2, 1) := by decide +kernel
theorem dX5_digest_41 : decode cX5_digest 41 = .ok (.aload_n 1, 1) := by decide +kernel
theorem dX5_digest_42 : decode cX5_digest 42 = .ok (.invokevirtual 315, 3) := by decide +kernel
theorem dX5_digest_45 : decode cX5_digest 45 = .ok (.lstore_n 2, 1) := by decide +kernel
theorem dX5_digest_46 : decode cX5_digest 46 = .ok (.aload_n 0, 1) := by decide +kernel
theorem dX5_digest_47 : decode cX5_digest 47 = .ok (.lload_n 2, 1) := by decide +kernel
theorem dX5_digest_48 : decode cX5_digest 48 = .ok (.aload_n 1, 1) := by decide +kernel
theorem dX5_digest_49 : decode cX5_digest 49 = .ok (.invokevirtual 318, 3) := by decide +kernel
theorem dX5_digest_52 : decode cX5_digest 52 = .ok (.lstore_n 2, 1) := by decide +kernel
theorem dX5_digest_53 : decode cX5_digest 53 = .ok (.aload_n 0, 1) := by decide +kernel
theorem dX5_digest_54 : decode cX5_digest 54 = .ok (.lload_n 2, 1) := by decide +kernel
theorem dX5_digest_55 : decode cX5_digest 55 = .ok (.invokevirtual 321, 3) := by decide +kernel
theorem dX5_digest_58 : decode cX5_digest 58 = .ok (.lreturn, 1) := by decide +kernel
theorem dX5_requireKey_0 : decode cX5_requireKey 0 = .ok (.iload_n 0, 1) := by decide +kernel
theorem dX5_requireKey_1 : decode cX5_requireKey 1 = .ok (.ifCond .lt 10, 3) := by decide +kernel
theorem dX5_requireKey_4 : decode cX5_requireKey 4 = .ok (.iload_n 0, 1) := by decide +kernel
theorem dX5_requireKey_5 : decode cX5_requireKey 5 = .ok (.sipush 9999, 3) := by decide +kernel
theorem dX5_requireKey_8 : decode cX5_requireKey 8 = .ok (.if_icmp .le 14, 3) := by decide +kernel
theorem dX5_requireKey_11 : decode cX5_requireKey 11 = .ok (.new 84, 3) := by decide +kernel
theorem dX5_requireKey_14 : decode cX5_requireKey 14 = .ok (.dup, 1) := by decide +kernel
theorem dX5_requireKey_15 : decode cX5_requireKey 15 = .ok (.ldc_w 324, 3) := by decide +kernel
theorem dX5_requireKey_18 : decode cX5_requireKey 18 = .ok (.invokespecial 88, 3) := by decide +kernel
theorem dX5_requireKey_21 : decode cX5_requireKey 21 = .ok (.athrow, 1) := by decide +kernel
theorem dX5_requireKey_22 : decode cX5_requireKey 22 = .ok (.return_, 1) := by decide +kernel
theorem dX5_requireValue_0 : decode cX5_requireValue 0 = .ok (.iload_n 0, 1) := by decide +kernel
theorem dX5_requireValue_1 : decode cX5_requireValue 1 = .ok (.ifCond .lt 9, 3) := by decide +kernel
theorem dX5_requireValue_4 : decode cX5_requireValue 4 = .ok (.iload_n 0, 1) := by decide +kernel
theorem dX5_requireValue_5 : decode cX5_requireValue 5 = .ok (.bipush 99, 2) := by decide +kernel
theorem dX5_requireValue_7 : decode cX5_requireValue 7 = .ok (.if_icmp .le 14, 3) := by decide +kernel
theorem dX5_requireValue_10 : decode cX5_requireValue 10 = .ok (.new 84, 3) := by decide +kernel
theorem dX5_requireValue_13 : decode cX5_requireValue 13 = .ok (.dup, 1) := by decide +kernel
theorem dX5_requireValue_14 : decode cX5_requireValue 14 = .ok (.ldc_w 326, 3) := by decide +kernel
theorem dX5_requireValue_17 : decode cX5_requireValue 17 = .ok (.invokespecial 88, 3) := by decide +kernel
theorem dX5_requireValue_20 : decode cX5_requireValue 20 = .ok (.athrow, 1) := by decide +kernel
theorem dX5_requireValue_21 : decode cX5_requireValue 21 = .ok (.return_, 1) := by decide +kernel
theorem dX5_requireFill_0 : decode cX5_requireFill 0 = .ok (.iload_n 0, 1) := by decide +kernel
theorem dX5_requireFill_1 : decode cX5_requireFill 1 = .ok (.bipush 50, 2) := by decide +kernel
theorem dX5_requireFill_3 : decode cX5_requireFill 3 = .ok (.if_icmp .lt 9, 3) := by decide +kernel
theorem dX5_requireFill_6 : decode cX5_requireFill 6 = .ok (.iload_n 0, 1) := by decide +kernel
theorem dX5_requireFill_7 : decode cX5_requireFill 7 = .ok (.bipush 100, 2) := by decide +kernel
theorem dX5_requireFill_9 : decode cX5_requireFill 9 = .ok (.if_icmp .le 14, 3) := by decide +kernel
theorem dX5_requireFill_12 : decode cX5_requireFill 12 = .ok (.new 84, 3) := by decide +kernel
theorem dX5_requireFill_15 : decode cX5_requireFill 15 = .ok (.dup, 1) := by decide +kernel
theorem dX5_requireFill_16 : decode cX5_requireFill 16 = .ok (.ldc_w 328, 3) := by decide +kernel
theorem dX5_requireFill_19 : decode cX5_requireFill 19 = .ok (.invokespecial 88, 3) := by decide +kernel
theorem dX5_requireFill_22 : decode cX5_requireFill 22 = .ok (.athrow, 1) := by decide +kernel
theorem dX5_requireFill_23 : decode cX5_requireFill 23 = .ok (.return_, 1) := by decide +kernel
theorem dX5_requireRange_0 : decode cX5_requireRange 0 = .ok (.iload_n 0, 1) := by decide +kernel
theorem dX5_requireRange_1 : decode cX5_requireRange 1 = .ok (.ifCond .lt 22, 3) := by decide +kernel
theorem dX5_requireRange_4 : decode cX5_requireRange 4 = .ok (.iload_n 0, 1) := by decide +kernel
theorem dX5_requireRange_5 : decode cX5_requireRange 5 = .ok (.sipush 9999, 3) := by decide +kernel
theorem dX5_requireRange_8 : decode cX5_requireRange 8 = .ok (.if_icmp .gt 15, 3) := by decide +kernel
theorem dX5_requireRange_11 : decode cX5_requireRange 11 = .ok (.iload_n 1, 1) := by decide +kernel
theorem dX5_requireRange_12 : decode cX5_requireRange 12 = .ok (.iload_n 0, 1) := by decide +kernel
theorem dX5_requireRange_13 : decode cX5_requireRange 13 = .ok (.if_icmp .lt 10, 3) := by decide +kernel
theorem dX5_requireRange_16 : decode cX5_requireRange 16 = .ok (.iload_n 1, 1) := by decide +kernel
theorem dX5_requireRange_17 : decode cX5_requireRange 17 = .ok (.sipush 9999, 3) := by decide +kernel
theorem dX5_requireRange_20 : decode cX5_requireRange 20 = .ok (.if_icmp .le 14, 3) := by decide +kernel
theorem dX5_requireRange_23 : decode cX5_requireRange 23 = .ok (.new 84, 3) := by decide +kernel
theorem dX5_requireRange_26 : decode cX5_requireRange 26 = .ok (.dup, 1) := by decide +kernel
theorem dX5_requireRange_27 : decode cX5_requireRange 27 = .ok (.ldc_w 330, 3) := by decide +kernel
theorem dX5_requireRange_30 : decode cX5_requireRange 30 = .ok (.invokespecial 88, 3) := by decide +kernel
theorem dX5_requireRange_33 : decode cX5_requireRange 33 = .ok (.athrow, 1) := by decide +kernel
theorem dX5_requireRange_34 : decode cX5_requireRange 34 = .ok (.return_, 1) := by decide +kernel
theorem dX5_requireSlot_0 : decode cX5_requireSlot 0 = .ok (.iload_n 0, 1) := by decide +kernel
theorem dX5_requireSlot_1 : decode cX5_requireSlot 1 = .ok (.ifCond .lt 8, 3) := by decide +kernel
theorem dX5_requireSlot_4 : decode cX5_requireSlot 4 = .ok (.iload_n 0, 1) := by decide +kernel
theorem dX5_requireSlot_5 : decode cX5_requireSlot 5 = .ok (.iconst 2, 1) := by decide +kernel
theorem dX5_requireSlot_6 : decode cX5_requireSlot 6 = .ok (.if_icmp .lt 14, 3) := by decide +kernel
theorem dX5_requireSlot_9 : decode cX5_requireSlot 9 = .ok (.new 84, 3) := by decide +kernel
theorem dX5_requireSlot_12 : decode cX5_requireSlot 12 = .ok (.dup, 1) := by decide +kernel
theorem dX5_requireSlot_13 : decode cX5_requireSlot 13 = .ok (.ldc_w 332, 3) := by decide +kernel
theorem dX5_requireSlot_16 : decode cX5_requireSlot 16 = .ok (.invokespecial 88, 3) := by decide +kernel
theorem dX5_requireSlot_19 : decode cX5_requireSlot 19 = .ok (.athrow, 1) := by decide +kernel
theorem dX5_requireSlot_20 : decode cX5_requireSlot 20 = .ok (.return_, 1) := by decide +kernel
theorem dX5_requireLeaf_0 : decode cX5_requireLeaf 0 = .ok (.iload_n 1, 1) := by decide +kernel
theorem dX5_requireLeaf_1 : decode cX5_requireLeaf 1 = .ok (.ifCond .lt 17, 3) := by decide +kernel
theorem dX5_requireLeaf_4 : decode cX5_requireLeaf 4 = .ok (.iload_n 1, 1) := by decide +kernel
theorem dX5_requireLeaf_5 : decode cX5_requireLeaf 5 = .ok (.aload_n 0, 1) := by decide +kernel
theorem dX5_requireLeaf_6 : decode cX5_requireLeaf 6 = .ok (.getfield 12, 3) := by decide +kernel
theorem dX5_requireLeaf_9 : decode cX5_requireLeaf 9 = .ok (.getfield 219, 3) := by decide +kernel
theorem dX5_requireLeaf_12 : decode cX5_requireLeaf 12 = .ok (.getfield 229, 3) := by decide +kernel
theorem dX5_requireLeaf_15 : decode cX5_requireLeaf 15 = .ok (.if_icmp .lt 14, 3) := by decide +kernel
theorem dX5_requireLeaf_18 : decode cX5_requireLeaf 18 = .ok (.new 192, 3) := by decide +kernel
theorem dX5_requireLeaf_21 : decode cX5_requireLeaf 21 = .ok (.dup, 1) := by decide +kernel
theorem dX5_requireLeaf_22 : decode cX5_requireLeaf 22 = .ok (.ldc_w 334, 3) := by decide +kernel
theorem dX5_requireLeaf_25 : decode cX5_requireLeaf 25 = .ok (.invokespecial 196, 3) := by decide +kernel
theorem dX5_requireLeaf_28 : decode cX5_requireLeaf 28 = .ok (.athrow, 1) := by decide +kernel
theorem dX5_requireLeaf_29 : decode cX5_requireLeaf 29 = .ok (.return_, 1) := by decide +kernel
theorem dX5_requireLevel_0 : decode cX5_requireLevel 0 = .ok (.iload_n 1, 1) := by decide +kernel
theorem dX5_requireLevel_1 : decode cX5_requireLevel 1 = .ok (.ifCond .lt 17, 3) := by decide +kernel
theorem dX5_requireLevel_4 : decode cX5_requireLevel 4 = .ok (.iload_n 1, 1) := by decide +kernel
theorem dX5_requireLevel_5 : decode cX5_requireLevel 5 = .ok (.aload_n 0, 1) := by decide +kernel
theorem dX5_requireLevel_6 : decode cX5_requireLevel 6 = .ok (.getfield 12, 3) := by decide +kernel
theorem dX5_requireLevel_9 : decode cX5_requireLevel 9 = .ok (.getfield 219, 3) := by decide +kernel
theorem dX5_requireLevel_12 : decode cX5_requireLevel 12 = .ok (.invokevirtual 249, 3) := by decide +kernel
theorem dX5_requireLevel_15 : decode cX5_requireLevel 15 = .ok (.if_icmp .lt 14, 3) := by decide +kernel
theorem dX5_requireLevel_18 : decode cX5_requireLevel 18 = .ok (.new 192, 3) := by decide +kernel
theorem dX5_requireLevel_21 : decode cX5_requireLevel 21 = .ok (.dup, 1) := by decide +kernel
theorem dX5_requireLevel_22 : decode cX5_requireLevel 22 = .ok (.ldc_w 336, 3) := by decide +kernel
theorem dX5_requireLevel_25 : decode cX5_requireLevel 25 = .ok (.invokespecial 196, 3) := by decide +kernel
theorem dX5_requireLevel_28 : decode cX5_requireLevel 28 = .ok (.athrow, 1) := by decide +kernel
theorem dX5_requireLevel_29 : decode cX5_requireLevel 29 = .ok (.return_, 1) := by decide +kernel
theorem dX5_requireNode_0 : decode cX5_requireNode 0 = .ok (.iload_n 2, 1) := by decide +kernel
theorem dX5_requireNode_1 : decode cX5_requireNode 1 = .ok (.ifCond .lt 18, 3) := by decide +kernel
theorem dX5_requireNode_4 : decode cX5_requireNode 4 = .ok (.iload_n 2, 1) := by decide +kernel
theorem dX5_requireNode_5 : decode cX5_requireNode 5 = .ok (.aload_n 0, 1) := by decide +kernel
theorem dX5_requireNode_6 : decode cX5_requireNode 6 = .ok (.getfield 12, 3) := by decide +kernel
theorem dX5_requireNode_9 : decode cX5_requireNode 9 = .ok (.getfield 219, 3) := by decide +kernel
theorem dX5_requireNode_12 : decode cX5_requireNode 12 = .ok (.iload_n 1, 1) := by decide +kernel
theorem dX5_requireNode_13 : decode cX5_requireNode 13 = .ok (.invokevirtual 255, 3) := by decide +kernel
theorem dX5_requireNode_16 : decode cX5_requireNode 16 = .ok (.if_icmp .lt 14, 3) := by decide +kernel
theorem dX5_requireNode_19 : decode cX5_requireNode 19 = .ok (.new 192, 3) := by decide +kernel
theorem dX5_requireNode_22 : decode cX5_requireNode 22 = .ok (.dup, 1) := by decide +kernel
theorem dX5_requireNode_23 : decode cX5_requireNode 23 = .ok (.ldc_w 338, 3) := by decide +kernel
theorem dX5_requireNode_26 : decode cX5_requireNode 26 = .ok (.invokespecial 196, 3) := by decide +kernel
theorem dX5_requireNode_29 : decode cX5_requireNode 29 = .ok (.athrow, 1) := by decide +kernel
theorem dX5_requireNode_30 : decode cX5_requireNode 30 = .ok (.return_, 1) := by decide +kernel
theorem dX5_saveUnlessRefused_0 : decode cX5_saveUnlessRefused 0 = .ok (.iload_n 1, 1) := by decide +kernel
theorem dX5_saveUnlessRefused_1 : decode cX5_saveUnlessRefused 1 = .ok (.iconst (-1), 1) := by decide +kernel
theorem dX5_saveUnlessRefused_2 : decode cX5_saveUnlessRefused 2 = .ok (.if_icmp .ne 14, 3) := by decide +kernel
theorem dX5_saveUnlessRefused_5 : decode cX5_saveUnlessRefused 5 = .ok (.new 108, 3) := by decide +kernel
theorem dX5_saveUnlessRefused_8 : decode cX5_saveUnlessRefused 8 = .ok (.dup, 1) := by decide +kernel
theorem dX5_saveUnlessRefused_9 : decode cX5_saveUnlessRefused 9 = .ok (.ldc_w 340, 3) := by decide +kernel
theorem dX5_saveUnlessRefused_12 : decode cX5_saveUnlessRefused 12 = .ok (.invokespecial 112, 3) := by decide +kernel
theorem dX5_saveUnlessRefused_15 : decode cX5_saveUnlessRefused 15 = .ok (.athrow, 1) := by decide +kernel
theorem dX5_saveUnlessRefused_16 : decode cX5_saveUnlessRefused 16 = .ok (.aload_n 0, 1) := by decide +kernel
theorem dX5_saveUnlessRefused_17 : decode cX5_saveUnlessRefused 17 = .ok (.invokevirtual 95, 3) := by decide +kernel
theorem dX5_saveUnlessRefused_20 : decode cX5_saveUnlessRefused 20 = .ok (.iload_n 1, 1) := by decide +kernel
theorem dX5_saveUnlessRefused_21 : decode cX5_saveUnlessRefused 21 = .ok (.ireturn, 1) := by decide +kernel
theorem dX5_saveSpare_0 : decode cX5_saveSpare 0 = .ok (.aload_n 0, 1) := by decide +kernel
theorem dX5_saveSpare_1 : decode cX5_saveSpare 1 = .ok (.getfield 157, 3) := by decide +kernel
theorem dX5_saveSpare_4 : decode cX5_saveSpare 4 = .ok (.aload_n 0, 1) := by decide +kernel
theorem dX5_saveSpare_5 : decode cX5_saveSpare 5 = .ok (.getfield 19, 3) := by decide +kernel
theorem dX5_saveSpare_8 : decode cX5_saveSpare 8 = .ok (.arraylength, 1) := by decide +kernel
theorem dX5_saveSpare_9 : decode cX5_saveSpare 9 = .ok (.if_icmp .lt 7, 3) := by decide +kernel
theorem dX5_saveSpare_12 : decode cX5_saveSpare 12 = .ok (.aload_n 0, 1) := by decide +kernel
theorem dX5_saveSpare_13 : decode cX5_saveSpare 13 = .ok (.invokevirtual 342, 3) := by decide +kernel
theorem dX5_saveSpare_16 : decode cX5_saveSpare 16 = .ok (.aload_n 0, 1) := by decide +kernel
theorem dX5_saveSpare_17 : decode cX5_saveSpare 17 = .ok (.getfield 157, 3) := by decide +kernel
theorem dX5_saveSpare_20 : decode cX5_saveSpare 20 = .ok (.ifCond .lt 15, 3) := by decide +kernel
theorem dX5_saveSpare_23 : decode cX5_saveSpare 23 = .ok (.aload_n 0, 1) := by decide +kernel
theorem dX5_saveSpare_24 : decode cX5_saveSpare 24 = .ok (.getfield 157, 3) := by decide +kernel
theorem dX5_saveSpare_27 : decode cX5_saveSpare 27 = .ok (.aload_n 0, 1) := by decide +kernel
theorem dX5_saveSpare_28 : decode cX5_saveSpare 28 = .ok (.getfield 19, 3) := by decide +kernel
theorem dX5_saveSpare_31 : decode cX5_saveSpare 31 = .ok (.arraylength, 1) := by decide +kernel
theorem dX5_saveSpare_32 : decode cX5_saveSpare 32 = .ok (.if_icmp .lt 4, 3) := by decide +kernel
theorem dX5_saveSpare_35 : decode cX5_saveSpare 35 = .ok (.return_, 1) := by decide +kernel
theorem dX5_saveSpare_36 : decode cX5_saveSpare 36 = .ok (.aload_n 0, 1) := by decide +kernel
theorem dX5_saveSpare_37 : decode cX5_saveSpare 37 = .ok (.getfield 19, 3) := by decide +kernel
theorem dX5_saveSpare_40 : decode cX5_saveSpare 40 = .ok (.aload_n 0, 1) := by decide +kernel
theorem dX5_saveSpare_41 : decode cX5_saveSpare 41 = .ok (.getfield 157, 3) := by decide +kernel
theorem dX5_saveSpare_44 : decode cX5_saveSpare 44 = .ok (.aaload, 1) := by decide +kernel
theorem dX5_saveSpare_45 : decode cX5_saveSpare 45 = .ok (.astore_n 1, 1) := by decide +kernel
theorem dX5_saveSpare_46 : decode cX5_saveSpare 46 = .ok (.aload_n 0, 1) := by decide +kernel
theorem dX5_saveSpare_47 : decode cX5_saveSpare 47 = .ok (.getfield 19, 3) := by decide +kernel
theorem dX5_saveSpare_50 : decode cX5_saveSpare 50 = .ok (.aload_n 0, 1) := by decide +kernel
theorem dX5_saveSpare_51 : decode cX5_saveSpare 51 = .ok (.getfield 157, 3) := by decide +kernel
theorem dX5_saveSpare_54 : decode cX5_saveSpare 54 = .ok (.aload_n 0, 1) := by decide +kernel
theorem dX5_saveSpare_55 : decode cX5_saveSpare 55 = .ok (.getfield 16, 3) := by decide +kernel
theorem dX5_saveSpare_58 : decode cX5_saveSpare 58 = .ok (.aastore, 1) := by decide +kernel
theorem dX5_saveSpare_59 : decode cX5_saveSpare 59 = .ok (.aload_n 0, 1) := by decide +kernel
theorem dX5_saveSpare_60 : decode cX5_saveSpare 60 = .ok (.dup, 1) := by decide +kernel
theorem dX5_saveSpare_61 : decode cX5_saveSpare 61 = .ok (.getfield 157, 3) := by decide +kernel
theorem dX5_saveSpare_64 : decode cX5_saveSpare 64 = .ok (.iconst 1, 1) := by decide +kernel
theorem dX5_saveSpare_65 : decode cX5_saveSpare 65 = .ok (.iadd, 1) := by decide +kernel
theorem dX5_saveSpare_66 : decode cX5_saveSpare 66 = .ok (.putfield 157, 3) := by decide +kernel
theorem dX5_saveSpare_69 : decode cX5_saveSpare 69 = .ok (.aload_n 0, 1) := by decide +kernel
theorem dX5_saveSpare_70 : decode cX5_saveSpare 70 = .ok (.aload_n 1, 1) := by decide +kernel
theorem dX5_saveSpare_71 : decode cX5_saveSpare 71 = .ok (.ifnonnull 13, 3) := by decide +kernel
theorem dX5_saveSpare_74 : decode cX5_saveSpare 74 = .ok (.new 9, 3) := by decide +kernel
theorem dX5_saveSpare_77 : decode cX5_saveSpare 77 = .ok (.dup, 1) := by decide +kernel
theorem dX5_saveSpare_78 : decode cX5_saveSpare 78 = .ok (.invokespecial 11, 3) := by decide +kernel
theorem dX5_saveSpare_81 : decode cX5_saveSpare 81 = .ok (.goto 4, 3) := by decide +kernel
theorem dX5_saveSpare_84 : decode cX5_saveSpare 84 = .ok (.aload_n 1, 1) := by decide +kernel
theorem dX5_saveSpare_85 : decode cX5_saveSpare 85 = .ok (.putfield 16, 3) := by decide +kernel
theorem dX5_saveSpare_88 : decode cX5_saveSpare 88 = .ok (.return_, 1) := by decide +kernel
theorem dX5_moveOldestBehind_0 : decode cX5_moveOldestBehind 0 = .ok (.aload_n 0, 1) := by decide +kernel
theorem dX5_moveOldestBehind_1 : decode cX5_moveOldestBehind 1 = .ok (.getfield 19, 3) := by decide +kernel
theorem dX5_moveOldestBehind_4 : decode cX5_moveOldestBehind 4 = .ok (.arraylength, 1) := by decide +kernel
theorem dX5_moveOldestBehind_5 : decode cX5_moveOldestBehind 5 = .ok (.ifCond .ne 4, 3) := by decide +kernel
theorem dX5_moveOldestBehind_8 : decode cX5_moveOldestBehind 8 = .ok (.return_, 1) := by decide +kernel
theorem dX5_moveOldestBehind_9 : decode cX5_moveOldestBehind 9 = .ok (.aload_n 0, 1) := by decide +kernel
theorem dX5_moveOldestBehind_10 : decode cX5_moveOldestBehind 10 = .ok (.getfield 19, 3) := by decide +kernel
theorem dX5_moveOldestBehind_13 : decode cX5_moveOldestBehind 13 = .ok (.iconst 0, 1) := by decide +kernel
theorem dX5_moveOldestBehind_14 : decode cX5_moveOldestBehind 14 = .ok (.aaload, 1) := by decide +kernel
theorem dX5_moveOldestBehind_15 : decode cX5_moveOldestBehind 15 = .ok (.astore_n 1, 1) := by decide +kernel
theorem dX5_moveOldestBehind_16 : decode cX5_moveOldestBehind 16 = .ok (.iconst 1, 1) := by decide +kernel
theorem dX5_moveOldestBehind_17 : decode cX5_moveOldestBehind 17 = .ok (.istore_n 2, 1) := by decide +kernel
theorem dX5_moveOldestBehind_18 : decode cX5_moveOldestBehind 18 = .ok (.iload_n 2, 1) := by decide +kernel
theorem dX5_moveOldestBehind_19 : decode cX5_moveOldestBehind 19 = .ok (.aload_n 0, 1) := by decide +kernel
theorem dX5_moveOldestBehind_20 : decode cX5_moveOldestBehind 20 = .ok (.getfield 19, 3) := by decide +kernel
theorem dX5_moveOldestBehind_23 : decode cX5_moveOldestBehind 23 = .ok (.arraylength, 1) := by decide +kernel
theorem dX5_moveOldestBehind_24 : decode cX5_moveOldestBehind 24 = .ok (.if_icmp .ge 23, 3) := by decide +kernel
theorem dX5_moveOldestBehind_27 : decode cX5_moveOldestBehind 27 = .ok (.aload_n 0, 1) := by decide +kernel
theorem dX5_moveOldestBehind_28 : decode cX5_moveOldestBehind 28 = .ok (.getfield 19, 3) := by decide +kernel
theorem dX5_moveOldestBehind_31 : decode cX5_moveOldestBehind 31 = .ok (.iload_n 2, 1) := by decide +kernel
theorem dX5_moveOldestBehind_32 : decode cX5_moveOldestBehind 32 = .ok (.iconst 1, 1) := by decide +kernel
theorem dX5_moveOldestBehind_33 : decode cX5_moveOldestBehind 33 = .ok (.isub, 1) := by decide +kernel
theorem dX5_moveOldestBehind_34 : decode cX5_moveOldestBehind 34 = .ok (.aload_n 0, 1) := by decide +kernel
theorem dX5_moveOldestBehind_35 : decode cX5_moveOldestBehind 35 = .ok (.getfield 19, 3) := by decide +kernel
theorem dX5_moveOldestBehind_38 : decode cX5_moveOldestBehind 38 = .ok (.iload_n 2, 1) := by decide +kernel
theorem dX5_moveOldestBehind_39 : decode cX5_moveOldestBehind 39 = .ok (.aaload, 1) := by decide +kernel
theorem dX5_moveOldestBehind_40 : decode cX5_moveOldestBehind 40 = .ok (.aastore, 1) := by decide +kernel
theorem dX5_moveOldestBehind_41 : decode cX5_moveOldestBehind 41 = .ok (.iinc 2 1, 3) := by decide +kernel
theorem dX5_moveOldestBehind_44 : decode cX5_moveOldestBehind 44 = .ok (.goto (-26), 3) := by decide +kernel
theorem dX5_moveOldestBehind_47 : decode cX5_moveOldestBehind 47 = .ok (.aload_n 0, 1) := by decide +kernel
theorem dX5_moveOldestBehind_48 : decode cX5_moveOldestBehind 48 = .ok (.getfield 19, 3) := by decide +kernel
theorem dX5_moveOldestBehind_51 : decode cX5_moveOldestBehind 51 = .ok (.aload_n 0, 1) := by decide +kernel
theorem dX5_moveOldestBehind_52 : decode cX5_moveOldestBehind 52 = .ok (.getfield 19, 3) := by decide +kernel
theorem dX5_moveOldestBehind_55 : decode cX5_moveOldestBehind 55 = .ok (.arraylength, 1) := by decide +kernel
theorem dX5_moveOldestBehind_56 : decode cX5_moveOldestBehind 56 = .ok (.iconst 1, 1) := by decide +kernel
theorem dX5_moveOldestBehind_57 : decode cX5_moveOldestBehind 57 = .ok (.isub, 1) := by decide +kernel
theorem dX5_moveOldestBehind_58 : decode cX5_moveOldestBehind 58 = .ok (.aload_n 1, 1) := by decide +kernel
theorem dX5_moveOldestBehind_59 : decode cX5_moveOldestBehind 59 = .ok (.aastore, 1) := by decide +kernel
theorem dX5_moveOldestBehind_60 : decode cX5_moveOldestBehind 60 = .ok (.aload_n 0, 1) := by decide +kernel
theorem dX5_moveOldestBehind_61 : decode cX5_moveOldestBehind 61 = .ok (.aload_n 0, 1) := by decide +kernel
theorem dX5_moveOldestBehind_62 : decode cX5_moveOldestBehind 62 = .ok (.getfield 19, 3) := by decide +kernel
theorem dX5_moveOldestBehind_65 : decode cX5_moveOldestBehind 65 = .ok (.arraylength, 1) := by decide +kernel
theorem dX5_moveOldestBehind_66 : decode cX5_moveOldestBehind 66 = .ok (.iconst 1, 1) := by decide +kernel
theorem dX5_moveOldestBehind_67 : decode cX5_moveOldestBehind 67 = .ok (.isub, 1) := by decide +kernel
theorem dX5_moveOldestBehind_68 : decode cX5_moveOldestBehind 68 = .ok (.putfield 157, 3) := by decide +kernel
theorem dX5_moveOldestBehind_71 : decode cX5_moveOldestBehind 71 = .ok (.return_, 1) := by decide +kernel
theorem dX5_latestSaved_0 : decode cX5_latestSaved 0 = .ok (.aload_n 0, 1) := by decide +kernel
theorem dX5_latestSaved_1 : decode cX5_latestSaved 1 = .ok (.getfield 157, 3) := by decide +kernel
theorem dX5_latestSaved_4 : decode cX5_latestSaved 4 = .ok (.iconst 1, 1) := by decide +kernel
theorem dX5_latestSaved_5 : decode cX5_latestSaved 5 = .ok (.isub, 1) := by decide +kernel
theorem dX5_latestSaved_6 : decode cX5_latestSaved 6 = .ok (.istore_n 1, 1) := by decide +kernel
theorem dX5_latestSaved_7 : decode cX5_latestSaved 7 = .ok (.iload_n 1, 1) := by decide +kernel
theorem dX5_latestSaved_8 : decode cX5_latestSaved 8 = .ok (.ifCond .lt 12, 3) := by decide +kernel
theorem dX5_latestSaved_11 : decode cX5_latestSaved 11 = .ok (.iload_n 1, 1) := by decide +kernel
theorem dX5_latestSaved_12 : decode cX5_latestSaved 12 = .ok (.aload_n 0, 1) := by decide +kernel
theorem dX5_latestSaved_13 : decode cX5_latestSaved 13 = .ok (.getfield 19, 3) := by decide +kernel
theorem dX5_latestSaved_16 : decode cX5_latestSaved 16 = .ok (.arraylength, 1) := by decide +kernel
theorem dX5_latestSaved_17 : decode cX5_latestSaved 17 = .ok (.if_icmp .lt 7, 3) := by decide +kernel
theorem dX5_latestSaved_20 : decode cX5_latestSaved 20 = .ok (.aconst_null, 1) := by decide +kernel
theorem dX5_latestSaved_21 : decode cX5_latestSaved 21 = .ok (.goto 9, 3) := by decide +kernel
theorem dX5_latestSaved_24 : decode cX5_latestSaved 24 = .ok (.aload_n 0, 1) := by decide +kernel
theorem dX5_latestSaved_25 : decode cX5_latestSaved 25 = .ok (.getfield 19, 3) := by decide +kernel
theorem dX5_latestSaved_28 : decode cX5_latestSaved 28 = .ok (.iload_n 1, 1) := by decide +kernel
theorem dX5_latestSaved_29 : decode cX5_latestSaved 29 = .ok (.aaload, 1) := by decide +kernel
theorem dX5_latestSaved_30 : decode cX5_latestSaved 30 = .ok (.areturn, 1) := by decide +kernel
theorem dX5_slotAt_0 : decode cX5_slotAt 0 = .ok (.iload_n 1, 1) := by decide +kernel
theorem dX5_slotAt_1 : decode cX5_slotAt 1 = .ok (.ifCond .lt 12, 3) := by decide +kernel
theorem dX5_slotAt_4 : decode cX5_slotAt 4 = .ok (.iload_n 1, 1) := by decide +kernel
theorem dX5_slotAt_5 : decode cX5_slotAt 5 = .ok (.aload_n 0, 1) := by decide +kernel
theorem dX5_slotAt_6 : decode cX5_slotAt 6 = .ok (.getfield 23, 3) := by decide +kernel
theorem dX5_slotAt_9 : decode cX5_slotAt 9 = .ok (.arraylength, 1) := by decide +kernel
theorem dX5_slotAt_10 : decode cX5_slotAt 10 = .ok (.if_icmp .lt 7, 3) := by decide +kernel
theorem dX5_slotAt_13 : decode cX5_slotAt 13 = .ok (.aconst_null, 1) := by decide +kernel
theorem dX5_slotAt_14 : decode cX5_slotAt 14 = .ok (.goto 9, 3) := by decide +kernel
theorem dX5_slotAt_17 : decode cX5_slotAt 17 = .ok (.aload_n 0, 1) := by decide +kernel
theorem dX5_slotAt_18 : decode cX5_slotAt 18 = .ok (.getfield 23, 3) := by decide +kernel
theorem dX5_slotAt_21 : decode cX5_slotAt 21 = .ok (.iload_n 1, 1) := by decide +kernel
theorem dX5_slotAt_22 : decode cX5_slotAt 22 = .ok (.aaload, 1) := by decide +kernel
theorem dX5_slotAt_23 : decode cX5_slotAt 23 = .ok (.areturn, 1) := by decide +kernel
theorem dX5_fillSlot_0 : decode cX5_fillSlot 0 = .ok (.iload_n 1, 1) := by decide +kernel
theorem dX5_fillSlot_1 : decode cX5_fillSlot 1 = .ok (.ifCond .lt 19, 3) := by decide +kernel
theorem dX5_fillSlot_4 : decode cX5_fillSlot 4 = .ok (.iload_n 1, 1) := by decide +kernel
theorem dX5_fillSlot_5 : decode cX5_fillSlot 5 = .ok (.aload_n 0, 1) := by decide +kernel
theorem dX5_fillSlot_6 : decode cX5_fillSlot 6 = .ok (.getfield 23, 3) := by decide +kernel
theorem dX5_fillSlot_9 : decode cX5_fillSlot 9 = .ok (.arraylength, 1) := by decide +kernel
theorem dX5_fillSlot_10 : decode cX5_fillSlot 10 = .ok (.if_icmp .ge 10, 3) := by decide +kernel
theorem dX5_fillSlot_13 : decode cX5_fillSlot 13 = .ok (.aload_n 0, 1) := by decide +kernel
theorem dX5_fillSlot_14 : decode cX5_fillSlot 14 = .ok (.getfield 23, 3) := by decide +kernel
theorem dX5_fillSlot_17 : decode cX5_fillSlot 17 = .ok (.iload_n 1, 1) := by decide +kernel
theorem dX5_fillSlot_18 : decode cX5_fillSlot 18 = .ok (.aload_n 2, 1) := by decide +kernel
theorem dX5_fillSlot_19 : decode cX5_fillSlot 19 = .ok (.aastore, 1) := by decide +kernel
theorem dX5_fillSlot_20 : decode cX5_fillSlot 20 = .ok (.return_, 1) := by decide +kernel
theorem dX5_copyNumbers_0 : decode cX5_copyNumbers 0 = .ok (.aload_n 0, 1) := by decide +kernel
theorem dX5_copyNumbers_1 : decode cX5_copyNumbers 1 = .ok (.arraylength, 1) := by decide +kernel
theorem dX5_copyNumbers_2 : decode cX5_copyNumbers 2 = .ok (.aload_n 1, 1) := by decide +kernel
theorem dX5_copyNumbers_3 : decode cX5_copyNumbers 3 = .ok (.arraylength, 1) := by decide +kernel
theorem dX5_copyNumbers_4 : decode cX5_copyNumbers 4 = .ok (.invokestatic 345, 3) := by decide +kernel
theorem dX5_copyNumbers_7 : decode cX5_copyNumbers 7 = .ok (.istore_n 3, 1) := by decide +kernel
theorem dX5_copyNumbers_8 : decode cX5_copyNumbers 8 = .ok (.iconst 0, 1) := by decide +kernel
theorem dX5_copyNumbers_9 : decode cX5_copyNumbers 9 = .ok (.iload_n 2, 1) := by decide +kernel
theorem dX5_copyNumbers_10 : decode cX5_copyNumbers 10 = .ok (.iload_n 3, 1) := by decide +kernel
theorem dX5_copyNumbers_11 : decode cX5_copyNumbers 11 = .ok (.invokestatic 345, 3) := by decide +kernel
theorem dX5_copyNumbers_14 : decode cX5_copyNumbers 14 = .ok (.invokestatic 350, 3) := by decide +kernel
theorem dX5_copyNumbers_17 : decode cX5_copyNumbers 17 = .ok (.istore 4, 2) := by decide +kernel
theorem dX5_copyNumbers_19 : decode cX5_copyNumbers 19 = .ok (.aload_n 0, 1) := by decide +kernel
theorem dX5_copyNumbers_20 : decode cX5_copyNumbers 20 = .ok (.iconst 0, 1) := by decide +kernel
theorem dX5_copyNumbers_21 : decode cX5_copyNumbers 21 = .ok (.aload_n 1, 1) := by decide +kernel
theorem dX5_copyNumbers_22 : decode cX5_copyNumbers 22 = .ok (.iconst 0, 1) := by decide +kernel
theorem dX5_copyNumbers_23 : decode cX5_copyNumbers 23 = .ok (.iload 4, 2) := by decide +kernel
theorem dX5_copyNumbers_25 : decode cX5_copyNumbers 25 = .ok (.invokestatic 353, 3) := by decide +kernel
theorem dX5_copyNumbers_28 : decode cX5_copyNumbers 28 = .ok (.iload 4, 2) := by decide +kernel
theorem dX5_copyNumbers_30 : decode cX5_copyNumbers 30 = .ok (.ireturn, 1) := by decide +kernel
theorem dX5_carryOutAll_0 : decode cX5_carryOutAll 0 = .ok (.aload_n 0, 1) := by decide +kernel
theorem dX5_carryOutAll_1 : decode cX5_carryOutAll 1 = .ok (.getfield 33, 3) := by decide +kernel
theorem dX5_carryOutAll_4 : decode cX5_carryOutAll 4 = .ok (.invokevirtual 359, 3) := by decide +kernel
theorem dX5_carryOutAll_7 : decode cX5_carryOutAll 7 = .ok (.iconst 0, 1) := by decide +kernel
theorem dX5_carryOutAll_8 : decode cX5_carryOutAll 8 = .ok (.istore_n 1, 1) := by decide +kernel
theorem dX5_carryOutAll_9 : decode cX5_carryOutAll 9 = .ok (.iload_n 1, 1) := by decide +kernel
theorem dX5_carryOutAll_10 : decode cX5_carryOutAll 10 = .ok (.aload_n 0, 1) := by decide +kernel
theorem dX5_carryOutAll_11 : decode cX5_carryOutAll 11 = .ok (.getfield 105, 3) := by decide +kernel
theorem dX5_carryOutAll_14 : decode cX5_carryOutAll 14 = .ok (.if_icmp .ge 52, 3) := by decide +kernel
theorem dX5_carryOutAll_17 : decode cX5_carryOutAll 17 = .ok (.iload_n 1, 1) := by decide +kernel
theorem dX5_carryOutAll_18 : decode cX5_carryOutAll 18 = .ok (.aload_n 0, 1) := by decide +kernel
theorem dX5_carryOutAll_19 : decode cX5_carryOutAll 19 = .ok (.getfield 26, 3) := by decide +kernel
theorem dX5_carryOutAll_22 : decode cX5_carryOutAll 22 = .ok (.arraylength, 1) := by decide +kernel
theorem dX5_carryOutAll_23 : decode cX5_carryOutAll 23 = .ok (.if_icmp .ge 43, 3) := by decide +kernel
theorem dX5_carryOutAll_26 : decode cX5_carryOutAll 26 = .ok (.aload_n 0, 1) := by decide +kernel
theorem dX5_carryOutAll_27 : decode cX5_carryOutAll 27 = .ok (.getfield 26, 3) := by decide +kernel
theorem dX5_carryOutAll_30 : decode cX5_carryOutAll 30 = .ok (.iload_n 1, 1) := by decide +kernel
theorem dX5_carryOutAll_31 : decode cX5_carryOutAll 31 = .ok (.iaload, 1) := by decide +kernel
theorem dX5_carryOutAll_32 : decode cX5_carryOutAll 32 = .ok (.bipush 59, 2) := by decide +kernel
theorem dX5_carryOutAll_34 : decode cX5_carryOutAll 34 = .ok (.if_icmp .ne 12, 3) := by decide +kernel
theorem dX5_carryOutAll_37 : decode cX5_carryOutAll 37 = .ok (.aload_n 0, 1) := by decide +kernel
theorem dX5_carryOutAll_38 : decode cX5_carryOutAll 38 = .ok (.invokevirtual 362, 3) := by decide +kernel
theorem dX5_carryOutAll_41 : decode cX5_carryOutAll 41 = .ok (.ifCond .ne 5, 3) := by decide +kernel
theorem dX5_carryOutAll_44 : decode cX5_carryOutAll 44 = .ok (.iconst 0, 1) := by decide +kernel
theorem dX5_carryOutAll_45 : decode cX5_carryOutAll 45 = .ok (.ireturn, 1) := by decide +kernel
theorem dX5_carryOutAll_46 : decode cX5_carryOutAll 46 = .ok (.aload_n 0, 1) := by decide +kernel
theorem dX5_carryOutAll_47 : decode cX5_carryOutAll 47 = .ok (.getfield 33, 3) := by decide +kernel
theorem dX5_carryOutAll_50 : decode cX5_carryOutAll 50 = .ok (.aload_n 0, 1) := by decide +kernel
theorem dX5_carryOutAll_51 : decode cX5_carryOutAll 51 = .ok (.getfield 26, 3) := by decide +kernel
theorem dX5_carryOutAll_54 : decode cX5_carryOutAll 54 = .ok (.iload_n 1, 1) := by decide +kernel
theorem dX5_carryOutAll_55 : decode cX5_carryOutAll 55 = .ok (.iaload, 1) := by decide +kernel
theorem dX5_carryOutAll_56 : decode cX5_carryOutAll 56 = .ok (.invokevirtual 365, 3) := by decide +kernel
theorem dX5_carryOutAll_59 : decode cX5_carryOutAll 59 = .ok (.pop, 1) := by decide +kernel
theorem dX5_carryOutAll_60 : decode cX5_carryOutAll 60 = .ok (.iinc 1 1, 3) := by decide +kernel
theorem dX5_carryOutAll_63 : decode cX5_carryOutAll 63 = .ok (.goto (-54), 3) := by decide +kernel
theorem dX5_carryOutAll_66 : decode cX5_carryOutAll 66 = .ok (.aload_n 0, 1) := by decide +kernel
theorem dX5_carryOutAll_67 : decode cX5_carryOutAll 67 = .ok (.invokevirtual 362, 3) := by decide +kernel
theorem dX5_carryOutAll_70 : decode cX5_carryOutAll 70 = .ok (.ireturn, 1) := by decide +kernel
theorem dX5_carryOut_0 : decode cX5_carryOut 0 = .ok (.aload_n 0, 1) := by decide +kernel
theorem dX5_carryOut_1 : decode cX5_carryOut 1 = .ok (.getfield 33, 3) := by decide +kernel
theorem dX5_carryOut_4 : decode cX5_carryOut 4 = .ok (.getfield 368, 3) := by decide +kernel
theorem dX5_carryOut_7 : decode cX5_carryOut 7 = .ok (.tableswitch 229 98 112 #[146, 129, 104, 205, 229, 229, 229, 174, 229, 229, 229, 229, 229, 229, 73], 73) := by decide +kernel
theorem dX5_carryOut_80 : decode cX5_carryOut 80 = .ok (.aload_n 0, 1) := by decide +kernel
theorem dX5_carryOut_81 : decode cX5_carryOut 81 = .ok (.getfield 12, 3) := by decide +kernel
theorem dX5_carryOut_84 : decode cX5_carryOut 84 = .ok (.aload_n 0, 1) := by decide +kernel
theorem dX5_carryOut_85 : decode cX5_carryOut 85 = .ok (.getfield 33, 3) := by decide +kernel
theorem dX5_carryOut_88 : decode cX5_carryOut 88 = .ok (.getfield 371, 3) := by decide +kernel
theorem dX5_carryOut_91 : decode cX5_carryOut 91 = .ok (.aload_n 0, 1) := by decide +kernel
theorem dX5_carryOut_92 : decode cX5_carryOut 92 = .ok (.getfield 33, 3) := by decide +kernel
theorem dX5_carryOut_95 : decode cX5_carryOut 95 = .ok (.getfield 374, 3) := by decide +kernel
theorem dX5_carryOut_98 : decode cX5_carryOut 98 = .ok (.invokevirtual 55, 3) := by decide +kernel
theorem dX5_carryOut_101 : decode cX5_carryOut 101 = .ok (.iconst (-1), 1) := by decide +kernel
theorem dX5_carryOut_102 : decode cX5_carryOut 102 = .ok (.if_icmp .eq 7, 3) := by decide +kernel
theorem dX5_carryOut_105 : decode cX5_carryOut 105 = .ok (.iconst 1, 1) := by decide +kernel
theorem dX5_carryOut_106 : decode cX5_carryOut 106 = .ok (.goto 4, 3) := by decide +kernel
theorem dX5_carryOut_109 : decode cX5_carryOut 109 = .ok (.iconst 0, 1) := by decide +kernel
theorem dX5_carryOut_110 : decode cX5_carryOut 110 = .ok (.ireturn, 1) := by decide +kernel
theorem dX5_carryOut_111 : decode cX5_carryOut 111 = .ok (.aload_n 0, 1) := by decide +kernel
theorem dX5_carryOut_112 : decode cX5_carryOut 112 = .ok (.getfield 12, 3) := by decide +kernel
theorem dX5_carryOut_115 : decode cX5_carryOut 115 = .ok (.aload_n 0, 1) := by decide +kernel
theorem dX5_carryOut_116 : decode cX5_carryOut 116 = .ok (.getfield 33, 3) := by decide +kernel
theorem dX5_carryOut_119 : decode cX5_carryOut 119 = .ok (.getfield 371, 3) := by decide +kernel
theorem dX5_carryOut_122 : decode cX5_carryOut 122 = .ok (.iconst (-1), 1) := by decide +kernel
theorem dX5_carryOut_123 : decode cX5_carryOut 123 = .ok (.invokevirtual 55, 3) := by decide +kernel
theorem dX5_carryOut_126 : decode cX5_carryOut 126 = .ok (.iconst (-1), 1) := by decide +kernel
theorem dX5_carryOut_127 : decode cX5_carryOut 127 = .ok (.if_icmp .eq 7, 3) := by decide +kernel
theorem dX5_carryOut_130 : decode cX5_carryOut 130 = .ok (.iconst 1, 1) := by decide +kernel
theorem dX5_carryOut_131 : decode cX5_carryOut 131 = .ok (.goto 4, 3) := by decide +kernel
theorem dX5_carryOut_134 : decode cX5_carryOut 134 = .ok (.iconst 0, 1) := by decide +kernel
theorem dX5_carryOut_135 : decode cX5_carryOut 135 = .ok (.ireturn, 1) := by decide +kernel
theorem dX5_carryOut_136 : decode cX5_carryOut 136 = .ok (.aload_n 0, 1) := by decide +kernel
theorem dX5_carryOut_137 : decode cX5_carryOut 137 = .ok (.getfield 12, 3) := by decide +kernel
theorem dX5_carryOut_140 : decode cX5_carryOut 140 = .ok (.invokevirtual 63, 3) := by decide +kernel
theorem dX5_carryOut_143 : decode cX5_carryOut 143 = .ok (.iconst (-1), 1) := by decide +kernel
theorem dX5_carryOut_144 : decode cX5_carryOut 144 = .ok (.if_icmp .eq 7, 3) := by decide +kernel
theorem dX5_carryOut_147 : decode cX5_carryOut 147 = .ok (.iconst 1, 1) := by decide +kernel
theorem dX5_carryOut_148 : decode cX5_carryOut 148 = .ok (.goto 4, 3) := by decide +kernel
theorem dX5_carryOut_151 : decode cX5_carryOut 151 = .ok (.iconst 0, 1) := by decide +kernel
theorem dX5_carryOut_152 : decode cX5_carryOut 152 = .ok (.ireturn, 1) := by decide +kernel
theorem dX5_carryOut_153 : decode cX5_carryOut 153 = .ok (.aload_n 0, 1) := by decide +kernel
theorem dX5_carryOut_154 : decode cX5_carryOut 154 = .ok (.getfield 12, 3) := by decide +kernel
theorem dX5_carryOut_157 : decode cX5_carryOut 157 = .ok (.aload_n 0, 1) := by decide +kernel
theorem dX5_carryOut_158 : decode cX5_carryOut 158 = .ok (.getfield 33, 3) := by decide +kernel
theorem dX5_carryOut_161 : decode cX5_carryOut 161 = .ok (.getfield 371, 3) := by decide +kernel
theorem dX5_carryOut_164 : decode cX5_carryOut 164 = .ok (.aload_n 0, 1) := by decide +kernel
theorem dX5_carryOut_165 : decode cX5_carryOut 165 = .ok (.getfield 40, 3) := by decide +kernel
theorem dX5_carryOut_168 : decode cX5_carryOut 168 = .ok (.invokevirtual 74, 3) := by decide +kernel
theorem dX5_carryOut_171 : decode cX5_carryOut 171 = .ok (.iconst (-1), 1) := by decide +kernel
theorem dX5_carryOut_172 : decode cX5_carryOut 172 = .ok (.if_icmp .eq 7, 3) := by decide +kernel
theorem dX5_carryOut_175 : decode cX5_carryOut 175 = .ok (.iconst 1, 1) := by decide +kernel
theorem dX5_carryOut_176 : decode cX5_carryOut 176 = .ok (.goto 4, 3) := by decide +kernel
theorem dX5_carryOut_179 : decode cX5_carryOut 179 = .ok (.iconst 0, 1) := by decide +kernel
theorem dX5_carryOut_180 : decode cX5_carryOut 180 = .ok (.ireturn, 1) := by decide +kernel
theorem dX5_carryOut_181 : decode cX5_carryOut 181 = .ok (.aload_n 0, 1) := by decide +kernel
theorem dX5_carryOut_182 : decode cX5_carryOut 182 = .ok (.getfield 12, 3) := by decide +kernel
theorem dX5_carryOut_185 : decode cX5_carryOut 185 = .ok (.aload_n 0, 1) := by decide +kernel
theorem dX5_carryOut_186 : decode cX5_carryOut 186 = .ok (.getfield 33, 3) := by decide +kernel
theorem dX5_carryOut_189 : decode cX5_carryOut 189 = .ok (.getfield 371, 3) := by decide +kernel
theorem dX5_carryOut_192 : decode cX5_carryOut 192 = .ok (.aload_n 0, 1) := by decide +kernel
theorem dX5_carryOut_193 : decode cX5_carryOut 193 = .ok (.getfield 33, 3) := by decide +kernel
theorem dX5_carryOut_196 : decode cX5_carryOut 196 = .ok (.getfield 374, 3) := by decide +kernel
theorem dX5_carryOut_199 : decode cX5_carryOut 199 = .ok (.invokevirtual 78, 3) := by decide +kernel
theorem dX5_carryOut_202 : decode cX5_carryOut 202 = .ok (.iconst (-1), 1) := by decide +kernel
theorem dX5_carryOut_203 : decode cX5_carryOut 203 = .ok (.if_icmp .eq 7, 3) := by decide +kernel
theorem dX5_carryOut_206 : decode cX5_carryOut 206 = .ok (.iconst 1, 1) := by decide +kernel
theorem dX5_carryOut_207 : decode cX5_carryOut 207 = .ok (.goto 4, 3) := by decide +kernel
theorem dX5_carryOut_210 : decode cX5_carryOut 210 = .ok (.iconst 0, 1) := by decide +kernel
theorem dX5_carryOut_211 : decode cX5_carryOut 211 = .ok (.ireturn, 1) := by decide +kernel
theorem dX5_carryOut_212 : decode cX5_carryOut 212 = .ok (.aload_n 0, 1) := by decide +kernel
theorem dX5_carryOut_213 : decode cX5_carryOut 213 = .ok (.getfield 12, 3) := by decide +kernel
theorem dX5_carryOut_216 : decode cX5_carryOut 216 = .ok (.aload_n 0, 1) := by decide +kernel
theorem dX5_carryOut_217 : decode cX5_carryOut 217 = .ok (.getfield 33, 3) := by decide +kernel
theorem dX5_carryOut_220 : decode cX5_carryOut 220 = .ok (.getfield 371, 3) := by decide +kernel
theorem dX5_carryOut_223 : decode cX5_carryOut 223 = .ok (.invokevirtual 81, 3) := by decide +kernel
theorem dX5_carryOut_226 : decode cX5_carryOut 226 = .ok (.iconst (-1), 1) := by decide +kernel
theorem dX5_carryOut_227 : decode cX5_carryOut 227 = .ok (.if_icmp .eq 7, 3) := by decide +kernel
theorem dX5_carryOut_230 : decode cX5_carryOut 230 = .ok (.iconst 1, 1) := by decide +kernel
theorem dX5_carryOut_231 : decode cX5_carryOut 231 = .ok (.goto 4, 3) := by decide +kernel
theorem dX5_carryOut_234 : decode cX5_carryOut 234 = .ok (.iconst 0, 1) := by decide +kernel
theorem dX5_carryOut_235 : decode cX5_carryOut 235 = .ok (.ireturn, 1) := by decide +kernel
theorem dX5_carryOut_236 : decode cX5_carryOut 236 = .ok (.iconst 0, 1) := by decide +kernel
theorem dX5_carryOut_237 : decode cX5_carryOut 237 = .ok (.ireturn, 1) := by decide +kernel
theorem dX5_meanPagesOf_0 : decode cX5_meanPagesOf 0 = .ok (.iconst 0, 1) := by decide +kernel
theorem dX5_meanPagesOf_1 : decode cX5_meanPagesOf 1 = .ok (.istore_n 2, 1) := by decide +kernel
theorem dX5_meanPagesOf_2 : decode cX5_meanPagesOf 2 = .ok (.iconst 0, 1) := by decide +kernel
theorem dX5_meanPagesOf_3 : decode cX5_meanPagesOf 3 = .ok (.istore_n 3, 1) := by decide +kernel
theorem dX5_meanPagesOf_4 : decode cX5_meanPagesOf 4 = .ok (.iload_n 3, 1) := by decide +kernel
theorem dX5_meanPagesOf_5 : decode cX5_meanPagesOf 5 = .ok (.aload_n 1, 1) := by decide +kernel
theorem dX5_meanPagesOf_6 : decode cX5_meanPagesOf 6 = .ok (.getfield 133, 3) := by decide +kernel
theorem dX5_meanPagesOf_9 : decode cX5_meanPagesOf 9 = .ok (.if_icmp .ge 24, 3) := by decide +kernel
theorem dX5_meanPagesOf_12 : decode cX5_meanPagesOf 12 = .ok (.iload_n 2, 1) := by decide +kernel
theorem dX5_meanPagesOf_13 : decode cX5_meanPagesOf 13 = .ok (.aload_n 0, 1) := by decide +kernel
theorem dX5_meanPagesOf_14 : decode cX5_meanPagesOf 14 = .ok (.getfield 12, 3) := by decide +kernel
theorem dX5_meanPagesOf_17 : decode cX5_meanPagesOf 17 = .ok (.aload_n 1, 1) := by decide +kernel
theorem dX5_meanPagesOf_18 : decode cX5_meanPagesOf 18 = .ok (.iload_n 3, 1) := by decide +kernel
theorem dX5_meanPagesOf_19 : decode cX5_meanPagesOf 19 = .ok (.invokevirtual 185, 3) := by decide +kernel
theorem dX5_meanPagesOf_22 : decode cX5_meanPagesOf 22 = .ok (.invokevirtual 169, 3) := by decide +kernel
theorem dX5_meanPagesOf_25 : decode cX5_meanPagesOf 25 = .ok (.iadd, 1) := by decide +kernel
theorem dX5_meanPagesOf_26 : decode cX5_meanPagesOf 26 = .ok (.istore_n 2, 1) := by decide +kernel
theorem dX5_meanPagesOf_27 : decode cX5_meanPagesOf 27 = .ok (.iinc 3 1, 3) := by decide +kernel
theorem dX5_meanPagesOf_30 : decode cX5_meanPagesOf 30 = .ok (.goto (-26), 3) := by decide +kernel
theorem dX5_meanPagesOf_33 : decode cX5_meanPagesOf 33 = .ok (.aload_n 1, 1) := by decide +kernel
theorem dX5_meanPagesOf_34 : decode cX5_meanPagesOf 34 = .ok (.getfield 133, 3) := by decide +kernel
theorem dX5_meanPagesOf_37 : decode cX5_meanPagesOf 37 = .ok (.ifCond .gt 7, 3) := by decide +kernel
theorem dX5_meanPagesOf_40 : decode cX5_meanPagesOf 40 = .ok (.dconst 0, 1) := by decide +kernel
theorem dX5_meanPagesOf_41 : decode cX5_meanPagesOf 41 = .ok (.goto 11, 3) := by decide +kernel
theorem dX5_meanPagesOf_44 : decode cX5_meanPagesOf 44 = .ok (.iload_n 2, 1) := by decide +kernel
theorem dX5_meanPagesOf_45 : decode cX5_meanPagesOf 45 = .ok (.i2d, 1) := by decide +kernel
theorem dX5_meanPagesOf_46 : decode cX5_meanPagesOf 46 = .ok (.aload_n 1, 1) := by decide +kernel
theorem dX5_meanPagesOf_47 : decode cX5_meanPagesOf 47 = .ok (.getfield 133, 3) := by decide +kernel
theorem dX5_meanPagesOf_50 : decode cX5_meanPagesOf 50 = .ok (.i2d, 1) := by decide +kernel
theorem dX5_meanPagesOf_51 : decode cX5_meanPagesOf 51 = .ok (.ddiv, 1) := by decide +kernel
theorem dX5_meanPagesOf_52 : decode cX5_meanPagesOf 52 = .ok (.dreturn, 1) := by decide +kernel
theorem dX5_mostPagesOf_0 : decode cX5_mostPagesOf 0 = .ok (.iconst 0, 1) := by decide +kernel
theorem dX5_mostPagesOf_1 : decode cX5_mostPagesOf 1 = .ok (.istore_n 2, 1) := by decide +kernel
theorem dX5_mostPagesOf_2 : decode cX5_mostPagesOf 2 = .ok (.iconst 0, 1) := by decide +kernel
theorem dX5_mostPagesOf_3 : decode cX5_mostPagesOf 3 = .ok (.istore_n 3, 1) := by decide +kernel
theorem dX5_mostPagesOf_4 : decode cX5_mostPagesOf 4 = .ok (.iload_n 3, 1) := by decide +kernel
theorem dX5_mostPagesOf_5 : decode cX5_mostPagesOf 5 = .ok (.aload_n 1, 1) := by decide +kernel
theorem dX5_mostPagesOf_6 : decode cX5_mostPagesOf 6 = .ok (.getfield 133, 3) := by decide +kernel
theorem dX5_mostPagesOf_9 : decode cX5_mostPagesOf 9 = .ok (.if_icmp .ge 26, 3) := by decide +kernel
theorem dX5_mostPagesOf_12 : decode cX5_mostPagesOf 12 = .ok (.iload_n 2, 1) := by decide +kernel
theorem dX5_mostPagesOf_13 : decode cX5_mostPagesOf 13 = .ok (.aload_n 0, 1) := by decide +kernel
theorem dX5_mostPagesOf_14 : decode cX5_mostPagesOf 14 = .ok (.getfield 12, 3) := by decide +kernel
theorem dX5_mostPagesOf_17 : decode cX5_mostPagesOf 17 = .ok (.aload_n 1, 1) := by decide +kernel
theorem dX5_mostPagesOf_18 : decode cX5_mostPagesOf 18 = .ok (.iload_n 3, 1) := by decide +kernel
theorem dX5_mostPagesOf_19 : decode cX5_mostPagesOf 19 = .ok (.invokevirtual 185, 3) := by decide +kernel
theorem dX5_mostPagesOf_22 : decode cX5_mostPagesOf 22 = .ok (.invokevirtual 169, 3) := by decide +kernel
theorem dX5_mostPagesOf_25 : decode cX5_mostPagesOf 25 = .ok (.invokestatic 350, 3) := by decide +kernel
theorem dX5_mostPagesOf_28 : decode cX5_mostPagesOf 28 = .ok (.istore_n 2, 1) := by decide +kernel
theorem dX5_mostPagesOf_29 : decode cX5_mostPagesOf 29 = .ok (.iinc 3 1, 3) := by decide +kernel
theorem dX5_mostPagesOf_32 : decode cX5_mostPagesOf 32 = .ok (.goto (-28), 3) := by decide +kernel
theorem dX5_mostPagesOf_35 : decode cX5_mostPagesOf 35 = .ok (.iload_n 2, 1) := by decide +kernel
theorem dX5_mostPagesOf_36 : decode cX5_mostPagesOf 36 = .ok (.ireturn, 1) := by decide +kernel
theorem dX5_mix_0 : decode cX5_mix 0 = .ok (.ldc2_w 377, 3) := by decide +kernel
theorem dX5_mix_3 : decode cX5_mix 3 = .ok (.lload_n 0, 1) := by decide +kernel
theorem dX5_mix_4 : decode cX5_mix 4 = .ok (.lmul, 1) := by decide +kernel
theorem dX5_mix_5 : decode cX5_mix 5 = .ok (.lload_n 2, 1) := by decide +kernel
theorem dX5_mix_6 : decode cX5_mix 6 = .ok (.ladd, 1) := by decide +kernel
theorem dX5_mix_7 : decode cX5_mix 7 = .ok (.lreturn, 1) := by decide +kernel
theorem dX5_mixFlag_0 : decode cX5_mixFlag 0 = .ok (.lload_n 0, 1) := by decide +kernel
theorem dX5_mixFlag_1 : decode cX5_mixFlag 1 = .ok (.iload_n 2, 1) := by decide +kernel
theorem dX5_mixFlag_2 : decode cX5_mixFlag 2 = .ok (.ifCond .eq 7, 3) := by decide +kernel
theorem dX5_mixFlag_5 : decode cX5_mixFlag 5 = .ok (.lconst 1, 1) := by decide +kernel
theorem dX5_mixFlag_6 : decode cX5_mixFlag 6 = .ok (.goto 4, 3) := by decide +kernel
theorem dX5_mixFlag_9 : decode cX5_mixFlag 9 = .ok (.lconst 0, 1) := by decide +kernel
theorem dX5_mixFlag_10 : decode cX5_mixFlag 10 = .ok (.invokestatic 379, 3) := by decide +kernel
theorem dX5_mixFlag_13 : decode cX5_mixFlag 13 = .ok (.lreturn, 1) := by decide +kernel
theorem dX5_hashOfRuns_0 : decode cX5_hashOfRuns 0 = .ok (.lload_n 1, 1) := by decide +kernel
theorem dX5_hashOfRuns_1 : decode cX5_hashOfRuns 1 = .ok (.aload_n 0, 1) := by decide +kernel
theorem dX5_hashOfRuns_2 : decode cX5_hashOfRuns 2 = .ok (.getfield 12, 3) := by decide +kernel
theorem dX5_hashOfRuns_5 : decode cX5_hashOfRuns 5 = .ok (.getfield 197, 3) := by decide +kernel
theorem dX5_hashOfRuns_8 : decode cX5_hashOfRuns 8 = .ok (.i2l, 1) := by decide +kernel
theorem dX5_hashOfRuns_9 : decode cX5_hashOfRuns 9 = .ok (.invokestatic 379, 3) := by decide +kernel
theorem dX5_hashOfRuns_12 : decode cX5_hashOfRuns 12 = .ok (.lstore_n 3, 1) := by decide +kernel
theorem dX5_hashOfRuns_13 : decode cX5_hashOfRuns 13 = .ok (.iconst 0, 1) := by decide +kernel
theorem dX5_hashOfRuns_14 : decode cX5_hashOfRuns 14 = .ok (.istore 5, 2) := by decide +kernel
theorem dX5_hashOfRuns_16 : decode cX5_hashOfRuns 16 = .ok (.iload 5, 2) := by decide +kernel
theorem dX5_hashOfRuns_18 : decode cX5_hashOfRuns 18 = .ok (.aload_n 0, 1) := by decide +kernel
theorem dX5_hashOfRuns_19 : decode cX5_hashOfRuns 19 = .ok (.getfield 12, 3) := by decide +kernel
theorem dX5_hashOfRuns_22 : decode cX5_hashOfRuns 22 = .ok (.getfield 197, 3) := by decide +kernel
theorem dX5_hashOfRuns_25 : decode cX5_hashOfRuns 25 = .ok (.if_icmp .gt 92, 3) := by decide +kernel
theorem dX5_hashOfRuns_28 : decode cX5_hashOfRuns 28 = .ok (.aload_n 0, 1) := by decide +kernel
theorem dX5_hashOfRuns_29 : decode cX5_hashOfRuns 29 = .ok (.getfield 12, 3) := by decide +kernel
theorem dX5_hashOfRuns_32 : decode cX5_hashOfRuns 32 = .ok (.iload 5, 2) := by decide +kernel
theorem dX5_hashOfRuns_34 : decode cX5_hashOfRuns 34 = .ok (.invokevirtual 200, 3) := by decide +kernel
theorem dX5_hashOfRuns_37 : decode cX5_hashOfRuns 37 = .ok (.astore 6, 2) := by decide +kernel
theorem dX5_hashOfRuns_39 : decode cX5_hashOfRuns 39 = .ok (.aload 6, 2) := by decide +kernel
theorem dX5_hashOfRuns_41 : decode cX5_hashOfRuns 41 = .ok (.ifnonnull 6, 3) := by decide +kernel
theorem dX5_hashOfRuns_44 : decode cX5_hashOfRuns 44 = .ok (.goto 67, 3) := by decide +kernel
theorem dX5_hashOfRuns_47 : decode cX5_hashOfRuns 47 = .ok (.lload_n 3, 1) := by decide +kernel
theorem dX5_hashOfRuns_48 : decode cX5_hashOfRuns 48 = .ok (.aload 6, 2) := by decide +kernel
theorem dX5_hashOfRuns_50 : decode cX5_hashOfRuns 50 = .ok (.getfield 133, 3) := by decide +kernel
theorem dX5_hashOfRuns_53 : decode cX5_hashOfRuns 53 = .ok (.i2l, 1) := by decide +kernel
theorem dX5_hashOfRuns_54 : decode cX5_hashOfRuns 54 = .ok (.invokestatic 379, 3) := by decide +kernel
theorem dX5_hashOfRuns_57 : decode cX5_hashOfRuns 57 = .ok (.lstore_n 3, 1) := by decide +kernel
theorem dX5_hashOfRuns_58 : decode cX5_hashOfRuns 58 = .ok (.iconst 0, 1) := by decide +kernel
theorem dX5_hashOfRuns_59 : decode cX5_hashOfRuns 59 = .ok (.istore 7, 2) := by decide +kernel
theorem dX5_hashOfRuns_61 : decode cX5_hashOfRuns 61 = .ok (.iload 7, 2) := by decide +kernel
theorem dX5_hashOfRuns_63 : decode cX5_hashOfRuns 63 = .ok (.aload 6, 2) := by decide +kernel
theorem dX5_hashOfRuns_65 : decode cX5_hashOfRuns 65 = .ok (.getfield 133, 3) := by decide +kernel
theorem dX5_hashOfRuns_68 : decode cX5_hashOfRuns 68 = .ok (.if_icmp .ge 43, 3) := by decide +kernel
theorem dX5_hashOfRuns_71 : decode cX5_hashOfRuns 71 = .ok (.lload_n 3, 1) := by decide +kernel
theorem dX5_hashOfRuns_72 : decode cX5_hashOfRuns 72 = .ok (.aload 6, 2) := by decide +kernel
theorem dX5_hashOfRuns_74 : decode cX5_hashOfRuns 74 = .ok (.iload 7, 2) := by decide +kernel
theorem dX5_hashOfRuns_76 : decode cX5_hashOfRuns 76 = .ok (.invokevirtual 185, 3) := by decide +kernel
theorem dX5_hashOfRuns_79 : decode cX5_hashOfRuns 79 = .ok (.i2l, 1) := by decide +kernel
theorem dX5_hashOfRuns_80 : decode cX5_hashOfRuns 80 = .ok (.invokestatic 379, 3) := by decide +kernel
theorem dX5_hashOfRuns_83 : decode cX5_hashOfRuns 83 = .ok (.lstore_n 3, 1) := by decide +kernel
theorem dX5_hashOfRuns_84 : decode cX5_hashOfRuns 84 = .ok (.lload_n 3, 1) := by decide +kernel
theorem dX5_hashOfRuns_85 : decode cX5_hashOfRuns 85 = .ok (.aload 6, 2) := by decide +kernel
theorem dX5_hashOfRuns_87 : decode cX5_hashOfRuns 87 = .ok (.iload 7, 2) := by decide +kernel
theorem dX5_hashOfRuns_89 : decode cX5_hashOfRuns 89 = .ok (.invokevirtual 211, 3) := by decide +kernel
theorem dX5_hashOfRuns_92 : decode cX5_hashOfRuns 92 = .ok (.iconst (-1), 1) := by decide +kernel
theorem dX5_hashOfRuns_93 : decode cX5_hashOfRuns 93 = .ok (.if_icmp .ne 7, 3) := by decide +kernel
theorem dX5_hashOfRuns_96 : decode cX5_hashOfRuns 96 = .ok (.iconst 1, 1) := by decide +kernel
theorem dX5_hashOfRuns_97 : decode cX5_hashOfRuns 97 = .ok (.goto 4, 3) := by decide +kernel
theorem dX5_hashOfRuns_100 : decode cX5_hashOfRuns 100 = .ok (.iconst 0, 1) := by decide +kernel
theorem dX5_hashOfRuns_101 : decode cX5_hashOfRuns 101 = .ok (.invokestatic 383, 3) := by decide +kernel
theorem dX5_hashOfRuns_104 : decode cX5_hashOfRuns 104 = .ok (.lstore_n 3, 1) := by decide +kernel
theorem dX5_hashOfRuns_105 : decode cX5_hashOfRuns 105 = .ok (.iinc 7 1, 3) := by decide +kernel
theorem dX5_hashOfRuns_108 : decode cX5_hashOfRuns 108 = .ok (.goto (-47), 3) := by decide +kernel
theorem dX5_hashOfRuns_111 : decode cX5_hashOfRuns 111 = .ok (.iinc 5 1, 3) := by decide +kernel
theorem dX5_hashOfRuns_114 : decode cX5_hashOfRuns 114 = .ok (.goto (-98), 3) := by decide +kernel
theorem dX5_hashOfRuns_117 : decode cX5_hashOfRuns 117 = .ok (.lload_n 3, 1) := by decide +kernel
theorem dX5_hashOfRuns_118 : decode cX5_hashOfRuns 118 = .ok (.lreturn, 1) := by decide +kernel
theorem dX5_hashOfLeaves_0 : decode cX5_hashOfLeaves 0 = .ok (.aload_n 0, 1) := by decide +kernel
theorem dX5_hashOfLeaves_1 : decode cX5_hashOfLeaves 1 = .ok (.getfield 12, 3) := by decide +kernel
theorem dX5_hashOfLeaves_4 : decode cX5_hashOfLeaves 4 = .ok (.getfield 219, 3) := by decide +kernel
theorem dX5_hashOfLeaves_7 : decode cX5_hashOfLeaves 7 = .ok (.astore_n 3, 1) := by decide +kernel
theorem dX5_hashOfLeaves_8 : decode cX5_hashOfLeaves 8 = .ok (.lload_n 1, 1) := by decide +kernel
theorem dX5_hashOfLeaves_9 : decode cX5_hashOfLeaves 9 = .ok (.aload_n 3, 1) := by decide +kernel
theorem dX5_hashOfLeaves_10 : decode cX5_hashOfLeaves 10 = .ok (.getfield 223, 3) := by decide +kernel
theorem dX5_hashOfLeaves_13 : decode cX5_hashOfLeaves 13 = .ok (.getfield 133, 3) := by decide +kernel
theorem dX5_hashOfLeaves_16 : decode cX5_hashOfLeaves 16 = .ok (.i2l, 1) := by decide +kernel
theorem dX5_hashOfLeaves_17 : decode cX5_hashOfLeaves 17 = .ok (.invokestatic 379, 3) := by decide +kernel
theorem dX5_hashOfLeaves_20 : decode cX5_hashOfLeaves 20 = .ok (.lstore 4, 2) := by decide +kernel
theorem dX5_hashOfLeaves_22 : decode cX5_hashOfLeaves 22 = .ok (.lload 4, 2) := by decide +kernel
theorem dX5_hashOfLeaves_24 : decode cX5_hashOfLeaves 24 = .ok (.aload_n 3, 1) := by decide +kernel
theorem dX5_hashOfLeaves_25 : decode cX5_hashOfLeaves 25 = .ok (.getfield 229, 3) := by decide +kernel
theorem dX5_hashOfLeaves_28 : decode cX5_hashOfLeaves 28 = .ok (.i2l, 1) := by decide +kernel
theorem dX5_hashOfLeaves_29 : decode cX5_hashOfLeaves 29 = .ok (.invokestatic 379, 3) := by decide +kernel
theorem dX5_hashOfLeaves_32 : decode cX5_hashOfLeaves 32 = .ok (.lstore 4, 2) := by decide +kernel
theorem dX5_hashOfLeaves_34 : decode cX5_hashOfLeaves 34 = .ok (.iconst 0, 1) := by decide +kernel
theorem dX5_hashOfLeaves_35 : decode cX5_hashOfLeaves 35 = .ok (.istore 6, 2) := by decide +kernel
theorem dX5_hashOfLeaves_37 : decode cX5_hashOfLeaves 37 = .ok (.iload 6, 2) := by decide +kernel
theorem dX5_hashOfLeaves_39 : decode cX5_hashOfLeaves 39 = .ok (.aload_n 3, 1) := by decide +kernel
theorem dX5_hashOfLeaves_40 : decode cX5_hashOfLeaves 40 = .ok (.getfield 229, 3) := by decide +kernel
theorem dX5_hashOfLeaves_43 : decode cX5_hashOfLeaves 43 = .ok (.if_icmp .ge 125, 3) := by decide +kernel
theorem dX5_hashOfLeaves_46 : decode cX5_hashOfLeaves 46 = .ok (.lload 4, 2) := by decide +kernel
theorem dX5_hashOfLeaves_48 : decode cX5_hashOfLeaves 48 = .ok (.aload_n 3, 1) := by decide +kernel
theorem dX5_hashOfLeaves_49 : decode cX5_hashOfLeaves 49 = .ok (.iload 6, 2) := by decide +kernel
theorem dX5_hashOfLeaves_51 : decode cX5_hashOfLeaves 51 = .ok (.invokevirtual 235, 3) := by decide +kernel
theorem dX5_hashOfLeaves_54 : decode cX5_hashOfLeaves 54 = .ok (.i2l, 1) := by decide +kernel
theorem dX5_hashOfLeaves_55 : decode cX5_hashOfLeaves 55 = .ok (.invokestatic 379, 3) := by decide +kernel
theorem dX5_hashOfLeaves_58 : decode cX5_hashOfLeaves 58 = .ok (.lstore 4, 2) := by decide +kernel
theorem dX5_hashOfLeaves_60 : decode cX5_hashOfLeaves 60 = .ok (.aload_n 3, 1) := by decide +kernel
theorem dX5_hashOfLeaves_61 : decode cX5_hashOfLeaves 61 = .ok (.iload 6, 2) := by decide +kernel
theorem dX5_hashOfLeaves_63 : decode cX5_hashOfLeaves 63 = .ok (.iconst 1, 1) := by decide +kernel
theorem dX5_hashOfLeaves_64 : decode cX5_hashOfLeaves 64 = .ok (.iadd, 1) := by decide +kernel
theorem dX5_hashOfLeaves_65 : decode cX5_hashOfLeaves 65 = .ok (.invokevirtual 387, 3) := by decide +kernel
theorem dX5_hashOfLeaves_68 : decode cX5_hashOfLeaves 68 = .ok (.istore 7, 2) := by decide +kernel
theorem dX5_hashOfLeaves_70 : decode cX5_hashOfLeaves 70 = .ok (.aload_n 3, 1) := by decide +kernel
theorem dX5_hashOfLeaves_71 : decode cX5_hashOfLeaves 71 = .ok (.iload 6, 2) := by decide +kernel
theorem dX5_hashOfLeaves_73 : decode cX5_hashOfLeaves 73 = .ok (.invokevirtual 387, 3) := by decide +kernel
theorem dX5_hashOfLeaves_76 : decode cX5_hashOfLeaves 76 = .ok (.istore 8, 2) := by decide +kernel
theorem dX5_hashOfLeaves_78 : decode cX5_hashOfLeaves 78 = .ok (.iload 8, 2) := by decide +kernel
theorem dX5_hashOfLeaves_80 : decode cX5_hashOfLeaves 80 = .ok (.iload 7, 2) := by decide +kernel
theorem dX5_hashOfLeaves_82 : decode cX5_hashOfLeaves 82 = .ok (.if_icmp .ge 52, 3) := by decide +kernel
theorem dX5_hashOfLeaves_85 : decode cX5_hashOfLeaves 85 = .ok (.aload_n 3, 1) := by decide +kernel
theorem dX5_hashOfLeaves_86 : decode cX5_hashOfLeaves 86 = .ok (.iload 8, 2) := by decide +kernel
theorem dX5_hashOfLeaves_88 : decode cX5_hashOfLeaves 88 = .ok (.invokevirtual 390, 3) := by decide +kernel
theorem dX5_hashOfLeaves_91 : decode cX5_hashOfLeaves 91 = .ok (.ifCond .ne 37, 3) := by decide +kernel
theorem dX5_hashOfLeaves_94 : decode cX5_hashOfLeaves 94 = .ok (.lload 4, 2) := by decide +kernel
theorem dX5_hashOfLeaves_96 : decode cX5_hashOfLeaves 96 = .ok (.aload_n 3, 1) := by decide +kernel
theorem dX5_hashOfLeaves_97 : decode cX5_hashOfLeaves 97 = .ok (.getfield 223, 3) := by decide +kernel
theorem dX5_hashOfLeaves_100 : decode cX5_hashOfLeaves 100 = .ok (.iload 8, 2) := by decide +kernel
theorem dX5_hashOfLeaves_102 : decode cX5_hashOfLeaves 102 = .ok (.invokevirtual 185, 3) := by decide +kernel
theorem dX5_hashOfLeaves_105 : decode cX5_hashOfLeaves 105 = .ok (.i2l, 1) := by decide +kernel
theorem dX5_hashOfLeaves_106 : decode cX5_hashOfLeaves 106 = .ok (.invokestatic 379, 3) := by decide +kernel
theorem dX5_hashOfLeaves_109 : decode cX5_hashOfLeaves 109 = .ok (.lstore 4, 2) := by decide +kernel
theorem dX5_hashOfLeaves_111 : decode cX5_hashOfLeaves 111 = .ok (.lload 4, 2) := by decide +kernel
theorem dX5_hashOfLeaves_113 : decode cX5_hashOfLeaves 113 = .ok (.aload_n 3, 1) := by decide +kernel
theorem dX5_hashOfLeaves_114 : decode cX5_hashOfLeaves 114 = .ok (.getfield 223, 3) := by decide +kernel
theorem dX5_hashOfLeaves_117 : decode cX5_hashOfLeaves 117 = .ok (.iload 8, 2) := by decide +kernel
theorem dX5_hashOfLeaves_119 : decode cX5_hashOfLeaves 119 = .ok (.invokevirtual 211, 3) := by decide +kernel
theorem dX5_hashOfLeaves_122 : decode cX5_hashOfLeaves 122 = .ok (.i2l, 1) := by decide +kernel
theorem dX5_hashOfLeaves_123 : decode cX5_hashOfLeaves 123 = .ok (.invokestatic 379, 3) := by decide +kernel
theorem dX5_hashOfLeaves_126 : decode cX5_hashOfLeaves 126 = .ok (.lstore 4, 2) := by decide +kernel
theorem dX5_hashOfLeaves_128 : decode cX5_hashOfLeaves 128 = .ok (.iinc 8 1, 3) := by decide +kernel
theorem dX5_hashOfLeaves_131 : decode cX5_hashOfLeaves 131 = .ok (.goto (-53), 3) := by decide +kernel
theorem dX5_hashOfLeaves_134 : decode cX5_hashOfLeaves 134 = .ok (.lload 4, 2) := by decide +kernel
theorem dX5_hashOfLeaves_136 : decode cX5_hashOfLeaves 136 = .ok (.aload_n 3, 1) := by decide +kernel
theorem dX5_hashOfLeaves_137 : decode cX5_hashOfLeaves 137 = .ok (.iload 6, 2) := by decide +kernel
theorem dX5_hashOfLeaves_139 : decode cX5_hashOfLeaves 139 = .ok (.invokevirtual 243, 3) := by decide +kernel
theorem dX5_hashOfLeaves_142 : decode cX5_hashOfLeaves 142 = .ok (.i2l, 1) := by decide +kernel
theorem dX5_hashOfLeaves_143 : decode cX5_hashOfLeaves 143 = .ok (.invokestatic 379, 3) := by decide +kernel
theorem dX5_hashOfLeaves_146 : decode cX5_hashOfLeaves 146 = .ok (.lstore 4, 2) := by decide +kernel
theorem dX5_hashOfLeaves_148 : decode cX5_hashOfLeaves 148 = .ok (.lload 4, 2) := by decide +kernel
theorem dX5_hashOfLeaves_150 : decode cX5_hashOfLeaves 150 = .ok (.aload_n 3, 1) := by decide +kernel
theorem dX5_hashOfLeaves_151 : decode cX5_hashOfLeaves 151 = .ok (.iload 6, 2) := by decide +kernel
theorem dX5_hashOfLeaves_153 : decode cX5_hashOfLeaves 153 = .ok (.invokevirtual 246, 3) := by decide +kernel
theorem dX5_hashOfLeaves_156 : decode cX5_hashOfLeaves 156 = .ok (.i2l, 1) := by decide +kernel
theorem dX5_hashOfLeaves_157 : decode cX5_hashOfLeaves 157 = .ok (.invokestatic 379, 3) := by decide +kernel
theorem dX5_hashOfLeaves_160 : decode cX5_hashOfLeaves 160 = .ok (.lstore 4, 2) := by decide +kernel
theorem dX5_hashOfLeaves_162 : decode cX5_hashOfLeaves 162 = .ok (.iinc 6 1, 3) := by decide +kernel
theorem dX5_hashOfLeaves_165 : decode cX5_hashOfLeaves 165 = .ok (.goto (-128), 3) := by decide +kernel
theorem dX5_hashOfLeaves_168 : decode cX5_hashOfLeaves 168 = .ok (.lload 4, 2) := by decide +kernel
theorem dX5_hashOfLeaves_170 : decode cX5_hashOfLeaves 170 = .ok (.lreturn, 1) := by decide +kernel
theorem dX5_hashOfNodes_0 : decode cX5_hashOfNodes 0 = .ok (.aload_n 0, 1) := by decide +kernel
theorem dX5_hashOfNodes_1 : decode cX5_hashOfNodes 1 = .ok (.getfield 12, 3) := by decide +kernel
theorem dX5_hashOfNodes_4 : decode cX5_hashOfNodes 4 = .ok (.getfield 219, 3) := by decide +kernel
theorem dX5_hashOfNodes_7 : decode cX5_hashOfNodes 7 = .ok (.astore_n 3, 1) := by decide +kernel
theorem dX5_hashOfNodes_8 : decode cX5_hashOfNodes 8 = .ok (.aload_n 3, 1) := by decide +kernel
theorem dX5_hashOfNodes_9 : decode cX5_hashOfNodes 9 = .ok (.invokevirtual 249, 3) := by decide +kernel
theorem dX5_hashOfNodes_12 : decode cX5_hashOfNodes 12 = .ok (.istore 4, 2) := by decide +kernel
theorem dX5_hashOfNodes_14 : decode cX5_hashOfNodes 14 = .ok (.lload_n 1, 1) := by decide +kernel
theorem dX5_hashOfNodes_15 : decode cX5_hashOfNodes 15 = .ok (.iload 4, 2) := by decide +kernel
theorem dX5_hashOfNodes_17 : decode cX5_hashOfNodes 17 = .ok (.i2l, 1) := by decide +kernel
theorem dX5_hashOfNodes_18 : decode cX5_hashOfNodes 18 = .ok (.invokestatic 379, 3) := by decide +kernel
theorem dX5_hashOfNodes_21 : decode cX5_hashOfNodes 21 = .ok (.lstore 5, 2) := by decide +kernel
theorem dX5_hashOfNodes_23 : decode cX5_hashOfNodes 23 = .ok (.iconst 0, 1) := by decide +kernel
theorem dX5_hashOfNodes_24 : decode cX5_hashOfNodes 24 = .ok (.istore 7, 2) := by decide +kernel
theorem dX5_hashOfNodes_26 : decode cX5_hashOfNodes 26 = .ok (.iload 7, 2) := by decide +kernel
theorem dX5_hashOfNodes_28 : decode cX5_hashOfNodes 28 = .ok (.iload 4, 2) := by decide +kernel
theorem dX5_hashOfNodes_30 : decode cX5_hashOfNodes 30 = .ok (.if_icmp .ge 75, 3) := by decide +kernel
theorem dX5_hashOfNodes_33 : decode cX5_hashOfNodes 33 = .ok (.aload_n 3, 1) := by decide +kernel
theorem dX5_hashOfNodes_34 : decode cX5_hashOfNodes 34 = .ok (.iload 7, 2) := by decide +kernel
theorem dX5_hashOfNodes_36 : decode cX5_hashOfNodes 36 = .ok (.invokevirtual 255, 3) := by decide +kernel
theorem dX5_hashOfNodes_39 : decode cX5_hashOfNodes 39 = .ok (.istore 8, 2) := by decide +kernel
theorem dX5_hashOfNodes_41 : decode cX5_hashOfNodes 41 = .ok (.lload 5, 2) := by decide +kernel
theorem dX5_hashOfNodes_43 : decode cX5_hashOfNodes 43 = .ok (.iload 8, 2) := by decide +kernel
theorem dX5_hashOfNodes_45 : decode cX5_hashOfNodes 45 = .ok (.i2l, 1) := by decide +kernel
theorem dX5_hashOfNodes_46 : decode cX5_hashOfNodes 46 = .ok (.invokestatic 379, 3) := by decide +kernel
theorem dX5_hashOfNodes_49 : decode cX5_hashOfNodes 49 = .ok (.lstore 5, 2) := by decide +kernel
theorem dX5_hashOfNodes_51 : decode cX5_hashOfNodes 51 = .ok (.iconst 0, 1) := by decide +kernel
theorem dX5_hashOfNodes_52 : decode cX5_hashOfNodes 52 = .ok (.istore 9, 2) := by decide +kernel
theorem dX5_hashOfNodes_54 : decode cX5_hashOfNodes 54 = .ok (.iload 9, 2) := by decide +kernel
theorem dX5_hashOfNodes_56 : decode cX5_hashOfNodes 56 = .ok (.iload 8, 2) := by decide +kernel
theorem dX5_hashOfNodes_58 : decode cX5_hashOfNodes 58 = .ok (.if_icmp .ge 41, 3) := by decide +kernel
theorem dX5_hashOfNodes_61 : decode cX5_hashOfNodes 61 = .ok (.lload 5, 2) := by decide +kernel
theorem dX5_hashOfNodes_63 : decode cX5_hashOfNodes 63 = .ok (.aload_n 3, 1) := by decide +kernel
theorem dX5_hashOfNodes_64 : decode cX5_hashOfNodes 64 = .ok (.iload 7, 2) := by decide +kernel
theorem dX5_hashOfNodes_66 : decode cX5_hashOfNodes 66 = .ok (.iload 9, 2) := by decide +kernel
theorem dX5_hashOfNodes_68 : decode cX5_hashOfNodes 68 = .ok (.invokevirtual 261, 3) := by decide +kernel
theorem dX5_hashOfNodes_71 : decode cX5_hashOfNodes 71 = .ok (.i2l, 1) := by decide +kernel
theorem dX5_hashOfNodes_72 : decode cX5_hashOfNodes 72 = .ok (.invokestatic 379, 3) := by decide +kernel
theorem dX5_hashOfNodes_75 : decode cX5_hashOfNodes 75 = .ok (.lstore 5, 2) := by decide +kernel
theorem dX5_hashOfNodes_77 : decode cX5_hashOfNodes 77 = .ok (.lload 5, 2) := by decide +kernel
theorem dX5_hashOfNodes_79 : decode cX5_hashOfNodes 79 = .ok (.aload_n 3, 1) := by decide +kernel
theorem dX5_hashOfNodes_80 : decode cX5_hashOfNodes 80 = .ok (.iload 7, 2) := by decide +kernel
theorem dX5_hashOfNodes_82 : decode cX5_hashOfNodes 82 = .ok (.iload 9, 2) := by decide +kernel
theorem dX5_hashOfNodes_84 : decode cX5_hashOfNodes 84 = .ok (.invokevirtual 264, 3) := by decide +kernel
theorem dX5_hashOfNodes_87 : decode cX5_hashOfNodes 87 = .ok (.i2l, 1) := by decide +kernel
theorem dX5_hashOfNodes_88 : decode cX5_hashOfNodes 88 = .ok (.invokestatic 379, 3) := by decide +kernel
theorem dX5_hashOfNodes_91 : decode cX5_hashOfNodes 91 = .ok (.lstore 5, 2) := by decide +kernel
theorem dX5_hashOfNodes_93 : decode cX5_hashOfNodes 93 = .ok (.iinc 9 1, 3) := by decide +kernel
theorem dX5_hashOfNodes_96 : decode cX5_hashOfNodes 96 = .ok (.goto (-42), 3) := by decide +kernel
theorem dX5_hashOfNodes_99 : decode cX5_hashOfNodes 99 = .ok (.iinc 7 1, 3) := by decide +kernel
theorem dX5_hashOfNodes_102 : decode cX5_hashOfNodes 102 = .ok (.goto (-76), 3) := by decide +kernel
theorem dX5_hashOfNodes_105 : decode cX5_hashOfNodes 105 = .ok (.lload 5, 2) := by decide +kernel
theorem dX5_hashOfNodes_107 : decode cX5_hashOfNodes 107 = .ok (.lreturn, 1) := by decide +kernel
theorem dX5_hashOfFound_0 : decode cX5_hashOfFound 0 = .ok (.lload_n 1, 1) := by decide +kernel
theorem dX5_hashOfFound_1 : decode cX5_hashOfFound 1 = .ok (.aload_n 3, 1) := by decide +kernel
theorem dX5_hashOfFound_2 : decode cX5_hashOfFound 2 = .ok (.getfield 133, 3) := by decide +kernel
theorem dX5_hashOfFound_5 : decode cX5_hashOfFound 5 = .ok (.i2l, 1) := by decide +kernel
theorem dX5_hashOfFound_6 : decode cX5_hashOfFound 6 = .ok (.invokestatic 379, 3) := by decide +kernel
theorem dX5_hashOfFound_9 : decode cX5_hashOfFound 9 = .ok (.lstore 4, 2) := by decide +kernel
theorem dX5_hashOfFound_11 : decode cX5_hashOfFound 11 = .ok (.iconst 0, 1) := by decide +kernel
theorem dX5_hashOfFound_12 : decode cX5_hashOfFound 12 = .ok (.istore 6, 2) := by decide +kernel
theorem dX5_hashOfFound_14 : decode cX5_hashOfFound 14 = .ok (.iload 6, 2) := by decide +kernel
theorem dX5_hashOfFound_16 : decode cX5_hashOfFound 16 = .ok (.aload_n 3, 1) := by decide +kernel
theorem dX5_hashOfFound_17 : decode cX5_hashOfFound 17 = .ok (.getfield 133, 3) := by decide +kernel
theorem dX5_hashOfFound_20 : decode cX5_hashOfFound 20 = .ok (.if_icmp .ge 77, 3) := by decide +kernel
theorem dX5_hashOfFound_23 : decode cX5_hashOfFound 23 = .ok (.aload_n 3, 1) := by decide +kernel
theorem dX5_hashOfFound_24 : decode cX5_hashOfFound 24 = .ok (.iload 6, 2) := by decide +kernel
theorem dX5_hashOfFound_26 : decode cX5_hashOfFound 26 = .ok (.invokevirtual 185, 3) := by decide +kernel
theorem dX5_hashOfFound_29 : decode cX5_hashOfFound 29 = .ok (.istore 7, 2) := by decide +kernel
theorem dX5_hashOfFound_31 : decode cX5_hashOfFound 31 = .ok (.lload 4, 2) := by decide +kernel
theorem dX5_hashOfFound_33 : decode cX5_hashOfFound 33 = .ok (.iload 7, 2) := by decide +kernel
theorem dX5_hashOfFound_35 : decode cX5_hashOfFound 35 = .ok (.i2l, 1) := by decide +kernel
theorem dX5_hashOfFound_36 : decode cX5_hashOfFound 36 = .ok (.invokestatic 379, 3) := by decide +kernel
theorem dX5_hashOfFound_39 : decode cX5_hashOfFound 39 = .ok (.lstore 4, 2) := by decide +kernel
theorem dX5_hashOfFound_41 : decode cX5_hashOfFound 41 = .ok (.lload 4, 2) := by decide +kernel
theorem dX5_hashOfFound_43 : decode cX5_hashOfFound 43 = .ok (.aload_n 0, 1) := by decide +kernel
theorem dX5_hashOfFound_44 : decode cX5_hashOfFound 44 = .ok (.getfield 12, 3) := by decide +kernel
theorem dX5_hashOfFound_47 : decode cX5_hashOfFound 47 = .ok (.iload 7, 2) := by decide +kernel
theorem dX5_hashOfFound_49 : decode cX5_hashOfFound 49 = .ok (.invokevirtual 160, 3) := by decide +kernel
theorem dX5_hashOfFound_52 : decode cX5_hashOfFound 52 = .ok (.i2l, 1) := by decide +kernel
theorem dX5_hashOfFound_53 : decode cX5_hashOfFound 53 = .ok (.invokestatic 379, 3) := by decide +kernel
theorem dX5_hashOfFound_56 : decode cX5_hashOfFound 56 = .ok (.lstore 4, 2) := by decide +kernel
theorem dX5_hashOfFound_58 : decode cX5_hashOfFound 58 = .ok (.lload 4, 2) := by decide +kernel
theorem dX5_hashOfFound_60 : decode cX5_hashOfFound 60 = .ok (.aload_n 0, 1) := by decide +kernel
theorem dX5_hashOfFound_61 : decode cX5_hashOfFound 61 = .ok (.getfield 12, 3) := by decide +kernel
theorem dX5_hashOfFound_64 : decode cX5_hashOfFound 64 = .ok (.iload 7, 2) := by decide +kernel
theorem dX5_hashOfFound_66 : decode cX5_hashOfFound 66 = .ok (.invokevirtual 169, 3) := by decide +kernel
theorem dX5_hashOfFound_69 : decode cX5_hashOfFound 69 = .ok (.i2l, 1) := by decide +kernel
theorem dX5_hashOfFound_70 : decode cX5_hashOfFound 70 = .ok (.invokestatic 379, 3) := by decide +kernel
theorem dX5_hashOfFound_73 : decode cX5_hashOfFound 73 = .ok (.lstore 4, 2) := by decide +kernel
theorem dX5_hashOfFound_75 : decode cX5_hashOfFound 75 = .ok (.lload 4, 2) := by decide +kernel
theorem dX5_hashOfFound_77 : decode cX5_hashOfFound 77 = .ok (.aload_n 0, 1) := by decide +kernel
theorem dX5_hashOfFound_78 : decode cX5_hashOfFound 78 = .ok (.getfield 12, 3) := by decide +kernel
theorem dX5_hashOfFound_81 : decode cX5_hashOfFound 81 = .ok (.iload 7, 2) := by decide +kernel
theorem dX5_hashOfFound_83 : decode cX5_hashOfFound 83 = .ok (.invokevirtual 163, 3) := by decide +kernel
theorem dX5_hashOfFound_86 : decode cX5_hashOfFound 86 = .ok (.invokestatic 383, 3) := by decide +kernel
theorem dX5_hashOfFound_89 : decode cX5_hashOfFound 89 = .ok (.lstore 4, 2) := by decide +kernel
theorem dX5_hashOfFound_91 : decode cX5_hashOfFound 91 = .ok (.iinc 6 1, 3) := by decide +kernel
theorem dX5_hashOfFound_94 : decode cX5_hashOfFound 94 = .ok (.goto (-80), 3) := by decide +kernel
theorem dX5_hashOfFound_97 : decode cX5_hashOfFound 97 = .ok (.lload 4, 2) := by decide +kernel
theorem dX5_hashOfFound_99 : decode cX5_hashOfFound 99 = .ok (.lreturn, 1) := by decide +kernel
theorem dX5_hashOfCounts_0 : decode cX5_hashOfCounts 0 = .ok (.lload_n 1, 1) := by decide +kernel
theorem dX5_hashOfCounts_1 : decode cX5_hashOfCounts 1 = .ok (.aload_n 0, 1) := by decide +kernel
theorem dX5_hashOfCounts_2 : decode cX5_hashOfCounts 2 = .ok (.getfield 12, 3) := by decide +kernel
theorem dX5_hashOfCounts_5 : decode cX5_hashOfCounts 5 = .ok (.iconst 0, 1) := by decide +kernel
theorem dX5_hashOfCounts_6 : decode cX5_hashOfCounts 6 = .ok (.sipush 9999, 3) := by decide +kernel
theorem dX5_hashOfCounts_9 : decode cX5_hashOfCounts 9 = .ok (.invokevirtual 176, 3) := by decide +kernel
theorem dX5_hashOfCounts_12 : decode cX5_hashOfCounts 12 = .ok (.i2l, 1) := by decide +kernel
theorem dX5_hashOfCounts_13 : decode cX5_hashOfCounts 13 = .ok (.invokestatic 379, 3) := by decide +kernel
theorem dX5_hashOfCounts_16 : decode cX5_hashOfCounts 16 = .ok (.lstore 4, 2) := by decide +kernel
theorem dX5_hashOfCounts_18 : decode cX5_hashOfCounts 18 = .ok (.lload 4, 2) := by decide +kernel
theorem dX5_hashOfCounts_20 : decode cX5_hashOfCounts 20 = .ok (.aload_n 3, 1) := by decide +kernel
theorem dX5_hashOfCounts_21 : decode cX5_hashOfCounts 21 = .ok (.iconst 0, 1) := by decide +kernel
theorem dX5_hashOfCounts_22 : decode cX5_hashOfCounts 22 = .ok (.sipush 9999, 3) := by decide +kernel
theorem dX5_hashOfCounts_25 : decode cX5_hashOfCounts 25 = .ok (.invokevirtual 179, 3) := by decide +kernel
theorem dX5_hashOfCounts_28 : decode cX5_hashOfCounts 28 = .ok (.i2l, 1) := by decide +kernel
theorem dX5_hashOfCounts_29 : decode cX5_hashOfCounts 29 = .ok (.invokestatic 379, 3) := by decide +kernel
theorem dX5_hashOfCounts_32 : decode cX5_hashOfCounts 32 = .ok (.lstore 4, 2) := by decide +kernel
theorem dX5_hashOfCounts_34 : decode cX5_hashOfCounts 34 = .ok (.lload 4, 2) := by decide +kernel
theorem dX5_hashOfCounts_36 : decode cX5_hashOfCounts 36 = .ok (.aload_n 0, 1) := by decide +kernel
theorem dX5_hashOfCounts_37 : decode cX5_hashOfCounts 37 = .ok (.getfield 12, 3) := by decide +kernel
theorem dX5_hashOfCounts_40 : decode cX5_hashOfCounts 40 = .ok (.bipush 100, 2) := by decide +kernel
theorem dX5_hashOfCounts_42 : decode cX5_hashOfCounts 42 = .ok (.sipush 500, 3) := by decide +kernel
theorem dX5_hashOfCounts_45 : decode cX5_hashOfCounts 45 = .ok (.invokevirtual 176, 3) := by decide +kernel
theorem dX5_hashOfCounts_48 : decode cX5_hashOfCounts 48 = .ok (.i2l, 1) := by decide +kernel
theorem dX5_hashOfCounts_49 : decode cX5_hashOfCounts 49 = .ok (.invokestatic 379, 3) := by decide +kernel
theorem dX5_hashOfCounts_52 : decode cX5_hashOfCounts 52 = .ok (.lstore 4, 2) := by decide +kernel
theorem dX5_hashOfCounts_54 : decode cX5_hashOfCounts 54 = .ok (.lload 4, 2) := by decide +kernel
theorem dX5_hashOfCounts_56 : decode cX5_hashOfCounts 56 = .ok (.aload_n 3, 1) := by decide +kernel
theorem dX5_hashOfCounts_57 : decode cX5_hashOfCounts 57 = .ok (.bipush 100, 2) := by decide +kernel
theorem dX5_hashOfCounts_59 : decode cX5_hashOfCounts 59 = .ok (.sipush 500, 3) := by decide +kernel
theorem dX5_hashOfCounts_62 : decode cX5_hashOfCounts 62 = .ok (.invokevirtual 179, 3) := by decide +kernel
theorem dX5_hashOfCounts_65 : decode cX5_hashOfCounts 65 = .ok (.i2l, 1) := by decide +kernel
theorem dX5_hashOfCounts_66 : decode cX5_hashOfCounts 66 = .ok (.invokestatic 379, 3) := by decide +kernel
theorem dX5_hashOfCounts_69 : decode cX5_hashOfCounts 69 = .ok (.lreturn, 1) := by decide +kernel
theorem dX5_hashOfAccounts_0 : decode cX5_hashOfAccounts 0 = .ok (.lload_n 1, 1) := by decide +kernel
theorem dX5_hashOfAccounts_1 : decode cX5_hashOfAccounts 1 = .ok (.aload_n 0, 1) := by decide +kernel
theorem dX5_hashOfAccounts_2 : decode cX5_hashOfAccounts 2 = .ok (.getfield 12, 3) := by decide +kernel
theorem dX5_hashOfAccounts_5 : decode cX5_hashOfAccounts 5 = .ok (.getfield 272, 3) := by decide +kernel
theorem dX5_hashOfAccounts_8 : decode cX5_hashOfAccounts 8 = .ok (.i2l, 1) := by decide +kernel
theorem dX5_hashOfAccounts_9 : decode cX5_hashOfAccounts 9 = .ok (.invokestatic 379, 3) := by decide +kernel
theorem dX5_hashOfAccounts_12 : decode cX5_hashOfAccounts 12 = .ok (.lstore 4, 2) := by decide +kernel
theorem dX5_hashOfAccounts_14 : decode cX5_hashOfAccounts 14 = .ok (.lload 4, 2) := by decide +kernel
theorem dX5_hashOfAccounts_16 : decode cX5_hashOfAccounts 16 = .ok (.aload_n 0, 1) := by decide +kernel
theorem dX5_hashOfAccounts_17 : decode cX5_hashOfAccounts 17 = .ok (.getfield 12, 3) := by decide +kernel
theorem dX5_hashOfAccounts_20 : decode cX5_hashOfAccounts 20 = .ok (.getfield 275, 3) := by decide +kernel
theorem dX5_hashOfAccounts_23 : decode cX5_hashOfAccounts 23 = .ok (.i2l, 1) := by decide +kernel
theorem dX5_hashOfAccounts_24 : decode cX5_hashOfAccounts 24 = .ok (.invokestatic 379, 3) := by decide +kernel
theorem dX5_hashOfAccounts_27 : decode cX5_hashOfAccounts 27 = .ok (.lstore 4, 2) := by decide +kernel
theorem dX5_hashOfAccounts_29 : decode cX5_hashOfAccounts 29 = .ok (.lload 4, 2) := by decide +kernel
theorem dX5_hashOfAccounts_31 : decode cX5_hashOfAccounts 31 = .ok (.aload_n 0, 1) := by decide +kernel
theorem dX5_hashOfAccounts_32 : decode cX5_hashOfAccounts 32 = .ok (.getfield 12, 3) := by decide +kernel
theorem dX5_hashOfAccounts_35 : decode cX5_hashOfAccounts 35 = .ok (.invokevirtual 278, 3) := by decide +kernel
theorem dX5_hashOfAccounts_38 : decode cX5_hashOfAccounts 38 = .ok (.i2l, 1) := by decide +kernel
theorem dX5_hashOfAccounts_39 : decode cX5_hashOfAccounts 39 = .ok (.invokestatic 379, 3) := by decide +kernel
theorem dX5_hashOfAccounts_42 : decode cX5_hashOfAccounts 42 = .ok (.lstore 4, 2) := by decide +kernel
theorem dX5_hashOfAccounts_44 : decode cX5_hashOfAccounts 44 = .ok (.lload 4, 2) := by decide +kernel
theorem dX5_hashOfAccounts_46 : decode cX5_hashOfAccounts 46 = .ok (.aload_n 0, 1) := by decide +kernel
theorem dX5_hashOfAccounts_47 : decode cX5_hashOfAccounts 47 = .ok (.aload_n 3, 1) := by decide +kernel
theorem dX5_hashOfAccounts_48 : decode cX5_hashOfAccounts 48 = .ok (.invokevirtual 289, 3) := by decide +kernel
theorem dX5_hashOfAccounts_51 : decode cX5_hashOfAccounts 51 = .ok (.i2l, 1) := by decide +kernel
theorem dX5_hashOfAccounts_52 : decode cX5_hashOfAccounts 52 = .ok (.invokestatic 379, 3) := by decide +kernel
theorem dX5_hashOfAccounts_55 : decode cX5_hashOfAccounts 55 = .ok (.lstore 4, 2) := by decide +kernel
theorem dX5_hashOfAccounts_57 : decode cX5_hashOfAccounts 57 = .ok (.lload 4, 2) := by decide +kernel
theorem dX5_hashOfAccounts_59 : decode cX5_hashOfAccounts 59 = .ok (.aload_n 0, 1) := by decide +kernel
theorem dX5_hashOfAccounts_60 : decode cX5_hashOfAccounts 60 = .ok (.getfield 12, 3) := by decide +kernel
theorem dX5_hashOfAccounts_63 : decode cX5_hashOfAccounts 63 = .ok (.aload_n 3, 1) := by decide +kernel
theorem dX5_hashOfAccounts_64 : decode cX5_hashOfAccounts 64 = .ok (.getfield 133, 3) := by decide +kernel
theorem dX5_hashOfAccounts_67 : decode cX5_hashOfAccounts 67 = .ok (.bipush 50, 2) := by decide +kernel
theorem dX5_hashOfAccounts_69 : decode cX5_hashOfAccounts 69 = .ok (.invokevirtual 293, 3) := by decide +kernel
theorem dX5_hashOfAccounts_72 : decode cX5_hashOfAccounts 72 = .ok (.i2l, 1) := by decide +kernel
theorem dX5_hashOfAccounts_73 : decode cX5_hashOfAccounts 73 = .ok (.invokestatic 379, 3) := by decide +kernel
theorem dX5_hashOfAccounts_76 : decode cX5_hashOfAccounts 76 = .ok (.lstore 4, 2) := by decide +kernel
theorem dX5_hashOfAccounts_78 : decode cX5_hashOfAccounts 78 = .ok (.lload 4, 2) := by decide +kernel
theorem dX5_hashOfAccounts_80 : decode cX5_hashOfAccounts 80 = .ok (.aload_n 0, 1) := by decide +kernel
theorem dX5_hashOfAccounts_81 : decode cX5_hashOfAccounts 81 = .ok (.getfield 12, 3) := by decide +kernel
theorem dX5_hashOfAccounts_84 : decode cX5_hashOfAccounts 84 = .ok (.aload_n 3, 1) := by decide +kernel
theorem dX5_hashOfAccounts_85 : decode cX5_hashOfAccounts 85 = .ok (.getfield 133, 3) := by decide +kernel
theorem dX5_hashOfAccounts_88 : decode cX5_hashOfAccounts 88 = .ok (.bipush 50, 2) := by decide +kernel
theorem dX5_hashOfAccounts_90 : decode cX5_hashOfAccounts 90 = .ok (.invokevirtual 296, 3) := by decide +kernel
theorem dX5_hashOfAccounts_93 : decode cX5_hashOfAccounts 93 = .ok (.i2l, 1) := by decide +kernel
theorem dX5_hashOfAccounts_94 : decode cX5_hashOfAccounts 94 = .ok (.invokestatic 379, 3) := by decide +kernel
theorem dX5_hashOfAccounts_97 : decode cX5_hashOfAccounts 97 = .ok (.lstore 4, 2) := by decide +kernel
theorem dX5_hashOfAccounts_99 : decode cX5_hashOfAccounts 99 = .ok (.lload 4, 2) := by decide +kernel
theorem dX5_hashOfAccounts_101 : decode cX5_hashOfAccounts 101 = .ok (.aload_n 0, 1) := by decide +kernel
theorem dX5_hashOfAccounts_102 : decode cX5_hashOfAccounts 102 = .ok (.getfield 12, 3) := by decide +kernel
theorem dX5_hashOfAccounts_105 : decode cX5_hashOfAccounts 105 = .ok (.aload_n 3, 1) := by decide +kernel
theorem dX5_hashOfAccounts_106 : decode cX5_hashOfAccounts 106 = .ok (.getfield 133, 3) := by decide +kernel
theorem dX5_hashOfAccounts_109 : decode cX5_hashOfAccounts 109 = .ok (.bipush 100, 2) := by decide +kernel
theorem dX5_hashOfAccounts_111 : decode cX5_hashOfAccounts 111 = .ok (.invokevirtual 293, 3) := by decide +kernel
theorem dX5_hashOfAccounts_114 : decode cX5_hashOfAccounts 114 = .ok (.i2l, 1) := by decide +kernel
theorem dX5_hashOfAccounts_115 : decode cX5_hashOfAccounts 115 = .ok (.invokestatic 379, 3) := by decide +kernel
theorem dX5_hashOfAccounts_118 : decode cX5_hashOfAccounts 118 = .ok (.lstore 4, 2) := by decide +kernel
theorem dX5_hashOfAccounts_120 : decode cX5_hashOfAccounts 120 = .ok (.lload 4, 2) := by decide +kernel
theorem dX5_hashOfAccounts_122 : decode cX5_hashOfAccounts 122 = .ok (.aload_n 0, 1) := by decide +kernel
theorem dX5_hashOfAccounts_123 : decode cX5_hashOfAccounts 123 = .ok (.getfield 12, 3) := by decide +kernel
theorem dX5_hashOfAccounts_126 : decode cX5_hashOfAccounts 126 = .ok (.aload_n 3, 1) := by decide +kernel
theorem dX5_hashOfAccounts_127 : decode cX5_hashOfAccounts 127 = .ok (.getfield 133, 3) := by decide +kernel
theorem dX5_hashOfAccounts_130 : decode cX5_hashOfAccounts 130 = .ok (.bipush 100, 2) := by decide +kernel
theorem dX5_hashOfAccounts_132 : decode cX5_hashOfAccounts 132 = .ok (.invokevirtual 296, 3) := by decide +kernel
theorem dX5_hashOfAccounts_135 : decode cX5_hashOfAccounts 135 = .ok (.i2l, 1) := by decide +kernel
theorem dX5_hashOfAccounts_136 : decode cX5_hashOfAccounts 136 = .ok (.invokestatic 379, 3) := by decide +kernel
theorem dX5_hashOfAccounts_139 : decode cX5_hashOfAccounts 139 = .ok (.lstore 4, 2) := by decide +kernel
theorem dX5_hashOfAccounts_141 : decode cX5_hashOfAccounts 141 = .ok (.lload 4, 2) := by decide +kernel
theorem dX5_hashOfAccounts_143 : decode cX5_hashOfAccounts 143 = .ok (.aload_n 0, 1) := by decide +kernel
theorem dX5_hashOfAccounts_144 : decode cX5_hashOfAccounts 144 = .ok (.getfield 157, 3) := by decide +kernel
theorem dX5_hashOfAccounts_147 : decode cX5_hashOfAccounts 147 = .ok (.i2l, 1) := by decide +kernel
theorem dX5_hashOfAccounts_148 : decode cX5_hashOfAccounts 148 = .ok (.invokestatic 379, 3) := by decide +kernel
theorem dX5_hashOfAccounts_151 : decode cX5_hashOfAccounts 151 = .ok (.lstore 4, 2) := by decide +kernel
theorem dX5_hashOfAccounts_153 : decode cX5_hashOfAccounts 153 = .ok (.lload 4, 2) := by decide +kernel
theorem dX5_hashOfAccounts_155 : decode cX5_hashOfAccounts 155 = .ok (.aload_n 0, 1) := by decide +kernel
theorem dX5_hashOfAccounts_156 : decode cX5_hashOfAccounts 156 = .ok (.getfield 12, 3) := by decide +kernel
theorem dX5_hashOfAccounts_159 : decode cX5_hashOfAccounts 159 = .ok (.getfield 219, 3) := by decide +kernel
theorem dX5_hashOfAccounts_162 : decode cX5_hashOfAccounts 162 = .ok (.invokevirtual 281, 3) := by decide +kernel
theorem dX5_hashOfAccounts_165 : decode cX5_hashOfAccounts 165 = .ok (.invokestatic 393, 3) := by decide +kernel
theorem dX5_hashOfAccounts_168 : decode cX5_hashOfAccounts 168 = .ok (.invokestatic 379, 3) := by decide +kernel
theorem dX5_hashOfAccounts_171 : decode cX5_hashOfAccounts 171 = .ok (.lstore 4, 2) := by decide +kernel
theorem dX5_hashOfAccounts_173 : decode cX5_hashOfAccounts 173 = .ok (.lload 4, 2) := by decide +kernel
theorem dX5_hashOfAccounts_175 : decode cX5_hashOfAccounts 175 = .ok (.aload_n 0, 1) := by decide +kernel
theorem dX5_hashOfAccounts_176 : decode cX5_hashOfAccounts 176 = .ok (.aload_n 3, 1) := by decide +kernel
theorem dX5_hashOfAccounts_177 : decode cX5_hashOfAccounts 177 = .ok (.invokevirtual 285, 3) := by decide +kernel
theorem dX5_hashOfAccounts_180 : decode cX5_hashOfAccounts 180 = .ok (.invokestatic 393, 3) := by decide +kernel
theorem dX5_hashOfAccounts_183 : decode cX5_hashOfAccounts 183 = .ok (.invokestatic 379, 3) := by decide +kernel
theorem dX5_hashOfAccounts_186 : decode cX5_hashOfAccounts 186 = .ok (.lreturn, 1) := by decide +kernel
theorem dX5_hashOfTexts_0 : decode cX5_hashOfTexts 0 = .ok (.lload_n 1, 1) := by decide +kernel
theorem dX5_hashOfTexts_1 : decode cX5_hashOfTexts 1 = .ok (.lstore_n 3, 1) := by decide +kernel
theorem dX5_hashOfTexts_2 : decode cX5_hashOfTexts 2 = .ok (.iconst 0, 1) := by decide +kernel
theorem dX5_hashOfTexts_3 : decode cX5_hashOfTexts 3 = .ok (.istore 5, 2) := by decide +kernel
theorem dX5_hashOfTexts_5 : decode cX5_hashOfTexts 5 = .ok (.iload 5, 2) := by decide +kernel
theorem dX5_hashOfTexts_7 : decode cX5_hashOfTexts 7 = .ok (.iconst 2, 1) := by decide +kernel
theorem dX5_hashOfTexts_8 : decode cX5_hashOfTexts 8 = .ok (.if_icmp .ge 28, 3) := by decide +kernel
theorem dX5_hashOfTexts_11 : decode cX5_hashOfTexts 11 = .ok (.lload_n 3, 1) := by decide +kernel
theorem dX5_hashOfTexts_12 : decode cX5_hashOfTexts 12 = .ok (.aload_n 0, 1) := by decide +kernel
theorem dX5_hashOfTexts_13 : decode cX5_hashOfTexts 13 = .ok (.iload 5, 2) := by decide +kernel
theorem dX5_hashOfTexts_15 : decode cX5_hashOfTexts 15 = .ok (.invokevirtual 141, 3) := by decide +kernel
theorem dX5_hashOfTexts_18 : decode cX5_hashOfTexts 18 = .ok (.ifnull 7, 3) := by decide +kernel
theorem dX5_hashOfTexts_21 : decode cX5_hashOfTexts 21 = .ok (.iconst 1, 1) := by decide +kernel
theorem dX5_hashOfTexts_22 : decode cX5_hashOfTexts 22 = .ok (.goto 4, 3) := by decide +kernel
theorem dX5_hashOfTexts_25 : decode cX5_hashOfTexts 25 = .ok (.iconst 0, 1) := by decide +kernel
theorem dX5_hashOfTexts_26 : decode cX5_hashOfTexts 26 = .ok (.invokestatic 383, 3) := by decide +kernel
theorem dX5_hashOfTexts_29 : decode cX5_hashOfTexts 29 = .ok (.lstore_n 3, 1) := by decide +kernel
theorem dX5_hashOfTexts_30 : decode cX5_hashOfTexts 30 = .ok (.iinc 5 1, 3) := by decide +kernel
theorem dX5_hashOfTexts_33 : decode cX5_hashOfTexts 33 = .ok (.goto (-28), 3) := by decide +kernel
theorem dX5_hashOfTexts_36 : decode cX5_hashOfTexts 36 = .ok (.lload_n 3, 1) := by decide +kernel
theorem dX5_hashOfTexts_37 : decode cX5_hashOfTexts 37 = .ok (.aload_n 0, 1) := by decide +kernel
theorem dX5_hashOfTexts_38 : decode cX5_hashOfTexts 38 = .ok (.getfield 105, 3) := by decide +kernel
theorem dX5_hashOfTexts_41 : decode cX5_hashOfTexts 41 = .ok (.i2l, 1) := by decide +kernel
theorem dX5_hashOfTexts_42 : decode cX5_hashOfTexts 42 = .ok (.invokestatic 379, 3) := by decide +kernel
theorem dX5_hashOfTexts_45 : decode cX5_hashOfTexts 45 = .ok (.lstore_n 3, 1) := by decide +kernel
theorem dX5_hashOfTexts_46 : decode cX5_hashOfTexts 46 = .ok (.iconst 0, 1) := by decide +kernel
theorem dX5_hashOfTexts_47 : decode cX5_hashOfTexts 47 = .ok (.istore 5, 2) := by decide +kernel
theorem dX5_hashOfTexts_49 : decode cX5_hashOfTexts 49 = .ok (.iload 5, 2) := by decide +kernel
theorem dX5_hashOfTexts_51 : decode cX5_hashOfTexts 51 = .ok (.aload_n 0, 1) := by decide +kernel
theorem dX5_hashOfTexts_52 : decode cX5_hashOfTexts 52 = .ok (.getfield 105, 3) := by decide +kernel
theorem dX5_hashOfTexts_55 : decode cX5_hashOfTexts 55 = .ok (.if_icmp .ge 32, 3) := by decide +kernel
theorem dX5_hashOfTexts_58 : decode cX5_hashOfTexts 58 = .ok (.iload 5, 2) := by decide +kernel
theorem dX5_hashOfTexts_60 : decode cX5_hashOfTexts 60 = .ok (.aload_n 0, 1) := by decide +kernel
theorem dX5_hashOfTexts_61 : decode cX5_hashOfTexts 61 = .ok (.getfield 26, 3) := by decide +kernel
theorem dX5_hashOfTexts_64 : decode cX5_hashOfTexts 64 = .ok (.arraylength, 1) := by decide +kernel
theorem dX5_hashOfTexts_65 : decode cX5_hashOfTexts 65 = .ok (.if_icmp .ge 22, 3) := by decide +kernel
theorem dX5_hashOfTexts_68 : decode cX5_hashOfTexts 68 = .ok (.lload_n 3, 1) := by decide +kernel
theorem dX5_hashOfTexts_69 : decode cX5_hashOfTexts 69 = .ok (.aload_n 0, 1) := by decide +kernel
theorem dX5_hashOfTexts_70 : decode cX5_hashOfTexts 70 = .ok (.getfield 26, 3) := by decide +kernel
theorem dX5_hashOfTexts_73 : decode cX5_hashOfTexts 73 = .ok (.iload 5, 2) := by decide +kernel
theorem dX5_hashOfTexts_75 : decode cX5_hashOfTexts 75 = .ok (.iaload, 1) := by decide +kernel
theorem dX5_hashOfTexts_76 : decode cX5_hashOfTexts 76 = .ok (.i2l, 1) := by decide +kernel
theorem dX5_hashOfTexts_77 : decode cX5_hashOfTexts 77 = .ok (.invokestatic 379, 3) := by decide +kernel
theorem dX5_hashOfTexts_80 : decode cX5_hashOfTexts 80 = .ok (.lstore_n 3, 1) := by decide +kernel
theorem dX5_hashOfTexts_81 : decode cX5_hashOfTexts 81 = .ok (.iinc 5 1, 3) := by decide +kernel
theorem dX5_hashOfTexts_84 : decode cX5_hashOfTexts 84 = .ok (.goto (-35), 3) := by decide +kernel
theorem dX5_hashOfTexts_87 : decode cX5_hashOfTexts 87 = .ok (.lload_n 3, 1) := by decide +kernel
theorem dX5_hashOfTexts_88 : decode cX5_hashOfTexts 88 = .ok (.lreturn, 1) := by decide +kernel
theorem dX5_bitsOf_0 : decode cX5_bitsOf 0 = .ok (.dload_n 0, 1) := by decide +kernel
theorem dX5_bitsOf_1 : decode cX5_bitsOf 1 = .ok (.dconst 0, 1) := by decide +kernel
theorem dX5_bitsOf_2 : decode cX5_bitsOf 2 = .ok (.dcmp .l, 1) := by decide +kernel
theorem dX5_bitsOf_3 : decode cX5_bitsOf 3 = .ok (.ifCond .gt 5, 3) := by decide +kernel
theorem dX5_bitsOf_6 : decode cX5_bitsOf 6 = .ok (.lconst 0, 1) := by decide +kernel
theorem dX5_bitsOf_7 : decode cX5_bitsOf 7 = .ok (.lreturn, 1) := by decide +kernel
theorem dX5_bitsOf_8 : decode cX5_bitsOf 8 = .ok (.dload_n 0, 1) := by decide +kernel
theorem dX5_bitsOf_9 : decode cX5_bitsOf 9 = .ok (.dstore_n 2, 1) := by decide +kernel
theorem dX5_bitsOf_10 : decode cX5_bitsOf 10 = .ok (.ldc2_w 397, 3) := by decide +kernel
theorem dX5_bitsOf_13 : decode cX5_bitsOf 13 = .ok (.lstore 4, 2) := by decide +kernel
theorem dX5_bitsOf_15 : decode cX5_bitsOf 15 = .ok (.iconst 0, 1) := by decide +kernel
theorem dX5_bitsOf_16 : decode cX5_bitsOf 16 = .ok (.istore 6, 2) := by decide +kernel
theorem dX5_bitsOf_18 : decode cX5_bitsOf 18 = .ok (.iload 6, 2) := by decide +kernel
theorem dX5_bitsOf_20 : decode cX5_bitsOf 20 = .ok (.sipush 1023, 3) := by decide +kernel
theorem dX5_bitsOf_23 : decode cX5_bitsOf 23 = .ok (.if_icmp .ge 29, 3) := by decide +kernel
theorem dX5_bitsOf_26 : decode cX5_bitsOf 26 = .ok (.dload_n 2, 1) := by decide +kernel
theorem dX5_bitsOf_27 : decode cX5_bitsOf 27 = .ok (.ldc2_w 399, 3) := by decide +kernel
theorem dX5_bitsOf_30 : decode cX5_bitsOf 30 = .ok (.dcmp .l, 1) := by decide +kernel
theorem dX5_bitsOf_31 : decode cX5_bitsOf 31 = .ok (.ifCond .lt 21, 3) := by decide +kernel
theorem dX5_bitsOf_34 : decode cX5_bitsOf 34 = .ok (.dload_n 2, 1) := by decide +kernel
theorem dX5_bitsOf_35 : decode cX5_bitsOf 35 = .ok (.ldc2_w 401, 3) := by decide +kernel
theorem dX5_bitsOf_38 : decode cX5_bitsOf 38 = .ok (.dmul, 1) := by decide +kernel
theorem dX5_bitsOf_39 : decode cX5_bitsOf 39 = .ok (.dstore_n 2, 1) := by decide +kernel
theorem dX5_bitsOf_40 : decode cX5_bitsOf 40 = .ok (.lload 4, 2) := by decide +kernel
theorem dX5_bitsOf_42 : decode cX5_bitsOf 42 = .ok (.lconst 1, 1) := by decide +kernel
theorem dX5_bitsOf_43 : decode cX5_bitsOf 43 = .ok (.ladd, 1) := by decide +kernel
theorem dX5_bitsOf_44 : decode cX5_bitsOf 44 = .ok (.lstore 4, 2) := by decide +kernel
theorem dX5_bitsOf_46 : decode cX5_bitsOf 46 = .ok (.iinc 6 1, 3) := by decide +kernel
theorem dX5_bitsOf_49 : decode cX5_bitsOf 49 = .ok (.goto (-31), 3) := by decide +kernel
theorem dX5_bitsOf_52 : decode cX5_bitsOf 52 = .ok (.iconst 0, 1) := by decide +kernel
theorem dX5_bitsOf_53 : decode cX5_bitsOf 53 = .ok (.istore 6, 2) := by decide +kernel
theorem dX5_bitsOf_55 : decode cX5_bitsOf 55 = .ok (.iload 6, 2) := by decide +kernel
theorem dX5_bitsOf_57 : decode cX5_bitsOf 57 = .ok (.sipush 1022, 3) := by decide +kernel
theorem dX5_bitsOf_60 : decode cX5_bitsOf 60 = .ok (.if_icmp .ge 27, 3) := by decide +kernel
theorem dX5_bitsOf_63 : decode cX5_bitsOf 63 = .ok (.dload_n 2, 1) := by decide +kernel
theorem dX5_bitsOf_64 : decode cX5_bitsOf 64 = .ok (.dconst 1, 1) := by decide +kernel
theorem dX5_bitsOf_65 : decode cX5_bitsOf 65 = .ok (.dcmp .g, 1) := by decide +kernel
theorem dX5_bitsOf_66 : decode cX5_bitsOf 66 = .ok (.ifCond .ge 21, 3) := by decide +kernel
theorem dX5_bitsOf_69 : decode cX5_bitsOf 69 = .ok (.dload_n 2, 1) := by decide +kernel
theorem dX5_bitsOf_70 : decode cX5_bitsOf 70 = .ok (.ldc2_w 399, 3) := by decide +kernel
theorem dX5_bitsOf_73 : decode cX5_bitsOf 73 = .ok (.dmul, 1) := by decide +kernel
theorem dX5_bitsOf_74 : decode cX5_bitsOf 74 = .ok (.dstore_n 2, 1) := by decide +kernel
theorem dX5_bitsOf_75 : decode cX5_bitsOf 75 = .ok (.lload 4, 2) := by decide +kernel
theorem dX5_bitsOf_77 : decode cX5_bitsOf 77 = .ok (.lconst 1, 1) := by decide +kernel
theorem dX5_bitsOf_78 : decode cX5_bitsOf 78 = .ok (.lsub, 1) := by decide +kernel
theorem dX5_bitsOf_79 : decode cX5_bitsOf 79 = .ok (.lstore 4, 2) := by decide +kernel
theorem dX5_bitsOf_81 : decode cX5_bitsOf 81 = .ok (.iinc 6 1, 3) := by decide +kernel
theorem dX5_bitsOf_84 : decode cX5_bitsOf 84 = .ok (.goto (-29), 3) := by decide +kernel
theorem dX5_bitsOf_87 : decode cX5_bitsOf 87 = .ok (.lload 4, 2) := by decide +kernel
theorem dX5_bitsOf_89 : decode cX5_bitsOf 89 = .ok (.bipush 52, 2) := by decide +kernel
theorem dX5_bitsOf_91 : decode cX5_bitsOf 91 = .ok (.lshl, 1) := by decide +kernel
theorem dX5_bitsOf_92 : decode cX5_bitsOf 92 = .ok (.dload_n 2, 1) := by decide +kernel
theorem dX5_bitsOf_93 : decode cX5_bitsOf 93 = .ok (.dconst 1, 1) := by decide +kernel
theorem dX5_bitsOf_94 : decode cX5_bitsOf 94 = .ok (.dsub, 1) := by decide +kernel
theorem dX5_bitsOf_95 : decode cX5_bitsOf 95 = .ok (.ldc2_w 403, 3) := by decide +kernel
theorem dX5_bitsOf_98 : decode cX5_bitsOf 98 = .ok (.dmul, 1) := by decide +kernel
theorem dX5_bitsOf_99 : decode cX5_bitsOf 99 = .ok (.d2l, 1) := by decide +kernel
theorem dX5_bitsOf_100 : decode cX5_bitsOf 100 = .ok (.ladd, 1) := by decide +kernel
theorem dX5_bitsOf_101 : decode cX5_bitsOf 101 = .ok (.lreturn, 1) := by decide +kernel
theorem dJ9_max_7cf53_0 : decode cJ9_max_7cf53 0 = .ok (.iload_n 0, 1) := by decide +kernel
theorem dJ9_max_7cf53_1 : decode cJ9_max_7cf53 1 = .ok (.iload_n 1, 1) := by decide +kernel
theorem dJ9_max_7cf53_2 : decode cJ9_max_7cf53 2 = .ok (.if_icmp .lt 7, 3) := by decide +kernel
theorem dJ9_max_7cf53_5 : decode cJ9_max_7cf53 5 = .ok (.iload_n 0, 1) := by decide +kernel
theorem dJ9_max_7cf53_6 : decode cJ9_max_7cf53 6 = .ok (.goto 4, 3) := by decide +kernel
theorem dJ9_max_7cf53_9 : decode cJ9_max_7cf53 9 = .ok (.iload_n 1, 1) := by decide +kernel
theorem dJ9_max_7cf53_10 : decode cJ9_max_7cf53 10 = .ok (.ireturn, 1) := by decide +kernel
theorem dJ9_min_7cf53_0 : decode cJ9_min_7cf53 0 = .ok (.iload_n 0, 1) := by decide +kernel
theorem dJ9_min_7cf53_1 : decode cJ9_min_7cf53 1 = .ok (.iload_n 1, 1) := by decide +kernel
theorem dJ9_min_7cf53_2 : decode cJ9_min_7cf53 2 = .ok (.if_icmp .gt 7, 3) := by decide +kernel
theorem dJ9_min_7cf53_5 : decode cJ9_min_7cf53 5 = .ok (.iload_n 0, 1) := by decide +kernel
theorem dJ9_min_7cf53_6 : decode cJ9_min_7cf53 6 = .ok (.goto 4, 3) := by decide +kernel
theorem dJ9_min_7cf53_9 : decode cJ9_min_7cf53 9 = .ok (.iload_n 1, 1) := by decide +kernel
theorem dJ9_min_7cf53_10 : decode cJ9_min_7cf53 10 = .ok (.ireturn, 1) := by decide +kernel
