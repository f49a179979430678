theorem dX0_init_0 : decode cX0_init 0 = .ok (.aload_n 0, 1) := by decide +kernel
theorem dX0_init_1 : decode cX0_init 1 = .ok (.invokespecial 3, 3) := by decide +kernel
theorem dX0_init_4 : decode cX0_init 4 = .ok (.aload_n 0, 1) := by decide +kernel
theorem dX0_init_5 : decode cX0_init 5 = .ok (.new 9, 3) := by decide +kernel
theorem dX0_init_8 : decode cX0_init 8 = .ok (.dup, 1) := by decide +kernel
theorem dX0_init_9 : decode cX0_init 9 = .ok (.sipush 532, 3) := by decide +kernel
theorem dX0_init_12 : decode cX0_init 12 = .ok (.invokespecial 11, 3) := by decide +kernel
theorem dX0_init_15 : decode cX0_init 15 = .ok (.putfield 14, 3) := by decide +kernel
theorem dX0_init_18 : decode cX0_init 18 = .ok (.aload_n 0, 1) := by decide +kernel
theorem dX0_init_19 : decode cX0_init 19 = .ok (.new 9, 3) := by decide +kernel
theorem dX0_init_22 : decode cX0_init 22 = .ok (.dup, 1) := by decide +kernel
theorem dX0_init_23 : decode cX0_init 23 = .ok (.sipush 532, 3) := by decide +kernel
theorem dX0_init_26 : decode cX0_init 26 = .ok (.invokespecial 11, 3) := by decide +kernel
theorem dX0_init_29 : decode cX0_init 29 = .ok (.putfield 20, 3) := by decide +kernel
theorem dX0_init_32 : decode cX0_init 32 = .ok (.return_, 1) := by decide +kernel
theorem dX0_gather_0 : decode cX0_gather 0 = .ok (.aload_n 0, 1) := by decide +kernel
theorem dX0_gather_1 : decode cX0_gather 1 = .ok (.getfield 14, 3) := by decide +kernel
theorem dX0_gather_4 : decode cX0_gather 4 = .ok (.aload_n 1, 1) := by decide +kernel
theorem dX0_gather_5 : decode cX0_gather 5 = .ok (.getfield 23, 3) := by decide +kernel
theorem dX0_gather_8 : decode cX0_gather 8 = .ok (.getfield 29, 3) := by decide +kernel
theorem dX0_gather_11 : decode cX0_gather 11 = .ok (.invokevirtual 32, 3) := by decide +kernel
theorem dX0_gather_14 : decode cX0_gather 14 = .ok (.aload_n 1, 1) := by decide +kernel
theorem dX0_gather_15 : decode cX0_gather 15 = .ok (.getfield 36, 3) := by decide +kernel
theorem dX0_gather_18 : decode cX0_gather 18 = .ok (.istore_n 2, 1) := by decide +kernel
theorem dX0_gather_19 : decode cX0_gather 19 = .ok (.iload_n 2, 1) := by decide +kernel
theorem dX0_gather_20 : decode cX0_gather 20 = .ok (.ifCond .lt 49, 3) := by decide +kernel
theorem dX0_gather_23 : decode cX0_gather 23 = .ok (.aload_n 1, 1) := by decide +kernel
theorem dX0_gather_24 : decode cX0_gather 24 = .ok (.iload_n 2, 1) := by decide +kernel
theorem dX0_gather_25 : decode cX0_gather 25 = .ok (.invokevirtual 40, 3) := by decide +kernel
theorem dX0_gather_28 : decode cX0_gather 28 = .ok (.astore_n 3, 1) := by decide +kernel
theorem dX0_gather_29 : decode cX0_gather 29 = .ok (.aload_n 3, 1) := by decide +kernel
theorem dX0_gather_30 : decode cX0_gather 30 = .ok (.ifnull 33, 3) := by decide +kernel
theorem dX0_gather_33 : decode cX0_gather 33 = .ok (.aload_n 0, 1) := by decide +kernel
theorem dX0_gather_34 : decode cX0_gather 34 = .ok (.getfield 20, 3) := by decide +kernel
theorem dX0_gather_37 : decode cX0_gather 37 = .ok (.astore 4, 2) := by decide +kernel
theorem dX0_gather_39 : decode cX0_gather 39 = .ok (.aload 4, 2) := by decide +kernel
theorem dX0_gather_41 : decode cX0_gather 41 = .ok (.aload_n 0, 1) := by decide +kernel
theorem dX0_gather_42 : decode cX0_gather 42 = .ok (.getfield 14, 3) := by decide +kernel
theorem dX0_gather_45 : decode cX0_gather 45 = .ok (.aload_n 3, 1) := by decide +kernel
theorem dX0_gather_46 : decode cX0_gather 46 = .ok (.invokevirtual 44, 3) := by decide +kernel
theorem dX0_gather_49 : decode cX0_gather 49 = .ok (.aload_n 0, 1) := by decide +kernel
theorem dX0_gather_50 : decode cX0_gather 50 = .ok (.aload_n 0, 1) := by decide +kernel
theorem dX0_gather_51 : decode cX0_gather 51 = .ok (.getfield 14, 3) := by decide +kernel
theorem dX0_gather_54 : decode cX0_gather 54 = .ok (.putfield 20, 3) := by decide +kernel
theorem dX0_gather_57 : decode cX0_gather 57 = .ok (.aload_n 0, 1) := by decide +kernel
theorem dX0_gather_58 : decode cX0_gather 58 = .ok (.aload 4, 2) := by decide +kernel
theorem dX0_gather_60 : decode cX0_gather 60 = .ok (.putfield 14, 3) := by decide +kernel
theorem dX0_gather_63 : decode cX0_gather 63 = .ok (.iinc 2 (-1), 3) := by decide +kernel
theorem dX0_gather_66 : decode cX0_gather 66 = .ok (.goto (-47), 3) := by decide +kernel
theorem dX0_gather_69 : decode cX0_gather 69 = .ok (.aload_n 0, 1) := by decide +kernel
theorem dX0_gather_70 : decode cX0_gather 70 = .ok (.getfield 14, 3) := by decide +kernel
theorem dX0_gather_73 : decode cX0_gather 73 = .ok (.invokevirtual 48, 3) := by decide +kernel
theorem dX0_gather_76 : decode cX0_gather 76 = .ok (.aload_n 0, 1) := by decide +kernel
theorem dX0_gather_77 : decode cX0_gather 77 = .ok (.getfield 14, 3) := by decide +kernel
theorem dX0_gather_80 : decode cX0_gather 80 = .ok (.areturn, 1) := by decide +kernel
theorem dX0_merge_0 : decode cX0_merge 0 = .ok (.aload_n 0, 1) := by decide +kernel
theorem dX0_merge_1 : decode cX0_merge 1 = .ok (.getfield 14, 3) := by decide +kernel
theorem dX0_merge_4 : decode cX0_merge 4 = .ok (.aload_n 1, 1) := by decide +kernel
theorem dX0_merge_5 : decode cX0_merge 5 = .ok (.aload_n 2, 1) := by decide +kernel
theorem dX0_merge_6 : decode cX0_merge 6 = .ok (.invokevirtual 44, 3) := by decide +kernel
theorem dX0_merge_9 : decode cX0_merge 9 = .ok (.aload_n 0, 1) := by decide +kernel
theorem dX0_merge_10 : decode cX0_merge 10 = .ok (.getfield 14, 3) := by decide +kernel
theorem dX0_merge_13 : decode cX0_merge 13 = .ok (.areturn, 1) := by decide +kernel
theorem dX1_init_0 : decode cX1_init 0 = .ok (.aload_n 0, 1) := by decide +kernel
theorem dX1_init_1 : decode cX1_init 1 = .ok (.invokespecial 3, 3) := by decide +kernel
theorem dX1_init_4 : decode cX1_init 4 = .ok (.return_, 1) := by decide +kernel
theorem dX1_begin_0 : decode cX1_begin 0 = .ok (.aload_n 0, 1) := by decide +kernel
theorem dX1_begin_1 : decode cX1_begin 1 = .ok (.iconst 0, 1) := by decide +kernel
theorem dX1_begin_2 : decode cX1_begin 2 = .ok (.putfield 11, 3) := by decide +kernel
theorem dX1_begin_5 : decode cX1_begin 5 = .ok (.aload_n 0, 1) := by decide +kernel
theorem dX1_begin_6 : decode cX1_begin 6 = .ok (.iconst 0, 1) := by decide +kernel
theorem dX1_begin_7 : decode cX1_begin 7 = .ok (.putfield 15, 3) := by decide +kernel
theorem dX1_begin_10 : decode cX1_begin 10 = .ok (.aload_n 0, 1) := by decide +kernel
theorem dX1_begin_11 : decode cX1_begin 11 = .ok (.iconst 0, 1) := by decide +kernel
theorem dX1_begin_12 : decode cX1_begin 12 = .ok (.putfield 18, 3) := by decide +kernel
theorem dX1_begin_15 : decode cX1_begin 15 = .ok (.aload_n 0, 1) := by decide +kernel
theorem dX1_begin_16 : decode cX1_begin 16 = .ok (.iconst 0, 1) := by decide +kernel
theorem dX1_begin_17 : decode cX1_begin 17 = .ok (.putfield 21, 3) := by decide +kernel
theorem dX1_begin_20 : decode cX1_begin 20 = .ok (.return_, 1) := by decide +kernel
theorem dX1_errorIn_0 : decode cX1_errorIn 0 = .ok (.aload_n 0, 1) := by decide +kernel
theorem dX1_errorIn_1 : decode cX1_errorIn 1 = .ok (.invokevirtual 24, 3) := by decide +kernel
theorem dX1_errorIn_4 : decode cX1_errorIn 4 = .ok (.iconst 0, 1) := by decide +kernel
theorem dX1_errorIn_5 : decode cX1_errorIn 5 = .ok (.istore_n 3, 1) := by decide +kernel
theorem dX1_errorIn_6 : decode cX1_errorIn 6 = .ok (.iload_n 3, 1) := by decide +kernel
theorem dX1_errorIn_7 : decode cX1_errorIn 7 = .ok (.iload_n 2, 1) := by decide +kernel
theorem dX1_errorIn_8 : decode cX1_errorIn 8 = .ok (.if_icmp .ge 27, 3) := by decide +kernel
theorem dX1_errorIn_11 : decode cX1_errorIn 11 = .ok (.iload_n 3, 1) := by decide +kernel
theorem dX1_errorIn_12 : decode cX1_errorIn 12 = .ok (.aload_n 1, 1) := by decide +kernel
theorem dX1_errorIn_13 : decode cX1_errorIn 13 = .ok (.arraylength, 1) := by decide +kernel
theorem dX1_errorIn_14 : decode cX1_errorIn 14 = .ok (.if_icmp .ge 21, 3) := by decide +kernel
theorem dX1_errorIn_17 : decode cX1_errorIn 17 = .ok (.aload_n 0, 1) := by decide +kernel
theorem dX1_errorIn_18 : decode cX1_errorIn 18 = .ok (.aload_n 1, 1) := by decide +kernel
theorem dX1_errorIn_19 : decode cX1_errorIn 19 = .ok (.iload_n 3, 1) := by decide +kernel
theorem dX1_errorIn_20 : decode cX1_errorIn 20 = .ok (.iaload, 1) := by decide +kernel
theorem dX1_errorIn_21 : decode cX1_errorIn 21 = .ok (.invokevirtual 27, 3) := by decide +kernel
theorem dX1_errorIn_24 : decode cX1_errorIn 24 = .ok (.ifCond .ne 5, 3) := by decide +kernel
theorem dX1_errorIn_27 : decode cX1_errorIn 27 = .ok (.iload_n 3, 1) := by decide +kernel
theorem dX1_errorIn_28 : decode cX1_errorIn 28 = .ok (.ireturn, 1) := by decide +kernel
theorem dX1_errorIn_29 : decode cX1_errorIn 29 = .ok (.iinc 3 1, 3) := by decide +kernel
theorem dX1_errorIn_32 : decode cX1_errorIn 32 = .ok (.goto (-26), 3) := by decide +kernel
theorem dX1_errorIn_35 : decode cX1_errorIn 35 = .ok (.iload_n 2, 1) := by decide +kernel
theorem dX1_errorIn_36 : decode cX1_errorIn 36 = .ok (.ireturn, 1) := by decide +kernel
theorem dX1_tellsOrders_0 : decode cX1_tellsOrders 0 = .ok (.aload_n 0, 1) := by decide +kernel
theorem dX1_tellsOrders_1 : decode cX1_tellsOrders 1 = .ok (.aload_n 1, 1) := by decide +kernel
theorem dX1_tellsOrders_2 : decode cX1_tellsOrders 2 = .ok (.iload_n 2, 1) := by decide +kernel
theorem dX1_tellsOrders_3 : decode cX1_tellsOrders 3 = .ok (.invokevirtual 31, 3) := by decide +kernel
theorem dX1_tellsOrders_6 : decode cX1_tellsOrders 6 = .ok (.iload_n 2, 1) := by decide +kernel
theorem dX1_tellsOrders_7 : decode cX1_tellsOrders 7 = .ok (.if_icmp .ne 14, 3) := by decide +kernel
theorem dX1_tellsOrders_10 : decode cX1_tellsOrders 10 = .ok (.aload_n 0, 1) := by decide +kernel
theorem dX1_tellsOrders_11 : decode cX1_tellsOrders 11 = .ok (.invokevirtual 35, 3) := by decide +kernel
theorem dX1_tellsOrders_14 : decode cX1_tellsOrders 14 = .ok (.ifCond .eq 7, 3) := by decide +kernel
theorem dX1_tellsOrders_17 : decode cX1_tellsOrders 17 = .ok (.iconst 1, 1) := by decide +kernel
theorem dX1_tellsOrders_18 : decode cX1_tellsOrders 18 = .ok (.goto 4, 3) := by decide +kernel
theorem dX1_tellsOrders_21 : decode cX1_tellsOrders 21 = .ok (.iconst 0, 1) := by decide +kernel
theorem dX1_tellsOrders_22 : decode cX1_tellsOrders 22 = .ok (.ireturn, 1) := by decide +kernel
theorem dX1_isComplete_0 : decode cX1_isComplete 0 = .ok (.aload_n 0, 1) := by decide +kernel
theorem dX1_isComplete_1 : decode cX1_isComplete 1 = .ok (.getfield 11, 3) := by decide +kernel
theorem dX1_isComplete_4 : decode cX1_isComplete 4 = .ok (.bipush 7, 2) := by decide +kernel
theorem dX1_isComplete_6 : decode cX1_isComplete 6 = .ok (.if_icmp .eq 37, 3) := by decide +kernel
theorem dX1_isComplete_9 : decode cX1_isComplete 9 = .ok (.aload_n 0, 1) := by decide +kernel
theorem dX1_isComplete_10 : decode cX1_isComplete 10 = .ok (.getfield 11, 3) := by decide +kernel
theorem dX1_isComplete_13 : decode cX1_isComplete 13 = .ok (.iconst 4, 1) := by decide +kernel
theorem dX1_isComplete_14 : decode cX1_isComplete 14 = .ok (.if_icmp .eq 29, 3) := by decide +kernel
theorem dX1_isComplete_17 : decode cX1_isComplete 17 = .ok (.aload_n 0, 1) := by decide +kernel
theorem dX1_isComplete_18 : decode cX1_isComplete 18 = .ok (.getfield 11, 3) := by decide +kernel
theorem dX1_isComplete_21 : decode cX1_isComplete 21 = .ok (.iconst 2, 1) := by decide +kernel
theorem dX1_isComplete_22 : decode cX1_isComplete 22 = .ok (.if_icmp .ne 25, 3) := by decide +kernel
theorem dX1_isComplete_25 : decode cX1_isComplete 25 = .ok (.aload_n 0, 1) := by decide +kernel
theorem dX1_isComplete_26 : decode cX1_isComplete 26 = .ok (.getfield 15, 3) := by decide +kernel
theorem dX1_isComplete_29 : decode cX1_isComplete 29 = .ok (.bipush 112, 2) := by decide +kernel
theorem dX1_isComplete_31 : decode cX1_isComplete 31 = .ok (.if_icmp .eq 16, 3) := by decide +kernel
theorem dX1_isComplete_34 : decode cX1_isComplete 34 = .ok (.aload_n 0, 1) := by decide +kernel
theorem dX1_isComplete_35 : decode cX1_isComplete 35 = .ok (.getfield 15, 3) := by decide +kernel
theorem dX1_isComplete_38 : decode cX1_isComplete 38 = .ok (.bipush 105, 2) := by decide +kernel
theorem dX1_isComplete_40 : decode cX1_isComplete 40 = .ok (.if_icmp .eq 7, 3) := by decide +kernel
theorem dX1_isComplete_43 : decode cX1_isComplete 43 = .ok (.iconst 1, 1) := by decide +kernel
theorem dX1_isComplete_44 : decode cX1_isComplete 44 = .ok (.goto 4, 3) := by decide +kernel
theorem dX1_isComplete_47 : decode cX1_isComplete 47 = .ok (.iconst 0, 1) := by decide +kernel
theorem dX1_isComplete_48 : decode cX1_isComplete 48 = .ok (.ireturn, 1) := by decide +kernel
theorem dX1_accepts_0 : decode cX1_accepts 0 = .ok (.aload_n 0, 1) := by decide +kernel
theorem dX1_accepts_1 : decode cX1_accepts 1 = .ok (.aload_n 0, 1) := by decide +kernel
theorem dX1_accepts_2 : decode cX1_accepts 2 = .ok (.iload_n 1, 1) := by decide +kernel
theorem dX1_accepts_3 : decode cX1_accepts 3 = .ok (.invokevirtual 39, 3) := by decide +kernel
theorem dX1_accepts_6 : decode cX1_accepts 6 = .ok (.putfield 11, 3) := by decide +kernel
theorem dX1_accepts_9 : decode cX1_accepts 9 = .ok (.aload_n 0, 1) := by decide +kernel
theorem dX1_accepts_10 : decode cX1_accepts 10 = .ok (.getfield 11, 3) := by decide +kernel
theorem dX1_accepts_13 : decode cX1_accepts 13 = .ok (.bipush 8, 2) := by decide +kernel
theorem dX1_accepts_15 : decode cX1_accepts 15 = .ok (.if_icmp .eq 7, 3) := by decide +kernel
theorem dX1_accepts_18 : decode cX1_accepts 18 = .ok (.iconst 1, 1) := by decide +kernel
theorem dX1_accepts_19 : decode cX1_accepts 19 = .ok (.goto 4, 3) := by decide +kernel
theorem dX1_accepts_22 : decode cX1_accepts 22 = .ok (.iconst 0, 1) := by decide +kernel
theorem dX1_accepts_23 : decode cX1_accepts 23 = .ok (.ireturn, 1) := by decide +kernel
theorem dX1_modeAfter_0 : decode cX1_modeAfter 0 = .ok (.iload_n 1, 1) := by decide +kernel
theorem dX1_modeAfter_1 : decode cX1_modeAfter 1 = .ok (.bipush 59, 2) := by decide +kernel
theorem dX1_modeAfter_3 : decode cX1_modeAfter 3 = .ok (.if_icmp .ne 12, 3) := by decide +kernel
theorem dX1_modeAfter_6 : decode cX1_modeAfter 6 = .ok (.aload_n 0, 1) := by decide +kernel
theorem dX1_modeAfter_7 : decode cX1_modeAfter 7 = .ok (.invokevirtual 35, 3) := by decide +kernel
theorem dX1_modeAfter_10 : decode cX1_modeAfter 10 = .ok (.ifCond .eq 5, 3) := by decide +kernel
theorem dX1_modeAfter_13 : decode cX1_modeAfter 13 = .ok (.iconst 0, 1) := by decide +kernel
theorem dX1_modeAfter_14 : decode cX1_modeAfter 14 = .ok (.ireturn, 1) := by decide +kernel
theorem dX1_modeAfter_15 : decode cX1_modeAfter 15 = .ok (.aload_n 0, 1) := by decide +kernel
theorem dX1_modeAfter_16 : decode cX1_modeAfter 16 = .ok (.getfield 11, 3) := by decide +kernel
theorem dX1_modeAfter_19 : decode cX1_modeAfter 19 = .ok (.tableswitch 65 0 6 #[41, 47, 47, 53, 53, 59, 59], 41) := by decide +kernel
theorem dX1_modeAfter_60 : decode cX1_modeAfter 60 = .ok (.aload_n 0, 1) := by decide +kernel
theorem dX1_modeAfter_61 : decode cX1_modeAfter 61 = .ok (.iload_n 1, 1) := by decide +kernel
theorem dX1_modeAfter_62 : decode cX1_modeAfter 62 = .ok (.invokevirtual 43, 3) := by decide +kernel
theorem dX1_modeAfter_65 : decode cX1_modeAfter 65 = .ok (.ireturn, 1) := by decide +kernel
theorem dX1_modeAfter_66 : decode cX1_modeAfter 66 = .ok (.aload_n 0, 1) := by decide +kernel
theorem dX1_modeAfter_67 : decode cX1_modeAfter 67 = .ok (.iload_n 1, 1) := by decide +kernel
theorem dX1_modeAfter_68 : decode cX1_modeAfter 68 = .ok (.invokevirtual 46, 3) := by decide +kernel
theorem dX1_modeAfter_71 : decode cX1_modeAfter 71 = .ok (.ireturn, 1) := by decide +kernel
theorem dX1_modeAfter_72 : decode cX1_modeAfter 72 = .ok (.aload_n 0, 1) := by decide +kernel
theorem dX1_modeAfter_73 : decode cX1_modeAfter 73 = .ok (.iload_n 1, 1) := by decide +kernel
theorem dX1_modeAfter_74 : decode cX1_modeAfter 74 = .ok (.invokevirtual 49, 3) := by decide +kernel
theorem dX1_modeAfter_77 : decode cX1_modeAfter 77 = .ok (.ireturn, 1) := by decide +kernel
theorem dX1_modeAfter_78 : decode cX1_modeAfter 78 = .ok (.aload_n 0, 1) := by decide +kernel
theorem dX1_modeAfter_79 : decode cX1_modeAfter 79 = .ok (.iload_n 1, 1) := by decide +kernel
theorem dX1_modeAfter_80 : decode cX1_modeAfter 80 = .ok (.invokevirtual 52, 3) := by decide +kernel
theorem dX1_modeAfter_83 : decode cX1_modeAfter 83 = .ok (.ireturn, 1) := by decide +kernel
theorem dX1_modeAfter_84 : decode cX1_modeAfter 84 = .ok (.bipush 8, 2) := by decide +kernel
theorem dX1_modeAfter_86 : decode cX1_modeAfter 86 = .ok (.ireturn, 1) := by decide +kernel
theorem dX1_readLetter_0 : decode cX1_readLetter 0 = .ok (.aload_n 0, 1) := by decide +kernel
theorem dX1_readLetter_1 : decode cX1_readLetter 1 = .ok (.iload_n 1, 1) := by decide +kernel
theorem dX1_readLetter_2 : decode cX1_readLetter 2 = .ok (.putfield 15, 3) := by decide +kernel
theorem dX1_readLetter_5 : decode cX1_readLetter 5 = .ok (.aload_n 0, 1) := by decide +kernel
theorem dX1_readLetter_6 : decode cX1_readLetter 6 = .ok (.iconst 0, 1) := by decide +kernel
theorem dX1_readLetter_7 : decode cX1_readLetter 7 = .ok (.putfield 18, 3) := by decide +kernel
theorem dX1_readLetter_10 : decode cX1_readLetter 10 = .ok (.aload_n 0, 1) := by decide +kernel
theorem dX1_readLetter_11 : decode cX1_readLetter 11 = .ok (.iconst 0, 1) := by decide +kernel
theorem dX1_readLetter_12 : decode cX1_readLetter 12 = .ok (.putfield 21, 3) := by decide +kernel
theorem dX1_readLetter_15 : decode cX1_readLetter 15 = .ok (.iload_n 1, 1) := by decide +kernel
theorem dX1_readLetter_16 : decode cX1_readLetter 16 = .ok (.tableswitch 83 98 112 #[78, 80, 76, 76, 83, 83, 83, 76, 83, 83, 83, 83, 83, 83, 76], 76) := by decide +kernel
theorem dX1_readLetter_92 : decode cX1_readLetter 92 = .ok (.iconst 1, 1) := by decide +kernel
theorem dX1_readLetter_93 : decode cX1_readLetter 93 = .ok (.ireturn, 1) := by decide +kernel
theorem dX1_readLetter_94 : decode cX1_readLetter 94 = .ok (.iconst 5, 1) := by decide +kernel
theorem dX1_readLetter_95 : decode cX1_readLetter 95 = .ok (.ireturn, 1) := by decide +kernel
theorem dX1_readLetter_96 : decode cX1_readLetter 96 = .ok (.bipush 7, 2) := by decide +kernel
theorem dX1_readLetter_98 : decode cX1_readLetter 98 = .ok (.ireturn, 1) := by decide +kernel
theorem dX1_readLetter_99 : decode cX1_readLetter 99 = .ok (.bipush 8, 2) := by decide +kernel
theorem dX1_readLetter_101 : decode cX1_readLetter 101 = .ok (.ireturn, 1) := by decide +kernel
theorem dX1_readKey_0 : decode cX1_readKey 0 = .ok (.iload_n 1, 1) := by decide +kernel
theorem dX1_readKey_1 : decode cX1_readKey 1 = .ok (.bipush 61, 2) := by decide +kernel
theorem dX1_readKey_3 : decode cX1_readKey 3 = .ok (.if_icmp .ne 31, 3) := by decide +kernel
theorem dX1_readKey_6 : decode cX1_readKey 6 = .ok (.aload_n 0, 1) := by decide +kernel
theorem dX1_readKey_7 : decode cX1_readKey 7 = .ok (.getfield 11, 3) := by decide +kernel
theorem dX1_readKey_10 : decode cX1_readKey 10 = .ok (.iconst 2, 1) := by decide +kernel
theorem dX1_readKey_11 : decode cX1_readKey 11 = .ok (.if_icmp .ne 23, 3) := by decide +kernel
theorem dX1_readKey_14 : decode cX1_readKey 14 = .ok (.aload_n 0, 1) := by decide +kernel
theorem dX1_readKey_15 : decode cX1_readKey 15 = .ok (.getfield 15, 3) := by decide +kernel
theorem dX1_readKey_18 : decode cX1_readKey 18 = .ok (.bipush 112, 2) := by decide +kernel
theorem dX1_readKey_20 : decode cX1_readKey 20 = .ok (.if_icmp .eq 12, 3) := by decide +kernel
theorem dX1_readKey_23 : decode cX1_readKey 23 = .ok (.aload_n 0, 1) := by decide +kernel
theorem dX1_readKey_24 : decode cX1_readKey 24 = .ok (.getfield 15, 3) := by decide +kernel
theorem dX1_readKey_27 : decode cX1_readKey 27 = .ok (.bipush 105, 2) := by decide +kernel
theorem dX1_readKey_29 : decode cX1_readKey 29 = .ok (.if_icmp .ne 5, 3) := by decide +kernel
theorem dX1_readKey_32 : decode cX1_readKey 32 = .ok (.iconst 3, 1) := by decide +kernel
theorem dX1_readKey_33 : decode cX1_readKey 33 = .ok (.ireturn, 1) := by decide +kernel
theorem dX1_readKey_34 : decode cX1_readKey 34 = .ok (.iload_n 1, 1) := by decide +kernel
theorem dX1_readKey_35 : decode cX1_readKey 35 = .ok (.invokestatic 55, 3) := by decide +kernel
theorem dX1_readKey_38 : decode cX1_readKey 38 = .ok (.ifCond .eq 18, 3) := by decide +kernel
theorem dX1_readKey_41 : decode cX1_readKey 41 = .ok (.aload_n 0, 1) := by decide +kernel
theorem dX1_readKey_42 : decode cX1_readKey 42 = .ok (.getfield 11, 3) := by decide +kernel
theorem dX1_readKey_45 : decode cX1_readKey 45 = .ok (.iconst 2, 1) := by decide +kernel
theorem dX1_readKey_46 : decode cX1_readKey 46 = .ok (.if_icmp .ne 13, 3) := by decide +kernel
theorem dX1_readKey_49 : decode cX1_readKey 49 = .ok (.aload_n 0, 1) := by decide +kernel
theorem dX1_readKey_50 : decode cX1_readKey 50 = .ok (.getfield 18, 3) := by decide +kernel
theorem dX1_readKey_53 : decode cX1_readKey 53 = .ok (.ifCond .ne 6, 3) := by decide +kernel
theorem dX1_readKey_56 : decode cX1_readKey 56 = .ok (.bipush 8, 2) := by decide +kernel
theorem dX1_readKey_58 : decode cX1_readKey 58 = .ok (.ireturn, 1) := by decide +kernel
theorem dX1_readKey_59 : decode cX1_readKey 59 = .ok (.aload_n 0, 1) := by decide +kernel
theorem dX1_readKey_60 : decode cX1_readKey 60 = .ok (.aload_n 0, 1) := by decide +kernel
theorem dX1_readKey_61 : decode cX1_readKey 61 = .ok (.getfield 18, 3) := by decide +kernel
theorem dX1_readKey_64 : decode cX1_readKey 64 = .ok (.bipush 10, 2) := by decide +kernel
theorem dX1_readKey_66 : decode cX1_readKey 66 = .ok (.imul, 1) := by decide +kernel
theorem dX1_readKey_67 : decode cX1_readKey 67 = .ok (.iload_n 1, 1) := by decide +kernel
theorem dX1_readKey_68 : decode cX1_readKey 68 = .ok (.iadd, 1) := by decide +kernel
theorem dX1_readKey_69 : decode cX1_readKey 69 = .ok (.bipush 48, 2) := by decide +kernel
theorem dX1_readKey_71 : decode cX1_readKey 71 = .ok (.isub, 1) := by decide +kernel
theorem dX1_readKey_72 : decode cX1_readKey 72 = .ok (.putfield 18, 3) := by decide +kernel
theorem dX1_readKey_75 : decode cX1_readKey 75 = .ok (.aload_n 0, 1) := by decide +kernel
theorem dX1_readKey_76 : decode cX1_readKey 76 = .ok (.getfield 18, 3) := by decide +kernel
theorem dX1_readKey_79 : decode cX1_readKey 79 = .ok (.sipush 9999, 3) := by decide +kernel
theorem dX1_readKey_82 : decode cX1_readKey 82 = .ok (.if_icmp .le 8, 3) := by decide +kernel
theorem dX1_readKey_85 : decode cX1_readKey 85 = .ok (.bipush 8, 2) := by decide +kernel
theorem dX1_readKey_87 : decode cX1_readKey 87 = .ok (.goto 4, 3) := by decide +kernel
theorem dX1_readKey_90 : decode cX1_readKey 90 = .ok (.iconst 2, 1) := by decide +kernel
theorem dX1_readKey_91 : decode cX1_readKey 91 = .ok (.ireturn, 1) := by decide +kernel
theorem dX1_readValue_0 : decode cX1_readValue 0 = .ok (.iload_n 1, 1) := by decide +kernel
theorem dX1_readValue_1 : decode cX1_readValue 1 = .ok (.invokestatic 55, 3) := by decide +kernel
theorem dX1_readValue_4 : decode cX1_readValue 4 = .ok (.ifCond .eq 18, 3) := by decide +kernel
theorem dX1_readValue_7 : decode cX1_readValue 7 = .ok (.aload_n 0, 1) := by decide +kernel
theorem dX1_readValue_8 : decode cX1_readValue 8 = .ok (.getfield 11, 3) := by decide +kernel
theorem dX1_readValue_11 : decode cX1_readValue 11 = .ok (.iconst 4, 1) := by decide +kernel
theorem dX1_readValue_12 : decode cX1_readValue 12 = .ok (.if_icmp .ne 13, 3) := by decide +kernel
theorem dX1_readValue_15 : decode cX1_readValue 15 = .ok (.aload_n 0, 1) := by decide +kernel
theorem dX1_readValue_16 : decode cX1_readValue 16 = .ok (.getfield 21, 3) := by decide +kernel
theorem dX1_readValue_19 : decode cX1_readValue 19 = .ok (.ifCond .ne 6, 3) := by decide +kernel
theorem dX1_readValue_22 : decode cX1_readValue 22 = .ok (.bipush 8, 2) := by decide +kernel
theorem dX1_readValue_24 : decode cX1_readValue 24 = .ok (.ireturn, 1) := by decide +kernel
theorem dX1_readValue_25 : decode cX1_readValue 25 = .ok (.aload_n 0, 1) := by decide +kernel
theorem dX1_readValue_26 : decode cX1_readValue 26 = .ok (.aload_n 0, 1) := by decide +kernel
theorem dX1_readValue_27 : decode cX1_readValue 27 = .ok (.getfield 21, 3) := by decide +kernel
theorem dX1_readValue_30 : decode cX1_readValue 30 = .ok (.bipush 10, 2) := by decide +kernel
theorem dX1_readValue_32 : decode cX1_readValue 32 = .ok (.imul, 1) := by decide +kernel
theorem dX1_readValue_33 : decode cX1_readValue 33 = .ok (.iload_n 1, 1) := by decide +kernel
theorem dX1_readValue_34 : decode cX1_readValue 34 = .ok (.iadd, 1) := by decide +kernel
theorem dX1_readValue_35 : decode cX1_readValue 35 = .ok (.bipush 48, 2) := by decide +kernel
theorem dX1_readValue_37 : decode cX1_readValue 37 = .ok (.isub, 1) := by decide +kernel
theorem dX1_readValue_38 : decode cX1_readValue 38 = .ok (.putfield 21, 3) := by decide +kernel
theorem dX1_readValue_41 : decode cX1_readValue 41 = .ok (.aload_n 0, 1) := by decide +kernel
theorem dX1_readValue_42 : decode cX1_readValue 42 = .ok (.getfield 21, 3) := by decide +kernel
theorem dX1_readValue_45 : decode cX1_readValue 45 = .ok (.bipush 99, 2) := by decide +kernel
theorem dX1_readValue_47 : decode cX1_readValue 47 = .ok (.if_icmp .le 8, 3) := by decide +kernel
theorem dX1_readValue_50 : decode cX1_readValue 50 = .ok (.bipush 8, 2) := by decide +kernel
theorem dX1_readValue_52 : decode cX1_readValue 52 = .ok (.goto 4, 3) := by decide +kernel
theorem dX1_readValue_55 : decode cX1_readValue 55 = .ok (.iconst 4, 1) := by decide +kernel
theorem dX1_readValue_56 : decode cX1_readValue 56 = .ok (.ireturn, 1) := by decide +kernel
theorem dX1_readFill_0 : decode cX1_readFill 0 = .ok (.iload_n 1, 1) := by decide +kernel
theorem dX1_readFill_1 : decode cX1_readFill 1 = .ok (.invokestatic 55, 3) := by decide +kernel
theorem dX1_readFill_4 : decode cX1_readFill 4 = .ok (.ifCond .ne 6, 3) := by decide +kernel
theorem dX1_readFill_7 : decode cX1_readFill 7 = .ok (.bipush 8, 2) := by decide +kernel
theorem dX1_readFill_9 : decode cX1_readFill 9 = .ok (.ireturn, 1) := by decide +kernel
theorem dX1_readFill_10 : decode cX1_readFill 10 = .ok (.aload_n 0, 1) := by decide +kernel
theorem dX1_readFill_11 : decode cX1_readFill 11 = .ok (.aload_n 0, 1) := by decide +kernel
theorem dX1_readFill_12 : decode cX1_readFill 12 = .ok (.getfield 18, 3) := by decide +kernel
theorem dX1_readFill_15 : decode cX1_readFill 15 = .ok (.bipush 10, 2) := by decide +kernel
theorem dX1_readFill_17 : decode cX1_readFill 17 = .ok (.imul, 1) := by decide +kernel
theorem dX1_readFill_18 : decode cX1_readFill 18 = .ok (.iload_n 1, 1) := by decide +kernel
theorem dX1_readFill_19 : decode cX1_readFill 19 = .ok (.iadd, 1) := by decide +kernel
theorem dX1_readFill_20 : decode cX1_readFill 20 = .ok (.bipush 48, 2) := by decide +kernel
theorem dX1_readFill_22 : decode cX1_readFill 22 = .ok (.isub, 1) := by decide +kernel
theorem dX1_readFill_23 : decode cX1_readFill 23 = .ok (.putfield 18, 3) := by decide +kernel
theorem dX1_readFill_26 : decode cX1_readFill 26 = .ok (.aload_n 0, 1) := by decide +kernel
theorem dX1_readFill_27 : decode cX1_readFill 27 = .ok (.getfield 18, 3) := by decide +kernel
theorem dX1_readFill_30 : decode cX1_readFill 30 = .ok (.bipush 50, 2) := by decide +kernel
theorem dX1_readFill_32 : decode cX1_readFill 32 = .ok (.if_icmp .lt 15, 3) := by decide +kernel
theorem dX1_readFill_35 : decode cX1_readFill 35 = .ok (.aload_n 0, 1) := by decide +kernel
theorem dX1_readFill_36 : decode cX1_readFill 36 = .ok (.getfield 18, 3) := by decide +kernel
theorem dX1_readFill_39 : decode cX1_readFill 39 = .ok (.bipush 100, 2) := by decide +kernel
theorem dX1_readFill_41 : decode cX1_readFill 41 = .ok (.if_icmp .gt 6, 3) := by decide +kernel
theorem dX1_readFill_44 : decode cX1_readFill 44 = .ok (.bipush 7, 2) := by decide +kernel
theorem dX1_readFill_46 : decode cX1_readFill 46 = .ok (.ireturn, 1) := by decide +kernel
theorem dX1_readFill_47 : decode cX1_readFill 47 = .ok (.aload_n 0, 1) := by decide +kernel
theorem dX1_readFill_48 : decode cX1_readFill 48 = .ok (.getfield 18, 3) := by decide +kernel
theorem dX1_readFill_51 : decode cX1_readFill 51 = .ok (.iconst 1, 1) := by decide +kernel
theorem dX1_readFill_52 : decode cX1_readFill 52 = .ok (.if_icmp .eq 29, 3) := by decide +kernel
theorem dX1_readFill_55 : decode cX1_readFill 55 = .ok (.aload_n 0, 1) := by decide +kernel
theorem dX1_readFill_56 : decode cX1_readFill 56 = .ok (.getfield 18, 3) := by decide +kernel
theorem dX1_readFill_59 : decode cX1_readFill 59 = .ok (.bipush 10, 2) := by decide +kernel
theorem dX1_readFill_61 : decode cX1_readFill 61 = .ok (.if_icmp .eq 20, 3) := by decide +kernel
theorem dX1_readFill_64 : decode cX1_readFill 64 = .ok (.aload_n 0, 1) := by decide +kernel
theorem dX1_readFill_65 : decode cX1_readFill 65 = .ok (.getfield 18, 3) := by decide +kernel
theorem dX1_readFill_68 : decode cX1_readFill 68 = .ok (.iconst 5, 1) := by decide +kernel
theorem dX1_readFill_69 : decode cX1_readFill 69 = .ok (.if_icmp .lt 17, 3) := by decide +kernel
theorem dX1_readFill_72 : decode cX1_readFill 72 = .ok (.aload_n 0, 1) := by decide +kernel
theorem dX1_readFill_73 : decode cX1_readFill 73 = .ok (.getfield 18, 3) := by decide +kernel
theorem dX1_readFill_76 : decode cX1_readFill 76 = .ok (.bipush 9, 2) := by decide +kernel
theorem dX1_readFill_78 : decode cX1_readFill 78 = .ok (.if_icmp .gt 8, 3) := by decide +kernel
theorem dX1_readFill_81 : decode cX1_readFill 81 = .ok (.bipush 6, 2) := by decide +kernel
theorem dX1_readFill_83 : decode cX1_readFill 83 = .ok (.goto 5, 3) := by decide +kernel
theorem dX1_readFill_86 : decode cX1_readFill 86 = .ok (.bipush 8, 2) := by decide +kernel
theorem dX1_readFill_88 : decode cX1_readFill 88 = .ok (.ireturn, 1) := by decide +kernel
theorem dX1_isDigit_0 : decode cX1_isDigit 0 = .ok (.iload_n 0, 1) := by decide +kernel
theorem dX1_isDigit_1 : decode cX1_isDigit 1 = .ok (.bipush 48, 2) := by decide +kernel
theorem dX1_isDigit_3 : decode cX1_isDigit 3 = .ok (.if_icmp .lt 13, 3) := by decide +kernel
theorem dX1_isDigit_6 : decode cX1_isDigit 6 = .ok (.iload_n 0, 1) := by decide +kernel
theorem dX1_isDigit_7 : decode cX1_isDigit 7 = .ok (.bipush 57, 2) := by decide +kernel
theorem dX1_isDigit_9 : decode cX1_isDigit 9 = .ok (.if_icmp .gt 7, 3) := by decide +kernel
theorem dX1_isDigit_12 : decode cX1_isDigit 12 = .ok (.iconst 1, 1) := by decide +kernel
theorem dX1_isDigit_13 : decode cX1_isDigit 13 = .ok (.goto 4, 3) := by decide +kernel
theorem dX1_isDigit_16 : decode cX1_isDigit 16 = .ok (.iconst 0, 1) := by decide +kernel
theorem dX1_isDigit_17 : decode cX1_isDigit 17 = .ok (.ireturn, 1) := by decide +kernel
theorem dX2_init_0 : decode cX2_init 0 = .ok (.aload_n 0, 1) := by decide +kernel
theorem dX2_init_1 : decode cX2_init 1 = .ok (.invokespecial 3, 3) := by decide +kernel
theorem dX2_init_4 : decode cX2_init 4 = .ok (.aload_n 0, 1) := by decide +kernel
theorem dX2_init_5 : decode cX2_init 5 = .ok (.iload_n 1, 1) := by decide +kernel
theorem dX2_init_6 : decode cX2_init 6 = .ok (.iconst 0, 1) := by decide +kernel
theorem dX2_init_7 : decode cX2_init 7 = .ok (.invokestatic 9, 3) := by decide +kernel
theorem dX2_init_10 : decode cX2_init 10 = .ok (.newarray .int, 2) := by decide +kernel
theorem dX2_init_12 : decode cX2_init 12 = .ok (.putfield 15, 3) := by decide +kernel
theorem dX2_init_15 : decode cX2_init 15 = .ok (.aload_n 0, 1) := by decide +kernel
theorem dX2_init_16 : decode cX2_init 16 = .ok (.iload_n 1, 1) := by decide +kernel
theorem dX2_init_17 : decode cX2_init 17 = .ok (.iconst 0, 1) := by decide +kernel
theorem dX2_init_18 : decode cX2_init 18 = .ok (.invokestatic 9, 3) := by decide +kernel
theorem dX2_init_21 : decode cX2_init 21 = .ok (.newarray .int, 2) := by decide +kernel
theorem dX2_init_23 : decode cX2_init 23 = .ok (.putfield 21, 3) := by decide +kernel
theorem dX2_init_26 : decode cX2_init 26 = .ok (.return_, 1) := by decide +kernel
theorem dX2_has_0 : decode cX2_has 0 = .ok (.iload_n 1, 1) := by decide +kernel
theorem dX2_has_1 : decode cX2_has 1 = .ok (.ifCond .lt 33, 3) := by decide +kernel
theorem dX2_has_4 : decode cX2_has 4 = .ok (.iload_n 1, 1) := by decide +kernel
theorem dX2_has_5 : decode cX2_has 5 = .ok (.aload_n 0, 1) := by decide +kernel
theorem dX2_has_6 : decode cX2_has 6 = .ok (.getfield 24, 3) := by decide +kernel
theorem dX2_has_9 : decode cX2_has 9 = .ok (.if_icmp .ge 25, 3) := by decide +kernel
theorem dX2_has_12 : decode cX2_has 12 = .ok (.iload_n 1, 1) := by decide +kernel
theorem dX2_has_13 : decode cX2_has 13 = .ok (.aload_n 0, 1) := by decide +kernel
theorem dX2_has_14 : decode cX2_has 14 = .ok (.getfield 15, 3) := by decide +kernel
theorem dX2_has_17 : decode cX2_has 17 = .ok (.arraylength, 1) := by decide +kernel
theorem dX2_has_18 : decode cX2_has 18 = .ok (.if_icmp .ge 16, 3) := by decide +kernel
theorem dX2_has_21 : decode cX2_has 21 = .ok (.iload_n 1, 1) := by decide +kernel
theorem dX2_has_22 : decode cX2_has 22 = .ok (.aload_n 0, 1) := by decide +kernel
theorem dX2_has_23 : decode cX2_has 23 = .ok (.getfield 21, 3) := by decide +kernel
theorem dX2_has_26 : decode cX2_has 26 = .ok (.arraylength, 1) := by decide +kernel
theorem dX2_has_27 : decode cX2_has 27 = .ok (.if_icmp .ge 7, 3) := by decide +kernel
theorem dX2_has_30 : decode cX2_has 30 = .ok (.iconst 1, 1) := by decide +kernel
theorem dX2_has_31 : decode cX2_has 31 = .ok (.goto 4, 3) := by decide +kernel
theorem dX2_has_34 : decode cX2_has 34 = .ok (.iconst 0, 1) := by decide +kernel
theorem dX2_has_35 : decode cX2_has 35 = .ok (.ireturn, 1) := by decide +kernel
theorem dX2_keyOn_0 : decode cX2_keyOn 0 = .ok (.iload_n 1, 1) := by decide +kernel
theorem dX2_keyOn_1 : decode cX2_keyOn 1 = .ok (.ifCond .lt 29, 3) := by decide +kernel
theorem dX2_keyOn_4 : decode cX2_keyOn 4 = .ok (.iload_n 1, 1) := by decide +kernel
theorem dX2_keyOn_5 : decode cX2_keyOn 5 = .ok (.aload_n 0, 1) := by decide +kernel
theorem dX2_keyOn_6 : decode cX2_keyOn 6 = .ok (.getfield 24, 3) := by decide +kernel
theorem dX2_keyOn_9 : decode cX2_keyOn 9 = .ok (.if_icmp .ge 21, 3) := by decide +kernel
theorem dX2_keyOn_12 : decode cX2_keyOn 12 = .ok (.iload_n 1, 1) := by decide +kernel
theorem dX2_keyOn_13 : decode cX2_keyOn 13 = .ok (.aload_n 0, 1) := by decide +kernel
theorem dX2_keyOn_14 : decode cX2_keyOn 14 = .ok (.getfield 15, 3) := by decide +kernel
theorem dX2_keyOn_17 : decode cX2_keyOn 17 = .ok (.arraylength, 1) := by decide +kernel
theorem dX2_keyOn_18 : decode cX2_keyOn 18 = .ok (.if_icmp .ge 12, 3) := by decide +kernel
theorem dX2_keyOn_21 : decode cX2_keyOn 21 = .ok (.aload_n 0, 1) := by decide +kernel
theorem dX2_keyOn_22 : decode cX2_keyOn 22 = .ok (.getfield 15, 3) := by decide +kernel
theorem dX2_keyOn_25 : decode cX2_keyOn 25 = .ok (.iload_n 1, 1) := by decide +kernel
theorem dX2_keyOn_26 : decode cX2_keyOn 26 = .ok (.iaload, 1) := by decide +kernel
theorem dX2_keyOn_27 : decode cX2_keyOn 27 = .ok (.goto 4, 3) := by decide +kernel
theorem dX2_keyOn_30 : decode cX2_keyOn 30 = .ok (.iconst (-1), 1) := by decide +kernel
theorem dX2_keyOn_31 : decode cX2_keyOn 31 = .ok (.ireturn, 1) := by decide +kernel
theorem dX2_valueOn_0 : decode cX2_valueOn 0 = .ok (.iload_n 1, 1) := by decide +kernel
theorem dX2_valueOn_1 : decode cX2_valueOn 1 = .ok (.ifCond .lt 29, 3) := by decide +kernel
theorem dX2_valueOn_4 : decode cX2_valueOn 4 = .ok (.iload_n 1, 1) := by decide +kernel
theorem dX2_valueOn_5 : decode cX2_valueOn 5 = .ok (.aload_n 0, 1) := by decide +kernel
theorem dX2_valueOn_6 : decode cX2_valueOn 6 = .ok (.getfield 24, 3) := by decide +kernel
theorem dX2_valueOn_9 : decode cX2_valueOn 9 = .ok (.if_icmp .ge 21, 3) := by decide +kernel
theorem dX2_valueOn_12 : decode cX2_valueOn 12 = .ok (.iload_n 1, 1) := by decide +kernel
theorem dX2_valueOn_13 : decode cX2_valueOn 13 = .ok (.aload_n 0, 1) := by decide +kernel
theorem dX2_valueOn_14 : decode cX2_valueOn 14 = .ok (.getfield 21, 3) := by decide +kernel
theorem dX2_valueOn_17 : decode cX2_valueOn 17 = .ok (.arraylength, 1) := by decide +kernel
theorem dX2_valueOn_18 : decode cX2_valueOn 18 = .ok (.if_icmp .ge 12, 3) := by decide +kernel
theorem dX2_valueOn_21 : decode cX2_valueOn 21 = .ok (.aload_n 0, 1) := by decide +kernel
theorem dX2_valueOn_22 : decode cX2_valueOn 22 = .ok (.getfield 21, 3) := by decide +kernel
theorem dX2_valueOn_25 : decode cX2_valueOn 25 = .ok (.iload_n 1, 1) := by decide +kernel
theorem dX2_valueOn_26 : decode cX2_valueOn 26 = .ok (.iaload, 1) := by decide +kernel
theorem dX2_valueOn_27 : decode cX2_valueOn 27 = .ok (.goto 4, 3) := by decide +kernel
theorem dX2_valueOn_30 : decode cX2_valueOn 30 = .ok (.iconst (-1), 1) := by decide +kernel
theorem dX2_valueOn_31 : decode cX2_valueOn 31 = .ok (.ireturn, 1) := by decide +kernel
theorem dX2_firstFrom_0 : decode cX2_firstFrom 0 = .ok (.iconst 0, 1) := by decide +kernel
theorem dX2_firstFrom_1 : decode cX2_firstFrom 1 = .ok (.istore_n 2, 1) := by decide +kernel
theorem dX2_firstFrom_2 : decode cX2_firstFrom 2 = .ok (.aload_n 0, 1) := by decide +kernel
theorem dX2_firstFrom_3 : decode cX2_firstFrom 3 = .ok (.getfield 24, 3) := by decide +kernel
theorem dX2_firstFrom_6 : decode cX2_firstFrom 6 = .ok (.istore_n 3, 1) := by decide +kernel
theorem dX2_firstFrom_7 : decode cX2_firstFrom 7 = .ok (.iconst 0, 1) := by decide +kernel
theorem dX2_firstFrom_8 : decode cX2_firstFrom 8 = .ok (.istore 4, 2) := by decide +kernel
theorem dX2_firstFrom_10 : decode cX2_firstFrom 10 = .ok (.iload 4, 2) := by decide +kernel
theorem dX2_firstFrom_12 : decode cX2_firstFrom 12 = .ok (.bipush 32, 2) := by decide +kernel
theorem dX2_firstFrom_14 : decode cX2_firstFrom 14 = .ok (.if_icmp .ge 53, 3) := by decide +kernel
theorem dX2_firstFrom_17 : decode cX2_firstFrom 17 = .ok (.iload_n 2, 1) := by decide +kernel
theorem dX2_firstFrom_18 : decode cX2_firstFrom 18 = .ok (.iload_n 3, 1) := by decide +kernel
theorem dX2_firstFrom_19 : decode cX2_firstFrom 19 = .ok (.if_icmp .ge 48, 3) := by decide +kernel
theorem dX2_firstFrom_22 : decode cX2_firstFrom 22 = .ok (.iload_n 2, 1) := by decide +kernel
theorem dX2_firstFrom_23 : decode cX2_firstFrom 23 = .ok (.iload_n 3, 1) := by decide +kernel
theorem dX2_firstFrom_24 : decode cX2_firstFrom 24 = .ok (.iadd, 1) := by decide +kernel
theorem dX2_firstFrom_25 : decode cX2_firstFrom 25 = .ok (.iconst 1, 1) := by decide +kernel
theorem dX2_firstFrom_26 : decode cX2_firstFrom 26 = .ok (.iushr, 1) := by decide +kernel
theorem dX2_firstFrom_27 : decode cX2_firstFrom 27 = .ok (.istore 5, 2) := by decide +kernel
theorem dX2_firstFrom_29 : decode cX2_firstFrom 29 = .ok (.iload 5, 2) := by decide +kernel
theorem dX2_firstFrom_31 : decode cX2_firstFrom 31 = .ok (.aload_n 0, 1) := by decide +kernel
theorem dX2_firstFrom_32 : decode cX2_firstFrom 32 = .ok (.getfield 15, 3) := by decide +kernel
theorem dX2_firstFrom_35 : decode cX2_firstFrom 35 = .ok (.arraylength, 1) := by decide +kernel
theorem dX2_firstFrom_36 : decode cX2_firstFrom 36 = .ok (.if_icmp .ge 22, 3) := by decide +kernel
theorem dX2_firstFrom_39 : decode cX2_firstFrom 39 = .ok (.aload_n 0, 1) := by decide +kernel
theorem dX2_firstFrom_40 : decode cX2_firstFrom 40 = .ok (.getfield 15, 3) := by decide +kernel
theorem dX2_firstFrom_43 : decode cX2_firstFrom 43 = .ok (.iload 5, 2) := by decide +kernel
theorem dX2_firstFrom_45 : decode cX2_firstFrom 45 = .ok (.iaload, 1) := by decide +kernel
theorem dX2_firstFrom_46 : decode cX2_firstFrom 46 = .ok (.iload_n 1, 1) := by decide +kernel
theorem dX2_firstFrom_47 : decode cX2_firstFrom 47 = .ok (.if_icmp .ge 11, 3) := by decide +kernel
theorem dX2_firstFrom_50 : decode cX2_firstFrom 50 = .ok (.iload 5, 2) := by decide +kernel
theorem dX2_firstFrom_52 : decode cX2_firstFrom 52 = .ok (.iconst 1, 1) := by decide +kernel
theorem dX2_firstFrom_53 : decode cX2_firstFrom 53 = .ok (.iadd, 1) := by decide +kernel
theorem dX2_firstFrom_54 : decode cX2_firstFrom 54 = .ok (.istore_n 2, 1) := by decide +kernel
theorem dX2_firstFrom_55 : decode cX2_firstFrom 55 = .ok (.goto 6, 3) := by decide +kernel
theorem dX2_firstFrom_58 : decode cX2_firstFrom 58 = .ok (.iload 5, 2) := by decide +kernel
theorem dX2_firstFrom_60 : decode cX2_firstFrom 60 = .ok (.istore_n 3, 1) := by decide +kernel
theorem dX2_firstFrom_61 : decode cX2_firstFrom 61 = .ok (.iinc 4 1, 3) := by decide +kernel
theorem dX2_firstFrom_64 : decode cX2_firstFrom 64 = .ok (.goto (-54), 3) := by decide +kernel
theorem dX2_firstFrom_67 : decode cX2_firstFrom 67 = .ok (.iload_n 2, 1) := by decide +kernel
theorem dX2_firstFrom_68 : decode cX2_firstFrom 68 = .ok (.ireturn, 1) := by decide +kernel
theorem dX2_placeOf_0 : decode cX2_placeOf 0 = .ok (.aload_n 0, 1) := by decide +kernel
theorem dX2_placeOf_1 : decode cX2_placeOf 1 = .ok (.iload_n 1, 1) := by decide +kernel
theorem dX2_placeOf_2 : decode cX2_placeOf 2 = .ok (.invokevirtual 28, 3) := by decide +kernel
theorem dX2_placeOf_5 : decode cX2_placeOf 5 = .ok (.istore_n 2, 1) := by decide +kernel
theorem dX2_placeOf_6 : decode cX2_placeOf 6 = .ok (.iload_n 2, 1) := by decide +kernel
theorem dX2_placeOf_7 : decode cX2_placeOf 7 = .ok (.aload_n 0, 1) := by decide +kernel
theorem dX2_placeOf_8 : decode cX2_placeOf 8 = .ok (.getfield 24, 3) := by decide +kernel
theorem dX2_placeOf_11 : decode cX2_placeOf 11 = .ok (.if_icmp .ge 16, 3) := by decide +kernel
theorem dX2_placeOf_14 : decode cX2_placeOf 14 = .ok (.aload_n 0, 1) := by decide +kernel
theorem dX2_placeOf_15 : decode cX2_placeOf 15 = .ok (.iload_n 2, 1) := by decide +kernel
theorem dX2_placeOf_16 : decode cX2_placeOf 16 = .ok (.invokevirtual 32, 3) := by decide +kernel
theorem dX2_placeOf_19 : decode cX2_placeOf 19 = .ok (.iload_n 1, 1) := by decide +kernel
theorem dX2_placeOf_20 : decode cX2_placeOf 20 = .ok (.if_icmp .ne 7, 3) := by decide +kernel
theorem dX2_placeOf_23 : decode cX2_placeOf 23 = .ok (.iload_n 2, 1) := by decide +kernel
theorem dX2_placeOf_24 : decode cX2_placeOf 24 = .ok (.goto 4, 3) := by decide +kernel
theorem dX2_placeOf_27 : decode cX2_placeOf 27 = .ok (.iconst (-1), 1) := by decide +kernel
theorem dX2_placeOf_28 : decode cX2_placeOf 28 = .ok (.ireturn, 1) := by decide +kernel
theorem dX2_isFull_0 : decode cX2_isFull 0 = .ok (.aload_n 0, 1) := by decide +kernel
theorem dX2_isFull_1 : decode cX2_isFull 1 = .ok (.getfield 24, 3) := by decide +kernel
theorem dX2_isFull_4 : decode cX2_isFull 4 = .ok (.aload_n 0, 1) := by decide +kernel
theorem dX2_isFull_5 : decode cX2_isFull 5 = .ok (.getfield 15, 3) := by decide +kernel
theorem dX2_isFull_8 : decode cX2_isFull 8 = .ok (.arraylength, 1) := by decide +kernel
theorem dX2_isFull_9 : decode cX2_isFull 9 = .ok (.if_icmp .ge 15, 3) := by decide +kernel
theorem dX2_isFull_12 : decode cX2_isFull 12 = .ok (.aload_n 0, 1) := by decide +kernel
theorem dX2_isFull_13 : decode cX2_isFull 13 = .ok (.getfield 24, 3) := by decide +kernel
theorem dX2_isFull_16 : decode cX2_isFull 16 = .ok (.aload_n 0, 1) := by decide +kernel
theorem dX2_isFull_17 : decode cX2_isFull 17 = .ok (.getfield 21, 3) := by decide +kernel
theorem dX2_isFull_20 : decode cX2_isFull 20 = .ok (.arraylength, 1) := by decide +kernel
theorem dX2_isFull_21 : decode cX2_isFull 21 = .ok (.if_icmp .lt 7, 3) := by decide +kernel
theorem dX2_isFull_24 : decode cX2_isFull 24 = .ok (.iconst 1, 1) := by decide +kernel
theorem dX2_isFull_25 : decode cX2_isFull 25 = .ok (.goto 4, 3) := by decide +kernel
theorem dX2_isFull_28 : decode cX2_isFull 28 = .ok (.iconst 0, 1) := by decide +kernel
theorem dX2_isFull_29 : decode cX2_isFull 29 = .ok (.ireturn, 1) := by decide +kernel
theorem dX2_setValue_0 : decode cX2_setValue 0 = .ok (.aload_n 0, 1) := by decide +kernel
theorem dX2_setValue_1 : decode cX2_setValue 1 = .ok (.iload_n 1, 1) := by decide +kernel
theorem dX2_setValue_2 : decode cX2_setValue 2 = .ok (.invokevirtual 35, 3) := by decide +kernel
theorem dX2_setValue_5 : decode cX2_setValue 5 = .ok (.ifCond .eq 10, 3) := by decide +kernel
theorem dX2_setValue_8 : decode cX2_setValue 8 = .ok (.aload_n 0, 1) := by decide +kernel
theorem dX2_setValue_9 : decode cX2_setValue 9 = .ok (.getfield 21, 3) := by decide +kernel
theorem dX2_setValue_12 : decode cX2_setValue 12 = .ok (.iload_n 1, 1) := by decide +kernel
theorem dX2_setValue_13 : decode cX2_setValue 13 = .ok (.iload_n 2, 1) := by decide +kernel
theorem dX2_setValue_14 : decode cX2_setValue 14 = .ok (.iastore, 1) := by decide +kernel
theorem dX2_setValue_15 : decode cX2_setValue 15 = .ok (.return_, 1) := by decide +kernel
theorem dX2_addLast_0 : decode cX2_addLast 0 = .ok (.aload_n 0, 1) := by decide +kernel
theorem dX2_addLast_1 : decode cX2_addLast 1 = .ok (.getfield 24, 3) := by decide +kernel
theorem dX2_addLast_4 : decode cX2_addLast 4 = .ok (.ifCond .lt 27, 3) := by decide +kernel
theorem dX2_addLast_7 : decode cX2_addLast 7 = .ok (.aload_n 0, 1) := by decide +kernel
theorem dX2_addLast_8 : decode cX2_addLast 8 = .ok (.getfield 24, 3) := by decide +kernel
theorem dX2_addLast_11 : decode cX2_addLast 11 = .ok (.aload_n 0, 1) := by decide +kernel
theorem dX2_addLast_12 : decode cX2_addLast 12 = .ok (.getfield 15, 3) := by decide +kernel
theorem dX2_addLast_15 : decode cX2_addLast 15 = .ok (.arraylength, 1) := by decide +kernel
theorem dX2_addLast_16 : decode cX2_addLast 16 = .ok (.if_icmp .ge 15, 3) := by decide +kernel
theorem dX2_addLast_19 : decode cX2_addLast 19 = .ok (.aload_n 0, 1) := by decide +kernel
theorem dX2_addLast_20 : decode cX2_addLast 20 = .ok (.getfield 24, 3) := by decide +kernel
theorem dX2_addLast_23 : decode cX2_addLast 23 = .ok (.aload_n 0, 1) := by decide +kernel
theorem dX2_addLast_24 : decode cX2_addLast 24 = .ok (.getfield 21, 3) := by decide +kernel
theorem dX2_addLast_27 : decode cX2_addLast 27 = .ok (.arraylength, 1) := by decide +kernel
theorem dX2_addLast_28 : decode cX2_addLast 28 = .ok (.if_icmp .lt 4, 3) := by decide +kernel
theorem dX2_addLast_31 : decode cX2_addLast 31 = .ok (.return_, 1) := by decide +kernel
theorem dX2_addLast_32 : decode cX2_addLast 32 = .ok (.aload_n 0, 1) := by decide +kernel
theorem dX2_addLast_33 : decode cX2_addLast 33 = .ok (.getfield 15, 3) := by decide +kernel
theorem dX2_addLast_36 : decode cX2_addLast 36 = .ok (.aload_n 0, 1) := by decide +kernel
theorem dX2_addLast_37 : decode cX2_addLast 37 = .ok (.getfield 24, 3) := by decide +kernel
theorem dX2_addLast_40 : decode cX2_addLast 40 = .ok (.iload_n 1, 1) := by decide +kernel
theorem dX2_addLast_41 : decode cX2_addLast 41 = .ok (.iastore, 1) := by decide +kernel
theorem dX2_addLast_42 : decode cX2_addLast 42 = .ok (.aload_n 0, 1) := by decide +kernel
theorem dX2_addLast_43 : decode cX2_addLast 43 = .ok (.getfield 21, 3) := by decide +kernel
theorem dX2_addLast_46 : decode cX2_addLast 46 = .ok (.aload_n 0, 1) := by decide +kernel
theorem dX2_addLast_47 : decode cX2_addLast 47 = .ok (.getfield 24, 3) := by decide +kernel
theorem dX2_addLast_50 : decode cX2_addLast 50 = .ok (.iload_n 2, 1) := by decide +kernel
theorem dX2_addLast_51 : decode cX2_addLast 51 = .ok (.iastore, 1) := by decide +kernel
theorem dX2_addLast_52 : decode cX2_addLast 52 = .ok (.aload_n 0, 1) := by decide +kernel
theorem dX2_addLast_53 : decode cX2_addLast 53 = .ok (.dup, 1) := by decide +kernel
theorem dX2_addLast_54 : decode cX2_addLast 54 = .ok (.getfield 24, 3) := by decide +kernel
theorem dX2_addLast_57 : decode cX2_addLast 57 = .ok (.iconst 1, 1) := by decide +kernel
theorem dX2_addLast_58 : decode cX2_addLast 58 = .ok (.iadd, 1) := by decide +kernel
theorem dX2_addLast_59 : decode cX2_addLast 59 = .ok (.putfield 24, 3) := by decide +kernel
theorem dX2_addLast_62 : decode cX2_addLast 62 = .ok (.return_, 1) := by decide +kernel
theorem dX2_addAt_0 : decode cX2_addAt 0 = .ok (.iload_n 1, 1) := by decide +kernel
theorem dX2_addAt_1 : decode cX2_addAt 1 = .ok (.ifCond .lt 35, 3) := by decide +kernel
theorem dX2_addAt_4 : decode cX2_addAt 4 = .ok (.iload_n 1, 1) := by decide +kernel
theorem dX2_addAt_5 : decode cX2_addAt 5 = .ok (.aload_n 0, 1) := by decide +kernel
theorem dX2_addAt_6 : decode cX2_addAt 6 = .ok (.getfield 24, 3) := by decide +kernel
theorem dX2_addAt_9 : decode cX2_addAt 9 = .ok (.if_icmp .gt 27, 3) := by decide +kernel
theorem dX2_addAt_12 : decode cX2_addAt 12 = .ok (.aload_n 0, 1) := by decide +kernel
theorem dX2_addAt_13 : decode cX2_addAt 13 = .ok (.getfield 24, 3) := by decide +kernel
theorem dX2_addAt_16 : decode cX2_addAt 16 = .ok (.aload_n 0, 1) := by decide +kernel
theorem dX2_addAt_17 : decode cX2_addAt 17 = .ok (.getfield 15, 3) := by decide +kernel
theorem dX2_addAt_20 : decode cX2_addAt 20 = .ok (.arraylength, 1) := by decide +kernel
theorem dX2_addAt_21 : decode cX2_addAt 21 = .ok (.if_icmp .ge 15, 3) := by decide +kernel
theorem dX2_addAt_24 : decode cX2_addAt 24 = .ok (.aload_n 0, 1) := by decide +kernel
theorem dX2_addAt_25 : decode cX2_addAt 25 = .ok (.getfield 24, 3) := by decide +kernel
theorem dX2_addAt_28 : decode cX2_addAt 28 = .ok (.aload_n 0, 1) := by decide +kernel
theorem dX2_addAt_29 : decode cX2_addAt 29 = .ok (.getfield 21, 3) := by decide +kernel
theorem dX2_addAt_32 : decode cX2_addAt 32 = .ok (.arraylength, 1) := by decide +kernel
theorem dX2_addAt_33 : decode cX2_addAt 33 = .ok (.if_icmp .lt 4, 3) := by decide +kernel
theorem dX2_addAt_36 : decode cX2_addAt 36 = .ok (.return_, 1) := by decide +kernel
theorem dX2_addAt_37 : decode cX2_addAt 37 = .ok (.aload_n 0, 1) := by decide +kernel
theorem dX2_addAt_38 : decode cX2_addAt 38 = .ok (.getfield 24, 3) := by decide +kernel
theorem dX2_addAt_41 : decode cX2_addAt 41 = .ok (.istore 4, 2) := by decide +kernel
theorem dX2_addAt_43 : decode cX2_addAt 43 = .ok (.iload 4, 2) := by decide +kernel
theorem dX2_addAt_45 : decode cX2_addAt 45 = .ok (.iload_n 1, 1) := by decide +kernel
theorem dX2_addAt_46 : decode cX2_addAt 46 = .ok (.if_icmp .le 41, 3) := by decide +kernel
theorem dX2_addAt_49 : decode cX2_addAt 49 = .ok (.aload_n 0, 1) := by decide +kernel
theorem dX2_addAt_50 : decode cX2_addAt 50 = .ok (.getfield 15, 3) := by decide +kernel
theorem dX2_addAt_53 : decode cX2_addAt 53 = .ok (.iload 4, 2) := by decide +kernel
theorem dX2_addAt_55 : decode cX2_addAt 55 = .ok (.aload_n 0, 1) := by decide +kernel
theorem dX2_addAt_56 : decode cX2_addAt 56 = .ok (.getfield 15, 3) := by decide +kernel
theorem dX2_addAt_59 : decode cX2_addAt 59 = .ok (.iload 4, 2) := by decide +kernel
theorem dX2_addAt_61 : decode cX2_addAt 61 = .ok (.iconst 1, 1) := by decide +kernel
theorem dX2_addAt_62 : decode cX2_addAt 62 = .ok (.isub, 1) := by decide +kernel
theorem dX2_addAt_63 : decode cX2_addAt 63 = .ok (.iaload, 1) := by decide +kernel
theorem dX2_addAt_64 : decode cX2_addAt 64 = .ok (.iastore, 1) := by decide +kernel
theorem dX2_addAt_65 : decode cX2_addAt 65 = .ok (.aload_n 0, 1) := by decide +kernel
theorem dX2_addAt_66 : decode cX2_addAt 66 = .ok (.getfield 21, 3) := by decide +kernel
theorem dX2_addAt_69 : decode cX2_addAt 69 = .ok (.iload 4, 2) := by decide +kernel
theorem dX2_addAt_71 : decode cX2_addAt 71 = .ok (.aload_n 0, 1) := by decide +kernel
theorem dX2_addAt_72 : decode cX2_addAt 72 = .ok (.getfield 21, 3) := by decide +kernel
theorem dX2_addAt_75 : decode cX2_addAt 75 = .ok (.iload 4, 2) := by decide +kernel
theorem dX2_addAt_77 : decode cX2_addAt 77 = .ok (.iconst 1, 1) := by decide +kernel
theorem dX2_addAt_78 : decode cX2_addAt 78 = .ok (.isub, 1) := by decide +kernel
theorem dX2_addAt_79 : decode cX2_addAt 79 = .ok (.iaload, 1) := by decide +kernel
theorem dX2_addAt_80 : decode cX2_addAt 80 = .ok (.iastore, 1) := by decide +kernel
theorem dX2_addAt_81 : decode cX2_addAt 81 = .ok (.iinc 4 (-1), 3) := by decide +kernel
theorem dX2_addAt_84 : decode cX2_addAt 84 = .ok (.goto (-41), 3) := by decide +kernel
theorem dX2_addAt_87 : decode cX2_addAt 87 = .ok (.aload_n 0, 1) := by decide +kernel
theorem dX2_addAt_88 : decode cX2_addAt 88 = .ok (.getfield 15, 3) := by decide +kernel
theorem dX2_addAt_91 : decode cX2_addAt 91 = .ok (.iload_n 1, 1) := by decide +kernel
theorem dX2_addAt_92 : decode cX2_addAt 92 = .ok (.iload_n 2, 1) := by decide +kernel
theorem dX2_addAt_93 : decode cX2_addAt 93 = .ok (.iastore, 1) := by decide +kernel
theorem dX2_addAt_94 : decode cX2_addAt 94 = .ok (.aload_n 0, 1) := by decide +kernel
theorem dX2_addAt_95 : decode cX2_addAt 95 = .ok (.getfield 21, 3) := by decide +kernel
theorem dX2_addAt_98 : decode cX2_addAt 98 = .ok (.iload_n 1, 1) := by decide +kernel
theorem dX2_addAt_99 : decode cX2_addAt 99 = .ok (.iload_n 3, 1) := by decide +kernel
theorem dX2_addAt_100 : decode cX2_addAt 100 = .ok (.iastore, 1) := by decide +kernel
theorem dX2_addAt_101 : decode cX2_addAt 101 = .ok (.aload_n 0, 1) := by decide +kernel
theorem dX2_addAt_102 : decode cX2_addAt 102 = .ok (.dup, 1) := by decide +kernel
theorem dX2_addAt_103 : decode cX2_addAt 103 = .ok (.getfield 24, 3) := by decide +kernel
theorem dX2_addAt_106 : decode cX2_addAt 106 = .ok (.iconst 1, 1) := by decide +kernel
theorem dX2_addAt_107 : decode cX2_addAt 107 = .ok (.iadd, 1) := by decide +kernel
theorem dX2_addAt_108 : decode cX2_addAt 108 = .ok (.putfield 24, 3) := by decide +kernel
theorem dX2_addAt_111 : decode cX2_addAt 111 = .ok (.return_, 1) := by decide +kernel
theorem dX2_removeAt_0 : decode cX2_removeAt 0 = .ok (.aload_n 0, 1) := by decide +kernel
theorem dX2_removeAt_1 : decode cX2_removeAt 1 = .ok (.iload_n 1, 1) := by decide +kernel
theorem dX2_removeAt_2 : decode cX2_removeAt 2 = .ok (.invokevirtual 35, 3) := by decide +kernel
theorem dX2_removeAt_5 : decode cX2_removeAt 5 = .ok (.ifCond .ne 4, 3) := by decide +kernel
theorem dX2_removeAt_8 : decode cX2_removeAt 8 = .ok (.return_, 1) := by decide +kernel
theorem dX2_removeAt_9 : decode cX2_removeAt 9 = .ok (.iload_n 1, 1) := by decide +kernel
theorem dX2_removeAt_10 : decode cX2_removeAt 10 = .ok (.iconst 1, 1) := by decide +kernel
theorem dX2_removeAt_11 : decode cX2_removeAt 11 = .ok (.iadd, 1) := by decide +kernel
theorem dX2_removeAt_12 : decode cX2_removeAt 12 = .ok (.istore_n 2, 1) := by decide +kernel
theorem dX2_removeAt_13 : decode cX2_removeAt 13 = .ok (.iload_n 2, 1) := by decide +kernel
theorem dX2_removeAt_14 : decode cX2_removeAt 14 = .ok (.aload_n 0, 1) := by decide +kernel
theorem dX2_removeAt_15 : decode cX2_removeAt 15 = .ok (.getfield 24, 3) := by decide +kernel
theorem dX2_removeAt_18 : decode cX2_removeAt 18 = .ok (.if_icmp .ge 55, 3) := by decide +kernel
theorem dX2_removeAt_21 : decode cX2_removeAt 21 = .ok (.iload_n 2, 1) := by decide +kernel
theorem dX2_removeAt_22 : decode cX2_removeAt 22 = .ok (.aload_n 0, 1) := by decide +kernel
theorem dX2_removeAt_23 : decode cX2_removeAt 23 = .ok (.getfield 15, 3) := by decide +kernel
theorem dX2_removeAt_26 : decode cX2_removeAt 26 = .ok (.arraylength, 1) := by decide +kernel
theorem dX2_removeAt_27 : decode cX2_removeAt 27 = .ok (.if_icmp .ge 46, 3) := by decide +kernel
theorem dX2_removeAt_30 : decode cX2_removeAt 30 = .ok (.iload_n 2, 1) := by decide +kernel
theorem dX2_removeAt_31 : decode cX2_removeAt 31 = .ok (.aload_n 0, 1) := by decide +kernel
theorem dX2_removeAt_32 : decode cX2_removeAt 32 = .ok (.getfield 21, 3) := by decide +kernel
theorem dX2_removeAt_35 : decode cX2_removeAt 35 = .ok (.arraylength, 1) := by decide +kernel
theorem dX2_removeAt_36 : decode cX2_removeAt 36 = .ok (.if_icmp .ge 37, 3) := by decide +kernel
theorem dX2_removeAt_39 : decode cX2_removeAt 39 = .ok (.aload_n 0, 1) := by decide +kernel
theorem dX2_removeAt_40 : decode cX2_removeAt 40 = .ok (.getfield 15, 3) := by decide +kernel
theorem dX2_removeAt_43 : decode cX2_removeAt 43 = .ok (.iload_n 2, 1) := by decide +kernel
theorem dX2_removeAt_44 : decode cX2_removeAt 44 = .ok (.iconst 1, 1) := by decide +kernel
theorem dX2_removeAt_45 : decode cX2_removeAt 45 = .ok (.isub, 1) := by decide +kernel
theorem dX2_removeAt_46 : decode cX2_removeAt 46 = .ok (.aload_n 0, 1) := by decide +kernel
theorem dX2_removeAt_47 : decode cX2_removeAt 47 = .ok (.getfield 15, 3) := by decide +kernel
theorem dX2_removeAt_50 : decode cX2_removeAt 50 = .ok (.iload_n 2, 1) := by decide +kernel
theorem dX2_removeAt_51 : decode cX2_removeAt 51 = .ok (.iaload, 1) := by decide +kernel
theorem dX2_removeAt_52 : decode cX2_removeAt 52 = .ok (.iastore, 1) := by decide +kernel
theorem dX2_removeAt_53 : decode cX2_removeAt 53 = .ok (.aload_n 0, 1) := by decide +kernel
theorem dX2_removeAt_54 : decode cX2_removeAt 54 = .ok (.getfield 21, 3) := by decide +kernel
theorem dX2_removeAt_57 : decode cX2_removeAt 57 = .ok (.iload_n 2, 1) := by decide +kernel
theorem dX2_removeAt_58 : decode cX2_removeAt 58 = .ok (.iconst 1, 1) := by decide +kernel
theorem dX2_removeAt_59 : decode cX2_removeAt 59 = .ok (.isub, 1) := by decide +kernel
theorem dX2_removeAt_60 : decode cX2_removeAt 60 = .ok (.aload_n 0, 1) := by decide +kernel
theorem dX2_removeAt_61 : decode cX2_removeAt 61 = .ok (.getfield 21, 3) := by decide +kernel
theorem dX2_removeAt_64 : decode cX2_removeAt 64 = .ok (.iload_n 2, 1) := by decide +kernel
theorem dX2_removeAt_65 : decode cX2_removeAt 65 = .ok (.iaload, 1) := by decide +kernel
theorem dX2_removeAt_66 : decode cX2_removeAt 66 = .ok (.iastore, 1) := by decide +kernel
theorem dX2_removeAt_67 : decode cX2_removeAt 67 = .ok (.iinc 2 1, 3) := by decide +kernel
theorem dX2_removeAt_70 : decode cX2_removeAt 70 = .ok (.goto (-57), 3) := by decide +kernel
theorem dX2_removeAt_73 : decode cX2_removeAt 73 = .ok (.aload_n 0, 1) := by decide +kernel
theorem dX2_removeAt_74 : decode cX2_removeAt 74 = .ok (.dup, 1) := by decide +kernel
theorem dX2_removeAt_75 : decode cX2_removeAt 75 = .ok (.getfield 24, 3) := by decide +kernel
theorem dX2_removeAt_78 : decode cX2_removeAt 78 = .ok (.iconst 1, 1) := by decide +kernel
theorem dX2_removeAt_79 : decode cX2_removeAt 79 = .ok (.isub, 1) := by decide +kernel
theorem dX2_removeAt_80 : decode cX2_removeAt 80 = .ok (.putfield 24, 3) := by decide +kernel
theorem dX2_removeAt_83 : decode cX2_removeAt 83 = .ok (.return_, 1) := by decide +kernel
theorem dX2_clear_0 : decode cX2_clear 0 = .ok (.aload_n 0, 1) := by decide +kernel
theorem dX2_clear_1 : decode cX2_clear 1 = .ok (.iconst 0, 1) := by decide +kernel
theorem dX2_clear_2 : decode cX2_clear 2 = .ok (.putfield 24, 3) := by decide +kernel
theorem dX2_clear_5 : decode cX2_clear 5 = .ok (.return_, 1) := by decide +kernel
theorem dX2_copyFrom_0 : decode cX2_copyFrom 0 = .ok (.aload_n 0, 1) := by decide +kernel
theorem dX2_copyFrom_1 : decode cX2_copyFrom 1 = .ok (.aload_n 1, 1) := by decide +kernel
theorem dX2_copyFrom_2 : decode cX2_copyFrom 2 = .ok (.getfield 15, 3) := by decide +kernel
theorem dX2_copyFrom_5 : decode cX2_copyFrom 5 = .ok (.aload_n 0, 1) := by decide +kernel
theorem dX2_copyFrom_6 : decode cX2_copyFrom 6 = .ok (.getfield 15, 3) := by decide +kernel
theorem dX2_copyFrom_9 : decode cX2_copyFrom 9 = .ok (.aload_n 1, 1) := by decide +kernel
theorem dX2_copyFrom_10 : decode cX2_copyFrom 10 = .ok (.getfield 24, 3) := by decide +kernel
theorem dX2_copyFrom_13 : decode cX2_copyFrom 13 = .ok (.invokestatic 39, 3) := by decide +kernel
theorem dX2_copyFrom_16 : decode cX2_copyFrom 16 = .ok (.putfield 24, 3) := by decide +kernel
theorem dX2_copyFrom_19 : decode cX2_copyFrom 19 = .ok (.aload_n 1, 1) := by decide +kernel
theorem dX2_copyFrom_20 : decode cX2_copyFrom 20 = .ok (.getfield 21, 3) := by decide +kernel
theorem dX2_copyFrom_23 : decode cX2_copyFrom 23 = .ok (.aload_n 0, 1) := by decide +kernel
theorem dX2_copyFrom_24 : decode cX2_copyFrom 24 = .ok (.getfield 21, 3) := by decide +kernel
theorem dX2_copyFrom_27 : decode cX2_copyFrom 27 = .ok (.aload_n 0, 1) := by decide +kernel
theorem dX2_copyFrom_28 : decode cX2_copyFrom 28 = .ok (.getfield 24, 3) := by decide +kernel
theorem dX2_copyFrom_31 : decode cX2_copyFrom 31 = .ok (.invokestatic 39, 3) := by decide +kernel
theorem dX2_copyFrom_34 : decode cX2_copyFrom 34 = .ok (.pop, 1) := by decide +kernel
theorem dX2_copyFrom_35 : decode cX2_copyFrom 35 = .ok (.return_, 1) := by decide +kernel
theorem dX2_mergeOf_0 : decode cX2_mergeOf 0 = .ok (.aload_n 0, 1) := by decide +kernel
theorem dX2_mergeOf_1 : decode cX2_mergeOf 1 = .ok (.iconst 0, 1) := by decide +kernel
theorem dX2_mergeOf_2 : decode cX2_mergeOf 2 = .ok (.putfield 24, 3) := by decide +kernel
theorem dX2_mergeOf_5 : decode cX2_mergeOf 5 = .ok (.iconst 0, 1) := by decide +kernel
theorem dX2_mergeOf_6 : decode cX2_mergeOf 6 = .ok (.istore_n 3, 1) := by decide +kernel
theorem dX2_mergeOf_7 : decode cX2_mergeOf 7 = .ok (.iconst 0, 1) := by decide +kernel
theorem dX2_mergeOf_8 : decode cX2_mergeOf 8 = .ok (.istore 4, 2) := by decide +kernel
theorem dX2_mergeOf_10 : decode cX2_mergeOf 10 = .ok (.aload_n 1, 1) := by decide +kernel
theorem dX2_mergeOf_11 : decode cX2_mergeOf 11 = .ok (.getfield 24, 3) := by decide +kernel
theorem dX2_mergeOf_14 : decode cX2_mergeOf 14 = .ok (.aload_n 2, 1) := by decide +kernel
theorem dX2_mergeOf_15 : decode cX2_mergeOf 15 = .ok (.getfield 24, 3) := by decide +kernel
theorem dX2_mergeOf_18 : decode cX2_mergeOf 18 = .ok (.iadd, 1) := by decide +kernel
theorem dX2_mergeOf_19 : decode cX2_mergeOf 19 = .ok (.istore 5, 2) := by decide +kernel
theorem dX2_mergeOf_21 : decode cX2_mergeOf 21 = .ok (.iconst 0, 1) := by decide +kernel
theorem dX2_mergeOf_22 : decode cX2_mergeOf 22 = .ok (.istore 6, 2) := by decide +kernel
theorem dX2_mergeOf_24 : decode cX2_mergeOf 24 = .ok (.iload 6, 2) := by decide +kernel
theorem dX2_mergeOf_26 : decode cX2_mergeOf 26 = .ok (.iload 5, 2) := by decide +kernel
theorem dX2_mergeOf_28 : decode cX2_mergeOf 28 = .ok (.if_icmp .ge 125, 3) := by decide +kernel
theorem dX2_mergeOf_31 : decode cX2_mergeOf 31 = .ok (.aload_n 1, 1) := by decide +kernel
theorem dX2_mergeOf_32 : decode cX2_mergeOf 32 = .ok (.iload_n 3, 1) := by decide +kernel
theorem dX2_mergeOf_33 : decode cX2_mergeOf 33 = .ok (.invokevirtual 35, 3) := by decide +kernel
theorem dX2_mergeOf_36 : decode cX2_mergeOf 36 = .ok (.ifCond .ne 12, 3) := by decide +kernel
theorem dX2_mergeOf_39 : decode cX2_mergeOf 39 = .ok (.aload_n 2, 1) := by decide +kernel
theorem dX2_mergeOf_40 : decode cX2_mergeOf 40 = .ok (.iload 4, 2) := by decide +kernel
theorem dX2_mergeOf_42 : decode cX2_mergeOf 42 = .ok (.invokevirtual 35, 3) := by decide +kernel
theorem dX2_mergeOf_45 : decode cX2_mergeOf 45 = .ok (.ifCond .eq 108, 3) := by decide +kernel
theorem dX2_mergeOf_48 : decode cX2_mergeOf 48 = .ok (.aload_n 2, 1) := by decide +kernel
theorem dX2_mergeOf_49 : decode cX2_mergeOf 49 = .ok (.iload 4, 2) := by decide +kernel
theorem dX2_mergeOf_51 : decode cX2_mergeOf 51 = .ok (.invokevirtual 35, 3) := by decide +kernel
theorem dX2_mergeOf_54 : decode cX2_mergeOf 54 = .ok (.ifCond .eq 29, 3) := by decide +kernel
theorem dX2_mergeOf_57 : decode cX2_mergeOf 57 = .ok (.aload_n 1, 1) := by decide +kernel
theorem dX2_mergeOf_58 : decode cX2_mergeOf 58 = .ok (.iload_n 3, 1) := by decide +kernel
theorem dX2_mergeOf_59 : decode cX2_mergeOf 59 = .ok (.invokevirtual 35, 3) := by decide +kernel
theorem dX2_mergeOf_62 : decode cX2_mergeOf 62 = .ok (.ifCond .eq 17, 3) := by decide +kernel
theorem dX2_mergeOf_65 : decode cX2_mergeOf 65 = .ok (.aload_n 2, 1) := by decide +kernel
theorem dX2_mergeOf_66 : decode cX2_mergeOf 66 = .ok (.iload 4, 2) := by decide +kernel
theorem dX2_mergeOf_68 : decode cX2_mergeOf 68 = .ok (.invokevirtual 32, 3) := by decide +kernel
theorem dX2_mergeOf_71 : decode cX2_mergeOf 71 = .ok (.aload_n 1, 1) := by decide +kernel
theorem dX2_mergeOf_72 : decode cX2_mergeOf 72 = .ok (.iload_n 3, 1) := by decide +kernel
theorem dX2_mergeOf_73 : decode cX2_mergeOf 73 = .ok (.invokevirtual 32, 3) := by decide +kernel
theorem dX2_mergeOf_76 : decode cX2_mergeOf 76 = .ok (.if_icmp .gt 7, 3) := by decide +kernel
theorem dX2_mergeOf_79 : decode cX2_mergeOf 79 = .ok (.iconst 1, 1) := by decide +kernel
theorem dX2_mergeOf_80 : decode cX2_mergeOf 80 = .ok (.goto 4, 3) := by decide +kernel
theorem dX2_mergeOf_83 : decode cX2_mergeOf 83 = .ok (.iconst 0, 1) := by decide +kernel
theorem dX2_mergeOf_84 : decode cX2_mergeOf 84 = .ok (.istore 7, 2) := by decide +kernel
theorem dX2_mergeOf_86 : decode cX2_mergeOf 86 = .ok (.iload 7, 2) := by decide +kernel
theorem dX2_mergeOf_88 : decode cX2_mergeOf 88 = .ok (.ifCond .eq 42, 3) := by decide +kernel
theorem dX2_mergeOf_91 : decode cX2_mergeOf 91 = .ok (.aload_n 1, 1) := by decide +kernel
theorem dX2_mergeOf_92 : decode cX2_mergeOf 92 = .ok (.iload_n 3, 1) := by decide +kernel
theorem dX2_mergeOf_93 : decode cX2_mergeOf 93 = .ok (.invokevirtual 32, 3) := by decide +kernel
theorem dX2_mergeOf_96 : decode cX2_mergeOf 96 = .ok (.aload_n 2, 1) := by decide +kernel
theorem dX2_mergeOf_97 : decode cX2_mergeOf 97 = .ok (.iload 4, 2) := by decide +kernel
theorem dX2_mergeOf_99 : decode cX2_mergeOf 99 = .ok (.invokevirtual 32, 3) := by decide +kernel
theorem dX2_mergeOf_102 : decode cX2_mergeOf 102 = .ok (.if_icmp .ne 6, 3) := by decide +kernel
theorem dX2_mergeOf_105 : decode cX2_mergeOf 105 = .ok (.iinc 3 1, 3) := by decide +kernel
theorem dX2_mergeOf_108 : decode cX2_mergeOf 108 = .ok (.aload_n 0, 1) := by decide +kernel
theorem dX2_mergeOf_109 : decode cX2_mergeOf 109 = .ok (.aload_n 2, 1) := by decide +kernel
theorem dX2_mergeOf_110 : decode cX2_mergeOf 110 = .ok (.iload 4, 2) := by decide +kernel
theorem dX2_mergeOf_112 : decode cX2_mergeOf 112 = .ok (.invokevirtual 32, 3) := by decide +kernel
theorem dX2_mergeOf_115 : decode cX2_mergeOf 115 = .ok (.aload_n 2, 1) := by decide +kernel
theorem dX2_mergeOf_116 : decode cX2_mergeOf 116 = .ok (.iload 4, 2) := by decide +kernel
theorem dX2_mergeOf_118 : decode cX2_mergeOf 118 = .ok (.invokevirtual 43, 3) := by decide +kernel
theorem dX2_mergeOf_121 : decode cX2_mergeOf 121 = .ok (.invokevirtual 46, 3) := by decide +kernel
theorem dX2_mergeOf_124 : decode cX2_mergeOf 124 = .ok (.iinc 4 1, 3) := by decide +kernel
theorem dX2_mergeOf_127 : decode cX2_mergeOf 127 = .ok (.goto 20, 3) := by decide +kernel
theorem dX2_mergeOf_130 : decode cX2_mergeOf 130 = .ok (.aload_n 0, 1) := by decide +kernel
theorem dX2_mergeOf_131 : decode cX2_mergeOf 131 = .ok (.aload_n 1, 1) := by decide +kernel
theorem dX2_mergeOf_132 : decode cX2_mergeOf 132 = .ok (.iload_n 3, 1) := by decide +kernel
theorem dX2_mergeOf_133 : decode cX2_mergeOf 133 = .ok (.invokevirtual 32, 3) := by decide +kernel
theorem dX2_mergeOf_136 : decode cX2_mergeOf 136 = .ok (.aload_n 1, 1) := by decide +kernel
theorem dX2_mergeOf_137 : decode cX2_mergeOf 137 = .ok (.iload_n 3, 1) := by decide +kernel
theorem dX2_mergeOf_138 : decode cX2_mergeOf 138 = .ok (.invokevirtual 43, 3) := by decide +kernel
theorem dX2_mergeOf_141 : decode cX2_mergeOf 141 = .ok (.invokevirtual 46, 3) := by decide +kernel
theorem dX2_mergeOf_144 : decode cX2_mergeOf 144 = .ok (.iinc 3 1, 3) := by decide +kernel
theorem dX2_mergeOf_147 : decode cX2_mergeOf 147 = .ok (.iinc 6 1, 3) := by decide +kernel
theorem dX2_mergeOf_150 : decode cX2_mergeOf 150 = .ok (.goto (-126), 3) := by decide +kernel
theorem dX2_mergeOf_153 : decode cX2_mergeOf 153 = .ok (.return_, 1) := by decide +kernel
theorem dX2_takeOutGone_0 : decode cX2_takeOutGone 0 = .ok (.iconst 0, 1) := by decide +kernel
theorem dX2_takeOutGone_1 : decode cX2_takeOutGone 1 = .ok (.istore_n 1, 1) := by decide +kernel
theorem dX2_takeOutGone_2 : decode cX2_takeOutGone 2 = .ok (.iconst 0, 1) := by decide +kernel
theorem dX2_takeOutGone_3 : decode cX2_takeOutGone 3 = .ok (.istore_n 2, 1) := by decide +kernel
theorem dX2_takeOutGone_4 : decode cX2_takeOutGone 4 = .ok (.iload_n 2, 1) := by decide +kernel
theorem dX2_takeOutGone_5 : decode cX2_takeOutGone 5 = .ok (.aload_n 0, 1) := by decide +kernel
theorem dX2_takeOutGone_6 : decode cX2_takeOutGone 6 = .ok (.getfield 24, 3) := by decide +kernel
theorem dX2_takeOutGone_9 : decode cX2_takeOutGone 9 = .ok (.if_icmp .ge 64, 3) := by decide +kernel
theorem dX2_takeOutGone_12 : decode cX2_takeOutGone 12 = .ok (.iload_n 2, 1) := by decide +kernel
theorem dX2_takeOutGone_13 : decode cX2_takeOutGone 13 = .ok (.aload_n 0, 1) := by decide +kernel
theorem dX2_takeOutGone_14 : decode cX2_takeOutGone 14 = .ok (.getfield 15, 3) := by decide +kernel
theorem dX2_takeOutGone_17 : decode cX2_takeOutGone 17 = .ok (.arraylength, 1) := by decide +kernel
theorem dX2_takeOutGone_18 : decode cX2_takeOutGone 18 = .ok (.if_icmp .ge 55, 3) := by decide +kernel
theorem dX2_takeOutGone_21 : decode cX2_takeOutGone 21 = .ok (.iload_n 2, 1) := by decide +kernel
theorem dX2_takeOutGone_22 : decode cX2_takeOutGone 22 = .ok (.aload_n 0, 1) := by decide +kernel
theorem dX2_takeOutGone_23 : decode cX2_takeOutGone 23 = .ok (.getfield 21, 3) := by decide +kernel
theorem dX2_takeOutGone_26 : decode cX2_takeOutGone 26 = .ok (.arraylength, 1) := by decide +kernel
theorem dX2_takeOutGone_27 : decode cX2_takeOutGone 27 = .ok (.if_icmp .ge 46, 3) := by decide +kernel
theorem dX2_takeOutGone_30 : decode cX2_takeOutGone 30 = .ok (.aload_n 0, 1) := by decide +kernel
theorem dX2_takeOutGone_31 : decode cX2_takeOutGone 31 = .ok (.getfield 21, 3) := by decide +kernel
theorem dX2_takeOutGone_34 : decode cX2_takeOutGone 34 = .ok (.iload_n 2, 1) := by decide +kernel
theorem dX2_takeOutGone_35 : decode cX2_takeOutGone 35 = .ok (.iaload, 1) := by decide +kernel
theorem dX2_takeOutGone_36 : decode cX2_takeOutGone 36 = .ok (.iconst (-1), 1) := by decide +kernel
theorem dX2_takeOutGone_37 : decode cX2_takeOutGone 37 = .ok (.if_icmp .eq 30, 3) := by decide +kernel
theorem dX2_takeOutGone_40 : decode cX2_takeOutGone 40 = .ok (.aload_n 0, 1) := by decide +kernel
theorem dX2_takeOutGone_41 : decode cX2_takeOutGone 41 = .ok (.getfield 15, 3) := by decide +kernel
theorem dX2_takeOutGone_44 : decode cX2_takeOutGone 44 = .ok (.iload_n 1, 1) := by decide +kernel
theorem dX2_takeOutGone_45 : decode cX2_takeOutGone 45 = .ok (.aload_n 0, 1) := by decide +kernel
theorem dX2_takeOutGone_46 : decode cX2_takeOutGone 46 = .ok (.getfield 15, 3) := by decide +kernel
theorem dX2_takeOutGone_49 : decode cX2_takeOutGone 49 = .ok (.iload_n 2, 1) := by decide +kernel
theorem dX2_takeOutGone_50 : decode cX2_takeOutGone 50 = .ok (.iaload, 1) := by decide +kernel
theorem dX2_takeOutGone_51 : decode cX2_takeOutGone 51 = .ok (.iastore, 1) := by decide +kernel
theorem dX2_takeOutGone_52 : decode cX2_takeOutGone 52 = .ok (.aload_n 0, 1) := by decide +kernel
theorem dX2_takeOutGone_53 : decode cX2_takeOutGone 53 = .ok (.getfield 21, 3) := by decide +kernel
theorem dX2_takeOutGone_56 : decode cX2_takeOutGone 56 = .ok (.iload_n 1, 1) := by decide +kernel
theorem dX2_takeOutGone_57 : decode cX2_takeOutGone 57 = .ok (.aload_n 0, 1) := by decide +kernel
theorem dX2_takeOutGone_58 : decode cX2_takeOutGone 58 = .ok (.getfield 21, 3) := by decide +kernel
theorem dX2_takeOutGone_61 : decode cX2_takeOutGone 61 = .ok (.iload_n 2, 1) := by decide +kernel
theorem dX2_takeOutGone_62 : decode cX2_takeOutGone 62 = .ok (.iaload, 1) := by decide +kernel
theorem dX2_takeOutGone_63 : decode cX2_takeOutGone 63 = .ok (.iastore, 1) := by decide +kernel
theorem dX2_takeOutGone_64 : decode cX2_takeOutGone 64 = .ok (.iinc 1 1, 3) := by decide +kernel
theorem dX2_takeOutGone_67 : decode cX2_takeOutGone 67 = .ok (.iinc 2 1, 3) := by decide +kernel
theorem dX2_takeOutGone_70 : decode cX2_takeOutGone 70 = .ok (.goto (-66), 3) := by decide +kernel
theorem dX2_takeOutGone_73 : decode cX2_takeOutGone 73 = .ok (.aload_n 0, 1) := by decide +kernel
theorem dX2_takeOutGone_74 : decode cX2_takeOutGone 74 = .ok (.iload_n 1, 1) := by decide +kernel
theorem dX2_takeOutGone_75 : decode cX2_takeOutGone 75 = .ok (.putfield 24, 3) := by decide +kernel
theorem dX2_takeOutGone_78 : decode cX2_takeOutGone 78 = .ok (.return_, 1) := by decide +kernel
theorem dX2_standsAfter_0 : decode cX2_standsAfter 0 = .ok (.iload_n 2, 1) := by decide +kernel
theorem dX2_standsAfter_1 : decode cX2_standsAfter 1 = .ok (.istore_n 3, 1) := by decide +kernel
theorem dX2_standsAfter_2 : decode cX2_standsAfter 2 = .ok (.iconst 0, 1) := by decide +kernel
theorem dX2_standsAfter_3 : decode cX2_standsAfter 3 = .ok (.istore 4, 2) := by decide +kernel
theorem dX2_standsAfter_5 : decode cX2_standsAfter 5 = .ok (.iload 4, 2) := by decide +kernel
theorem dX2_standsAfter_7 : decode cX2_standsAfter 7 = .ok (.aload_n 0, 1) := by decide +kernel
theorem dX2_standsAfter_8 : decode cX2_standsAfter 8 = .ok (.getfield 24, 3) := by decide +kernel
theorem dX2_standsAfter_11 : decode cX2_standsAfter 11 = .ok (.if_icmp .ge 35, 3) := by decide +kernel
theorem dX2_standsAfter_14 : decode cX2_standsAfter 14 = .ok (.aload_n 0, 1) := by decide +kernel
theorem dX2_standsAfter_15 : decode cX2_standsAfter 15 = .ok (.iload 4, 2) := by decide +kernel
theorem dX2_standsAfter_17 : decode cX2_standsAfter 17 = .ok (.invokevirtual 32, 3) := by decide +kernel
theorem dX2_standsAfter_20 : decode cX2_standsAfter 20 = .ok (.iload_n 1, 1) := by decide +kernel
theorem dX2_standsAfter_21 : decode cX2_standsAfter 21 = .ok (.if_icmp .ne 19, 3) := by decide +kernel
theorem dX2_standsAfter_24 : decode cX2_standsAfter 24 = .ok (.aload_n 0, 1) := by decide +kernel
theorem dX2_standsAfter_25 : decode cX2_standsAfter 25 = .ok (.iload 4, 2) := by decide +kernel
theorem dX2_standsAfter_27 : decode cX2_standsAfter 27 = .ok (.invokevirtual 43, 3) := by decide +kernel
theorem dX2_standsAfter_30 : decode cX2_standsAfter 30 = .ok (.iconst (-1), 1) := by decide +kernel
theorem dX2_standsAfter_31 : decode cX2_standsAfter 31 = .ok (.if_icmp .eq 7, 3) := by decide +kernel
theorem dX2_standsAfter_34 : decode cX2_standsAfter 34 = .ok (.iconst 1, 1) := by decide +kernel
theorem dX2_standsAfter_35 : decode cX2_standsAfter 35 = .ok (.goto 4, 3) := by decide +kernel
theorem dX2_standsAfter_38 : decode cX2_standsAfter 38 = .ok (.iconst 0, 1) := by decide +kernel
theorem dX2_standsAfter_39 : decode cX2_standsAfter 39 = .ok (.istore_n 3, 1) := by decide +kernel
theorem dX2_standsAfter_40 : decode cX2_standsAfter 40 = .ok (.iinc 4 1, 3) := by decide +kernel
theorem dX2_standsAfter_43 : decode cX2_standsAfter 43 = .ok (.goto (-38), 3) := by decide +kernel
theorem dX2_standsAfter_46 : decode cX2_standsAfter 46 = .ok (.iload_n 3, 1) := by decide +kernel
theorem dX2_standsAfter_47 : decode cX2_standsAfter 47 = .ok (.ireturn, 1) := by decide +kernel
theorem dX2_countFrom_0 : decode cX2_countFrom 0 = .ok (.iconst 0, 1) := by decide +kernel
theorem dX2_countFrom_1 : decode cX2_countFrom 1 = .ok (.istore_n 3, 1) := by decide +kernel
theorem dX2_countFrom_2 : decode cX2_countFrom 2 = .ok (.aload_n 0, 1) := by decide +kernel
theorem dX2_countFrom_3 : decode cX2_countFrom 3 = .ok (.iload_n 1, 1) := by decide +kernel
theorem dX2_countFrom_4 : decode cX2_countFrom 4 = .ok (.invokevirtual 28, 3) := by decide +kernel
theorem dX2_countFrom_7 : decode cX2_countFrom 7 = .ok (.istore 4, 2) := by decide +kernel
theorem dX2_countFrom_9 : decode cX2_countFrom 9 = .ok (.iload 4, 2) := by decide +kernel
theorem dX2_countFrom_11 : decode cX2_countFrom 11 = .ok (.aload_n 0, 1) := by decide +kernel
theorem dX2_countFrom_12 : decode cX2_countFrom 12 = .ok (.getfield 24, 3) := by decide +kernel
theorem dX2_countFrom_15 : decode cX2_countFrom 15 = .ok (.if_icmp .ge 22, 3) := by decide +kernel
theorem dX2_countFrom_18 : decode cX2_countFrom 18 = .ok (.aload_n 0, 1) := by decide +kernel
theorem dX2_countFrom_19 : decode cX2_countFrom 19 = .ok (.iload 4, 2) := by decide +kernel
theorem dX2_countFrom_21 : decode cX2_countFrom 21 = .ok (.invokevirtual 32, 3) := by decide +kernel
theorem dX2_countFrom_24 : decode cX2_countFrom 24 = .ok (.iload_n 2, 1) := by decide +kernel
theorem dX2_countFrom_25 : decode cX2_countFrom 25 = .ok (.if_icmp .gt 12, 3) := by decide +kernel
theorem dX2_countFrom_28 : decode cX2_countFrom 28 = .ok (.iinc 3 1, 3) := by decide +kernel
theorem dX2_countFrom_31 : decode cX2_countFrom 31 = .ok (.iinc 4 1, 3) := by decide +kernel
theorem dX2_countFrom_34 : decode cX2_countFrom 34 = .ok (.goto (-25), 3) := by decide +kernel
theorem dX2_countFrom_37 : decode cX2_countFrom 37 = .ok (.iload_n 3, 1) := by decide +kernel
theorem dX2_countFrom_38 : decode cX2_countFrom 38 = .ok (.ireturn, 1) := by decide +kernel
theorem dX3_init_0 : decode cX3_init 0 = .ok (.aload_n 0, 1) := by decide +kernel
theorem dX3_init_1 : decode cX3_init 1 = .ok (.invokespecial 3, 3) := by decide +kernel
theorem dX3_init_4 : decode cX3_init 4 = .ok (.aload_n 0, 1) := by decide +kernel
theorem dX3_init_5 : decode cX3_init 5 = .ok (.new 9, 3) := by decide +kernel
theorem dX3_init_8 : decode cX3_init 8 = .ok (.dup, 1) := by decide +kernel
theorem dX3_init_9 : decode cX3_init 9 = .ok (.bipush 12, 2) := by decide +kernel
theorem dX3_init_11 : decode cX3_init 11 = .ok (.invokespecial 11, 3) := by decide +kernel
theorem dX3_init_14 : decode cX3_init 14 = .ok (.putfield 14, 3) := by decide +kernel
theorem dX3_init_17 : decode cX3_init 17 = .ok (.aload_n 0, 1) := by decide +kernel
theorem dX3_init_18 : decode cX3_init 18 = .ok (.bipush 6, 2) := by decide +kernel
theorem dX3_init_20 : decode cX3_init 20 = .ok (.anewarray 9, 3) := by decide +kernel
theorem dX3_init_23 : decode cX3_init 23 = .ok (.putfield 20, 3) := by decide +kernel
theorem dX3_init_26 : decode cX3_init 26 = .ok (.aload_n 0, 1) := by decide +kernel
theorem dX3_init_27 : decode cX3_init 27 = .ok (.new 24, 3) := by decide +kernel
theorem dX3_init_30 : decode cX3_init 30 = .ok (.dup, 1) := by decide +kernel
theorem dX3_init_31 : decode cX3_init 31 = .ok (.invokespecial 26, 3) := by decide +kernel
theorem dX3_init_34 : decode cX3_init 34 = .ok (.putfield 27, 3) := by decide +kernel
theorem dX3_init_37 : decode cX3_init 37 = .ok (.aload_n 0, 1) := by decide +kernel
theorem dX3_init_38 : decode cX3_init 38 = .ok (.iconst 4, 1) := by decide +kernel
theorem dX3_init_39 : decode cX3_init 39 = .ok (.putfield 31, 3) := by decide +kernel
theorem dX3_init_42 : decode cX3_init 42 = .ok (.aload_n 0, 1) := by decide +kernel
theorem dX3_init_43 : decode cX3_init 43 = .ok (.iconst 3, 1) := by decide +kernel
theorem dX3_init_44 : decode cX3_init 44 = .ok (.putfield 35, 3) := by decide +kernel
theorem dX3_init_47 : decode cX3_init 47 = .ok (.iconst 0, 1) := by decide +kernel
theorem dX3_init_48 : decode cX3_init 48 = .ok (.istore_n 1, 1) := by decide +kernel
theorem dX3_init_49 : decode cX3_init 49 = .ok (.iload_n 1, 1) := by decide +kernel
theorem dX3_init_50 : decode cX3_init 50 = .ok (.aload_n 0, 1) := by decide +kernel
theorem dX3_init_51 : decode cX3_init 51 = .ok (.getfield 20, 3) := by decide +kernel
theorem dX3_init_54 : decode cX3_init 54 = .ok (.arraylength, 1) := by decide +kernel
theorem dX3_init_55 : decode cX3_init 55 = .ok (.if_icmp .ge 24, 3) := by decide +kernel
theorem dX3_init_58 : decode cX3_init 58 = .ok (.aload_n 0, 1) := by decide +kernel
theorem dX3_init_59 : decode cX3_init 59 = .ok (.getfield 20, 3) := by decide +kernel
theorem dX3_init_62 : decode cX3_init 62 = .ok (.iload_n 1, 1) := by decide +kernel
theorem dX3_init_63 : decode cX3_init 63 = .ok (.new 9, 3) := by decide +kernel
theorem dX3_init_66 : decode cX3_init 66 = .ok (.dup, 1) := by decide +kernel
theorem dX3_init_67 : decode cX3_init 67 = .ok (.bipush 60, 2) := by decide +kernel
theorem dX3_init_69 : decode cX3_init 69 = .ok (.invokespecial 11, 3) := by decide +kernel
theorem dX3_init_72 : decode cX3_init 72 = .ok (.aastore, 1) := by decide +kernel
theorem dX3_init_73 : decode cX3_init 73 = .ok (.iinc 1 1, 3) := by decide +kernel
theorem dX3_init_76 : decode cX3_init 76 = .ok (.goto (-27), 3) := by decide +kernel
theorem dX3_init_79 : decode cX3_init 79 = .ok (.return_, 1) := by decide +kernel
theorem dX3_copyFrom_0 : decode cX3_copyFrom 0 = .ok (.aload_n 0, 1) := by decide +kernel
theorem dX3_copyFrom_1 : decode cX3_copyFrom 1 = .ok (.getfield 14, 3) := by decide +kernel
theorem dX3_copyFrom_4 : decode cX3_copyFrom 4 = .ok (.aload_n 1, 1) := by decide +kernel
theorem dX3_copyFrom_5 : decode cX3_copyFrom 5 = .ok (.getfield 14, 3) := by decide +kernel
theorem dX3_copyFrom_8 : decode cX3_copyFrom 8 = .ok (.invokevirtual 38, 3) := by decide +kernel
theorem dX3_copyFrom_11 : decode cX3_copyFrom 11 = .ok (.iconst 0, 1) := by decide +kernel
theorem dX3_copyFrom_12 : decode cX3_copyFrom 12 = .ok (.istore_n 2, 1) := by decide +kernel
theorem dX3_copyFrom_13 : decode cX3_copyFrom 13 = .ok (.iload_n 2, 1) := by decide +kernel
theorem dX3_copyFrom_14 : decode cX3_copyFrom 14 = .ok (.aload_n 1, 1) := by decide +kernel
theorem dX3_copyFrom_15 : decode cX3_copyFrom 15 = .ok (.getfield 42, 3) := by decide +kernel
theorem dX3_copyFrom_18 : decode cX3_copyFrom 18 = .ok (.if_icmp .ge 37, 3) := by decide +kernel
theorem dX3_copyFrom_21 : decode cX3_copyFrom 21 = .ok (.aload_n 0, 1) := by decide +kernel
theorem dX3_copyFrom_22 : decode cX3_copyFrom 22 = .ok (.iload_n 2, 1) := by decide +kernel
theorem dX3_copyFrom_23 : decode cX3_copyFrom 23 = .ok (.invokevirtual 45, 3) := by decide +kernel
theorem dX3_copyFrom_26 : decode cX3_copyFrom 26 = .ok (.astore_n 3, 1) := by decide +kernel
theorem dX3_copyFrom_27 : decode cX3_copyFrom 27 = .ok (.aload_n 1, 1) := by decide +kernel
theorem dX3_copyFrom_28 : decode cX3_copyFrom 28 = .ok (.iload_n 2, 1) := by decide +kernel
theorem dX3_copyFrom_29 : decode cX3_copyFrom 29 = .ok (.invokevirtual 45, 3) := by decide +kernel
theorem dX3_copyFrom_32 : decode cX3_copyFrom 32 = .ok (.astore 4, 2) := by decide +kernel
theorem dX3_copyFrom_34 : decode cX3_copyFrom 34 = .ok (.aload_n 3, 1) := by decide +kernel
theorem dX3_copyFrom_35 : decode cX3_copyFrom 35 = .ok (.ifnull 14, 3) := by decide +kernel
theorem dX3_copyFrom_38 : decode cX3_copyFrom 38 = .ok (.aload 4, 2) := by decide +kernel
theorem dX3_copyFrom_40 : decode cX3_copyFrom 40 = .ok (.ifnull 9, 3) := by decide +kernel
theorem dX3_copyFrom_43 : decode cX3_copyFrom 43 = .ok (.aload_n 3, 1) := by decide +kernel
theorem dX3_copyFrom_44 : decode cX3_copyFrom 44 = .ok (.aload 4, 2) := by decide +kernel
theorem dX3_copyFrom_46 : decode cX3_copyFrom 46 = .ok (.invokevirtual 38, 3) := by decide +kernel
theorem dX3_copyFrom_49 : decode cX3_copyFrom 49 = .ok (.iinc 2 1, 3) := by decide +kernel
theorem dX3_copyFrom_52 : decode cX3_copyFrom 52 = .ok (.goto (-39), 3) := by decide +kernel
theorem dX3_copyFrom_55 : decode cX3_copyFrom 55 = .ok (.aload_n 0, 1) := by decide +kernel
theorem dX3_copyFrom_56 : decode cX3_copyFrom 56 = .ok (.aload_n 1, 1) := by decide +kernel
theorem dX3_copyFrom_57 : decode cX3_copyFrom 57 = .ok (.getfield 42, 3) := by decide +kernel
theorem dX3_copyFrom_60 : decode cX3_copyFrom 60 = .ok (.putfield 42, 3) := by decide +kernel
theorem dX3_copyFrom_63 : decode cX3_copyFrom 63 = .ok (.aload_n 0, 1) := by decide +kernel
theorem dX3_copyFrom_64 : decode cX3_copyFrom 64 = .ok (.getfield 27, 3) := by decide +kernel
theorem dX3_copyFrom_67 : decode cX3_copyFrom 67 = .ok (.aload_n 1, 1) := by decide +kernel
theorem dX3_copyFrom_68 : decode cX3_copyFrom 68 = .ok (.getfield 27, 3) := by decide +kernel
theorem dX3_copyFrom_71 : decode cX3_copyFrom 71 = .ok (.invokevirtual 49, 3) := by decide +kernel
theorem dX3_copyFrom_74 : decode cX3_copyFrom 74 = .ok (.aload_n 0, 1) := by decide +kernel
theorem dX3_copyFrom_75 : decode cX3_copyFrom 75 = .ok (.aload_n 1, 1) := by decide +kernel
theorem dX3_copyFrom_76 : decode cX3_copyFrom 76 = .ok (.getfield 31, 3) := by decide +kernel
theorem dX3_copyFrom_79 : decode cX3_copyFrom 79 = .ok (.putfield 31, 3) := by decide +kernel
theorem dX3_copyFrom_82 : decode cX3_copyFrom 82 = .ok (.aload_n 0, 1) := by decide +kernel
theorem dX3_copyFrom_83 : decode cX3_copyFrom 83 = .ok (.aload_n 1, 1) := by decide +kernel
theorem dX3_copyFrom_84 : decode cX3_copyFrom 84 = .ok (.getfield 35, 3) := by decide +kernel
theorem dX3_copyFrom_87 : decode cX3_copyFrom 87 = .ok (.putfield 35, 3) := by decide +kernel
theorem dX3_copyFrom_90 : decode cX3_copyFrom 90 = .ok (.aload_n 0, 1) := by decide +kernel
theorem dX3_copyFrom_91 : decode cX3_copyFrom 91 = .ok (.aload_n 1, 1) := by decide +kernel
theorem dX3_copyFrom_92 : decode cX3_copyFrom 92 = .ok (.getfield 52, 3) := by decide +kernel
theorem dX3_copyFrom_95 : decode cX3_copyFrom 95 = .ok (.putfield 52, 3) := by decide +kernel
theorem dX3_copyFrom_98 : decode cX3_copyFrom 98 = .ok (.aload_n 0, 1) := by decide +kernel
theorem dX3_copyFrom_99 : decode cX3_copyFrom 99 = .ok (.aload_n 1, 1) := by decide +kernel
theorem dX3_copyFrom_100 : decode cX3_copyFrom 100 = .ok (.getfield 55, 3) := by decide +kernel
theorem dX3_copyFrom_103 : decode cX3_copyFrom 103 = .ok (.putfield 55, 3) := by decide +kernel
theorem dX3_copyFrom_106 : decode cX3_copyFrom 106 = .ok (.return_, 1) := by decide +kernel
theorem dX3_closedOn_0 : decode cX3_closedOn 0 = .ok (.iload_n 1, 1) := by decide +kernel
theorem dX3_closedOn_1 : decode cX3_closedOn 1 = .ok (.ifCond .lt 12, 3) := by decide +kernel
theorem dX3_closedOn_4 : decode cX3_closedOn 4 = .ok (.iload_n 1, 1) := by decide +kernel
theorem dX3_closedOn_5 : decode cX3_closedOn 5 = .ok (.aload_n 0, 1) := by decide +kernel
theorem dX3_closedOn_6 : decode cX3_closedOn 6 = .ok (.getfield 20, 3) := by decide +kernel
theorem dX3_closedOn_9 : decode cX3_closedOn 9 = .ok (.arraylength, 1) := by decide +kernel
theorem dX3_closedOn_10 : decode cX3_closedOn 10 = .ok (.if_icmp .lt 7, 3) := by decide +kernel
theorem dX3_closedOn_13 : decode cX3_closedOn 13 = .ok (.aconst_null, 1) := by decide +kernel
theorem dX3_closedOn_14 : decode cX3_closedOn 14 = .ok (.goto 9, 3) := by decide +kernel
theorem dX3_closedOn_17 : decode cX3_closedOn 17 = .ok (.aload_n 0, 1) := by decide +kernel
theorem dX3_closedOn_18 : decode cX3_closedOn 18 = .ok (.getfield 20, 3) := by decide +kernel
theorem dX3_closedOn_21 : decode cX3_closedOn 21 = .ok (.iload_n 1, 1) := by decide +kernel
theorem dX3_closedOn_22 : decode cX3_closedOn 22 = .ok (.aaload, 1) := by decide +kernel
theorem dX3_closedOn_23 : decode cX3_closedOn 23 = .ok (.areturn, 1) := by decide +kernel
theorem dX3_runOn_0 : decode cX3_runOn 0 = .ok (.iload_n 1, 1) := by decide +kernel
theorem dX3_runOn_1 : decode cX3_runOn 1 = .ok (.ifCond .lt 11, 3) := by decide +kernel
theorem dX3_runOn_4 : decode cX3_runOn 4 = .ok (.iload_n 1, 1) := by decide +kernel
theorem dX3_runOn_5 : decode cX3_runOn 5 = .ok (.aload_n 0, 1) := by decide +kernel
theorem dX3_runOn_6 : decode cX3_runOn 6 = .ok (.getfield 42, 3) := by decide +kernel
theorem dX3_runOn_9 : decode cX3_runOn 9 = .ok (.if_icmp .le 5, 3) := by decide +kernel
theorem dX3_runOn_12 : decode cX3_runOn 12 = .ok (.aconst_null, 1) := by decide +kernel
theorem dX3_runOn_13 : decode cX3_runOn 13 = .ok (.areturn, 1) := by decide +kernel
theorem dX3_runOn_14 : decode cX3_runOn 14 = .ok (.iload_n 1, 1) := by decide +kernel
theorem dX3_runOn_15 : decode cX3_runOn 15 = .ok (.ifCond .ne 8, 3) := by decide +kernel
theorem dX3_runOn_18 : decode cX3_runOn 18 = .ok (.aload_n 0, 1) := by decide +kernel
theorem dX3_runOn_19 : decode cX3_runOn 19 = .ok (.getfield 14, 3) := by decide +kernel
theorem dX3_runOn_22 : decode cX3_runOn 22 = .ok (.areturn, 1) := by decide +kernel
theorem dX3_runOn_23 : decode cX3_runOn 23 = .ok (.aload_n 0, 1) := by decide +kernel
theorem dX3_runOn_24 : decode cX3_runOn 24 = .ok (.getfield 42, 3) := by decide +kernel
theorem dX3_runOn_27 : decode cX3_runOn 27 = .ok (.iload_n 1, 1) := by decide +kernel
theorem dX3_runOn_28 : decode cX3_runOn 28 = .ok (.isub, 1) := by decide +kernel
theorem dX3_runOn_29 : decode cX3_runOn 29 = .ok (.istore_n 2, 1) := by decide +kernel
theorem dX3_runOn_30 : decode cX3_runOn 30 = .ok (.iload_n 2, 1) := by decide +kernel
theorem dX3_runOn_31 : decode cX3_runOn 31 = .ok (.aload_n 0, 1) := by decide +kernel
theorem dX3_runOn_32 : decode cX3_runOn 32 = .ok (.getfield 20, 3) := by decide +kernel
theorem dX3_runOn_35 : decode cX3_runOn 35 = .ok (.arraylength, 1) := by decide +kernel
theorem dX3_runOn_36 : decode cX3_runOn 36 = .ok (.if_icmp .lt 7, 3) := by decide +kernel
theorem dX3_runOn_39 : decode cX3_runOn 39 = .ok (.aconst_null, 1) := by decide +kernel
theorem dX3_runOn_40 : decode cX3_runOn 40 = .ok (.goto 9, 3) := by decide +kernel
theorem dX3_runOn_43 : decode cX3_runOn 43 = .ok (.aload_n 0, 1) := by decide +kernel
theorem dX3_runOn_44 : decode cX3_runOn 44 = .ok (.getfield 20, 3) := by decide +kernel
theorem dX3_runOn_47 : decode cX3_runOn 47 = .ok (.iload_n 2, 1) := by decide +kernel
theorem dX3_runOn_48 : decode cX3_runOn 48 = .ok (.aaload, 1) := by decide +kernel
theorem dX3_runOn_49 : decode cX3_runOn 49 = .ok (.areturn, 1) := by decide +kernel
theorem dX3_tell_0 : decode cX3_tell 0 = .ok (.aload_n 0, 1) := by decide +kernel
theorem dX3_tell_1 : decode cX3_tell 1 = .ok (.getfield 14, 3) := by decide +kernel
theorem dX3_tell_4 : decode cX3_tell 4 = .ok (.iload_n 1, 1) := by decide +kernel
theorem dX3_tell_5 : decode cX3_tell 5 = .ok (.invokevirtual 58, 3) := by decide +kernel
theorem dX3_tell_8 : decode cX3_tell 8 = .ok (.istore_n 3, 1) := by decide +kernel
theorem dX3_tell_9 : decode cX3_tell 9 = .ok (.iload_n 3, 1) := by decide +kernel
theorem dX3_tell_10 : decode cX3_tell 10 = .ok (.iconst (-1), 1) := by decide +kernel
theorem dX3_tell_11 : decode cX3_tell 11 = .ok (.if_icmp .eq 20, 3) := by decide +kernel
theorem dX3_tell_14 : decode cX3_tell 14 = .ok (.aload_n 0, 1) := by decide +kernel
theorem dX3_tell_15 : decode cX3_tell 15 = .ok (.getfield 14, 3) := by decide +kernel
theorem dX3_tell_18 : decode cX3_tell 18 = .ok (.iload_n 3, 1) := by decide +kernel
theorem dX3_tell_19 : decode cX3_tell 19 = .ok (.iload_n 2, 1) := by decide +kernel
theorem dX3_tell_20 : decode cX3_tell 20 = .ok (.invokevirtual 62, 3) := by decide +kernel
theorem dX3_tell_23 : decode cX3_tell 23 = .ok (.aload_n 0, 1) := by decide +kernel
theorem dX3_tell_24 : decode cX3_tell 24 = .ok (.getfield 14, 3) := by decide +kernel
theorem dX3_tell_27 : decode cX3_tell 27 = .ok (.getfield 66, 3) := by decide +kernel
theorem dX3_tell_30 : decode cX3_tell 30 = .ok (.ireturn, 1) := by decide +kernel
theorem dX3_tell_31 : decode cX3_tell 31 = .ok (.aload_n 0, 1) := by decide +kernel
theorem dX3_tell_32 : decode cX3_tell 32 = .ok (.getfield 14, 3) := by decide +kernel
theorem dX3_tell_35 : decode cX3_tell 35 = .ok (.invokevirtual 69, 3) := by decide +kernel
theorem dX3_tell_38 : decode cX3_tell 38 = .ok (.ifCond .eq 5, 3) := by decide +kernel
theorem dX3_tell_41 : decode cX3_tell 41 = .ok (.iconst (-1), 1) := by decide +kernel
theorem dX3_tell_42 : decode cX3_tell 42 = .ok (.ireturn, 1) := by decide +kernel
theorem dX3_tell_43 : decode cX3_tell 43 = .ok (.aload_n 0, 1) := by decide +kernel
theorem dX3_tell_44 : decode cX3_tell 44 = .ok (.getfield 14, 3) := by decide +kernel
theorem dX3_tell_47 : decode cX3_tell 47 = .ok (.aload_n 0, 1) := by decide +kernel
theorem dX3_tell_48 : decode cX3_tell 48 = .ok (.getfield 14, 3) := by decide +kernel
theorem dX3_tell_51 : decode cX3_tell 51 = .ok (.iload_n 1, 1) := by decide +kernel
theorem dX3_tell_52 : decode cX3_tell 52 = .ok (.invokevirtual 73, 3) := by decide +kernel
theorem dX3_tell_55 : decode cX3_tell 55 = .ok (.iload_n 1, 1) := by decide +kernel
theorem dX3_tell_56 : decode cX3_tell 56 = .ok (.iload_n 2, 1) := by decide +kernel
theorem dX3_tell_57 : decode cX3_tell 57 = .ok (.invokevirtual 76, 3) := by decide +kernel
theorem dX3_tell_60 : decode cX3_tell 60 = .ok (.aload_n 0, 1) := by decide +kernel
theorem dX3_tell_61 : decode cX3_tell 61 = .ok (.getfield 14, 3) := by decide +kernel
theorem dX3_tell_64 : decode cX3_tell 64 = .ok (.getfield 66, 3) := by decide +kernel
theorem dX3_tell_67 : decode cX3_tell 67 = .ok (.ireturn, 1) := by decide +kernel
theorem dX3_closeOpen_0 : decode cX3_closeOpen 0 = .ok (.aload_n 0, 1) := by decide +kernel
theorem dX3_closeOpen_1 : decode cX3_closeOpen 1 = .ok (.aload_n 0, 1) := by decide +kernel
theorem dX3_closeOpen_2 : decode cX3_closeOpen 2 = .ok (.getfield 42, 3) := by decide +kernel
theorem dX3_closeOpen_5 : decode cX3_closeOpen 5 = .ok (.invokevirtual 45, 3) := by decide +kernel
theorem dX3_closeOpen_8 : decode cX3_closeOpen 8 = .ok (.astore_n 1, 1) := by decide +kernel
theorem dX3_closeOpen_9 : decode cX3_closeOpen 9 = .ok (.aload_n 0, 1) := by decide +kernel
theorem dX3_closeOpen_10 : decode cX3_closeOpen 10 = .ok (.getfield 14, 3) := by decide +kernel
theorem dX3_closeOpen_13 : decode cX3_closeOpen 13 = .ok (.getfield 66, 3) := by decide +kernel
theorem dX3_closeOpen_16 : decode cX3_closeOpen 16 = .ok (.ifCond .eq 7, 3) := by decide +kernel
theorem dX3_closeOpen_19 : decode cX3_closeOpen 19 = .ok (.aload_n 1, 1) := by decide +kernel
theorem dX3_closeOpen_20 : decode cX3_closeOpen 20 = .ok (.ifnonnull 5, 3) := by decide +kernel
theorem dX3_closeOpen_23 : decode cX3_closeOpen 23 = .ok (.iconst (-1), 1) := by decide +kernel
theorem dX3_closeOpen_24 : decode cX3_closeOpen 24 = .ok (.ireturn, 1) := by decide +kernel
theorem dX3_closeOpen_25 : decode cX3_closeOpen 25 = .ok (.aload_n 1, 1) := by decide +kernel
theorem dX3_closeOpen_26 : decode cX3_closeOpen 26 = .ok (.aload_n 0, 1) := by decide +kernel
theorem dX3_closeOpen_27 : decode cX3_closeOpen 27 = .ok (.getfield 14, 3) := by decide +kernel
theorem dX3_closeOpen_30 : decode cX3_closeOpen 30 = .ok (.invokevirtual 38, 3) := by decide +kernel
theorem dX3_closeOpen_33 : decode cX3_closeOpen 33 = .ok (.aload_n 0, 1) := by decide +kernel
theorem dX3_closeOpen_34 : decode cX3_closeOpen 34 = .ok (.getfield 14, 3) := by decide +kernel
theorem dX3_closeOpen_37 : decode cX3_closeOpen 37 = .ok (.invokevirtual 80, 3) := by decide +kernel
theorem dX3_closeOpen_40 : decode cX3_closeOpen 40 = .ok (.aload_n 0, 1) := by decide +kernel
theorem dX3_closeOpen_41 : decode cX3_closeOpen 41 = .ok (.dup, 1) := by decide +kernel
theorem dX3_closeOpen_42 : decode cX3_closeOpen 42 = .ok (.getfield 42, 3) := by decide +kernel
theorem dX3_closeOpen_45 : decode cX3_closeOpen 45 = .ok (.iconst 1, 1) := by decide +kernel
theorem dX3_closeOpen_46 : decode cX3_closeOpen 46 = .ok (.iadd, 1) := by decide +kernel
theorem dX3_closeOpen_47 : decode cX3_closeOpen 47 = .ok (.putfield 42, 3) := by decide +kernel
theorem dX3_closeOpen_50 : decode cX3_closeOpen 50 = .ok (.aload_n 0, 1) := by decide +kernel
theorem dX3_closeOpen_51 : decode cX3_closeOpen 51 = .ok (.getfield 42, 3) := by decide +kernel
theorem dX3_closeOpen_54 : decode cX3_closeOpen 54 = .ok (.ireturn, 1) := by decide +kernel
theorem dX3_mergeOldest_0 : decode cX3_mergeOldest 0 = .ok (.aload_n 0, 1) := by decide +kernel
theorem dX3_mergeOldest_1 : decode cX3_mergeOldest 1 = .ok (.iconst 0, 1) := by decide +kernel
theorem dX3_mergeOldest_2 : decode cX3_mergeOldest 2 = .ok (.invokevirtual 45, 3) := by decide +kernel
theorem dX3_mergeOldest_5 : decode cX3_mergeOldest 5 = .ok (.astore_n 2, 1) := by decide +kernel
theorem dX3_mergeOldest_6 : decode cX3_mergeOldest 6 = .ok (.aload_n 0, 1) := by decide +kernel
theorem dX3_mergeOldest_7 : decode cX3_mergeOldest 7 = .ok (.iconst 1, 1) := by decide +kernel
theorem dX3_mergeOldest_8 : decode cX3_mergeOldest 8 = .ok (.invokevirtual 45, 3) := by decide +kernel
theorem dX3_mergeOldest_11 : decode cX3_mergeOldest 11 = .ok (.astore_n 3, 1) := by decide +kernel
theorem dX3_mergeOldest_12 : decode cX3_mergeOldest 12 = .ok (.aload_n 0, 1) := by decide +kernel
theorem dX3_mergeOldest_13 : decode cX3_mergeOldest 13 = .ok (.getfield 42, 3) := by decide +kernel
theorem dX3_mergeOldest_16 : decode cX3_mergeOldest 16 = .ok (.iconst 2, 1) := by decide +kernel
theorem dX3_mergeOldest_17 : decode cX3_mergeOldest 17 = .ok (.if_icmp .lt 11, 3) := by decide +kernel
theorem dX3_mergeOldest_20 : decode cX3_mergeOldest 20 = .ok (.aload_n 2, 1) := by decide +kernel
theorem dX3_mergeOldest_21 : decode cX3_mergeOldest 21 = .ok (.ifnull 7, 3) := by decide +kernel
theorem dX3_mergeOldest_24 : decode cX3_mergeOldest 24 = .ok (.aload_n 3, 1) := by decide +kernel
theorem dX3_mergeOldest_25 : decode cX3_mergeOldest 25 = .ok (.ifnonnull 5, 3) := by decide +kernel
theorem dX3_mergeOldest_28 : decode cX3_mergeOldest 28 = .ok (.iconst (-1), 1) := by decide +kernel
theorem dX3_mergeOldest_29 : decode cX3_mergeOldest 29 = .ok (.ireturn, 1) := by decide +kernel
theorem dX3_mergeOldest_30 : decode cX3_mergeOldest 30 = .ok (.aload_n 1, 1) := by decide +kernel
theorem dX3_mergeOldest_31 : decode cX3_mergeOldest 31 = .ok (.aload_n 2, 1) := by decide +kernel
theorem dX3_mergeOldest_32 : decode cX3_mergeOldest 32 = .ok (.aload_n 3, 1) := by decide +kernel
theorem dX3_mergeOldest_33 : decode cX3_mergeOldest 33 = .ok (.invokevirtual 83, 3) := by decide +kernel
theorem dX3_mergeOldest_36 : decode cX3_mergeOldest 36 = .ok (.astore 4, 2) := by decide +kernel
theorem dX3_mergeOldest_38 : decode cX3_mergeOldest 38 = .ok (.aload 4, 2) := by decide +kernel
theorem dX3_mergeOldest_40 : decode cX3_mergeOldest 40 = .ok (.getfield 66, 3) := by decide +kernel
theorem dX3_mergeOldest_43 : decode cX3_mergeOldest 43 = .ok (.bipush 60, 2) := by decide +kernel
theorem dX3_mergeOldest_45 : decode cX3_mergeOldest 45 = .ok (.if_icmp .le 5, 3) := by decide +kernel
theorem dX3_mergeOldest_48 : decode cX3_mergeOldest 48 = .ok (.iconst (-1), 1) := by decide +kernel
theorem dX3_mergeOldest_49 : decode cX3_mergeOldest 49 = .ok (.ireturn, 1) := by decide +kernel
theorem dX3_mergeOldest_50 : decode cX3_mergeOldest 50 = .ok (.aload_n 2, 1) := by decide +kernel
theorem dX3_mergeOldest_51 : decode cX3_mergeOldest 51 = .ok (.aload 4, 2) := by decide +kernel
theorem dX3_mergeOldest_53 : decode cX3_mergeOldest 53 = .ok (.invokevirtual 38, 3) := by decide +kernel
theorem dX3_mergeOldest_56 : decode cX3_mergeOldest 56 = .ok (.iconst 2, 1) := by decide +kernel
theorem dX3_mergeOldest_57 : decode cX3_mergeOldest 57 = .ok (.istore 5, 2) := by decide +kernel
theorem dX3_mergeOldest_59 : decode cX3_mergeOldest 59 = .ok (.iload 5, 2) := by decide +kernel
theorem dX3_mergeOldest_61 : decode cX3_mergeOldest 61 = .ok (.aload_n 0, 1) := by decide +kernel
theorem dX3_mergeOldest_62 : decode cX3_mergeOldest 62 = .ok (.getfield 20, 3) := by decide +kernel
theorem dX3_mergeOldest_65 : decode cX3_mergeOldest 65 = .ok (.arraylength, 1) := by decide +kernel
theorem dX3_mergeOldest_66 : decode cX3_mergeOldest 66 = .ok (.if_icmp .ge 25, 3) := by decide +kernel
theorem dX3_mergeOldest_69 : decode cX3_mergeOldest 69 = .ok (.aload_n 0, 1) := by decide +kernel
theorem dX3_mergeOldest_70 : decode cX3_mergeOldest 70 = .ok (.getfield 20, 3) := by decide +kernel
theorem dX3_mergeOldest_73 : decode cX3_mergeOldest 73 = .ok (.iload 5, 2) := by decide +kernel
theorem dX3_mergeOldest_75 : decode cX3_mergeOldest 75 = .ok (.iconst 1, 1) := by decide +kernel
theorem dX3_mergeOldest_76 : decode cX3_mergeOldest 76 = .ok (.isub, 1) := by decide +kernel
theorem dX3_mergeOldest_77 : decode cX3_mergeOldest 77 = .ok (.aload_n 0, 1) := by decide +kernel
theorem dX3_mergeOldest_78 : decode cX3_mergeOldest 78 = .ok (.getfield 20, 3) := by decide +kernel
theorem dX3_mergeOldest_81 : decode cX3_mergeOldest 81 = .ok (.iload 5, 2) := by decide +kernel
theorem dX3_mergeOldest_83 : decode cX3_mergeOldest 83 = .ok (.aaload, 1) := by decide +kernel
theorem dX3_mergeOldest_84 : decode cX3_mergeOldest 84 = .ok (.aastore, 1) := by decide +kernel
theorem dX3_mergeOldest_85 : decode cX3_mergeOldest 85 = .ok (.iinc 5 1, 3) := by decide +kernel
theorem dX3_mergeOldest_88 : decode cX3_mergeOldest 88 = .ok (.goto (-29), 3) := by decide +kernel
theorem dX3_mergeOldest_91 : decode cX3_mergeOldest 91 = .ok (.aload_n 0, 1) := by decide +kernel
theorem dX3_mergeOldest_92 : decode cX3_mergeOldest 92 = .ok (.getfield 20, 3) := by decide +kernel
theorem dX3_mergeOldest_95 : decode cX3_mergeOldest 95 = .ok (.aload_n 0, 1) := by decide +kernel
theorem dX3_mergeOldest_96 : decode cX3_mergeOldest 96 = .ok (.getfield 20, 3) := by decide +kernel
theorem dX3_mergeOldest_99 : decode cX3_mergeOldest 99 = .ok (.arraylength, 1) := by decide +kernel
theorem dX3_mergeOldest_100 : decode cX3_mergeOldest 100 = .ok (.iconst 1, 1) := by decide +kernel
theorem dX3_mergeOldest_101 : decode cX3_mergeOldest 101 = .ok (.isub, 1) := by decide +kernel
theorem dX3_mergeOldest_102 : decode cX3_mergeOldest 102 = .ok (.aload_n 3, 1) := by decide +kernel
theorem dX3_mergeOldest_103 : decode cX3_mergeOldest 103 = .ok (.aastore, 1) := by decide +kernel
theorem dX3_mergeOldest_104 : decode cX3_mergeOldest 104 = .ok (.aload_n 0, 1) := by decide +kernel
theorem dX3_mergeOldest_105 : decode cX3_mergeOldest 105 = .ok (.dup, 1) := by decide +kernel
theorem dX3_mergeOldest_106 : decode cX3_mergeOldest 106 = .ok (.getfield 42, 3) := by decide +kernel
theorem dX3_mergeOldest_109 : decode cX3_mergeOldest 109 = .ok (.iconst 1, 1) := by decide +kernel
theorem dX3_mergeOldest_110 : decode cX3_mergeOldest 110 = .ok (.isub, 1) := by decide +kernel
theorem dX3_mergeOldest_111 : decode cX3_mergeOldest 111 = .ok (.putfield 42, 3) := by decide +kernel
theorem dX3_mergeOldest_114 : decode cX3_mergeOldest 114 = .ok (.aload 4, 2) := by decide +kernel
theorem dX3_mergeOldest_116 : decode cX3_mergeOldest 116 = .ok (.getfield 66, 3) := by decide +kernel
theorem dX3_mergeOldest_119 : decode cX3_mergeOldest 119 = .ok (.ireturn, 1) := by decide +kernel
theorem dX3_rebuild_0 : decode cX3_rebuild 0 = .ok (.aload_n 2, 1) := by decide +kernel
theorem dX3_rebuild_1 : decode cX3_rebuild 1 = .ok (.aload_n 0, 1) := by decide +kernel
theorem dX3_rebuild_2 : decode cX3_rebuild 2 = .ok (.invokevirtual 89, 3) := by decide +kernel
theorem dX3_rebuild_5 : decode cX3_rebuild 5 = .ok (.astore_n 3, 1) := by decide +kernel
theorem dX3_rebuild_6 : decode cX3_rebuild 6 = .ok (.aload_n 3, 1) := by decide +kernel
theorem dX3_rebuild_7 : decode cX3_rebuild 7 = .ok (.getfield 66, 3) := by decide +kernel
theorem dX3_rebuild_10 : decode cX3_rebuild 10 = .ok (.sipush 160, 3) := by decide +kernel
theorem dX3_rebuild_13 : decode cX3_rebuild 13 = .ok (.if_icmp .le 5, 3) := by decide +kernel
theorem dX3_rebuild_16 : decode cX3_rebuild 16 = .ok (.iconst (-1), 1) := by decide +kernel
theorem dX3_rebuild_17 : decode cX3_rebuild 17 = .ok (.ireturn, 1) := by decide +kernel
theorem dX3_rebuild_18 : decode cX3_rebuild 18 = .ok (.aload_n 0, 1) := by decide +kernel
theorem dX3_rebuild_19 : decode cX3_rebuild 19 = .ok (.getfield 27, 3) := by decide +kernel
theorem dX3_rebuild_22 : decode cX3_rebuild 22 = .ok (.aload_n 3, 1) := by decide +kernel
theorem dX3_rebuild_23 : decode cX3_rebuild 23 = .ok (.aload_n 0, 1) := by decide +kernel
theorem dX3_rebuild_24 : decode cX3_rebuild 24 = .ok (.iload_n 1, 1) := by decide +kernel
theorem dX3_rebuild_25 : decode cX3_rebuild 25 = .ok (.invokevirtual 93, 3) := by decide +kernel
theorem dX3_rebuild_28 : decode cX3_rebuild 28 = .ok (.invokevirtual 96, 3) := by decide +kernel
theorem dX3_rebuild_31 : decode cX3_rebuild 31 = .ok (.aload_n 0, 1) := by decide +kernel
theorem dX3_rebuild_32 : decode cX3_rebuild 32 = .ok (.getfield 27, 3) := by decide +kernel
theorem dX3_rebuild_35 : decode cX3_rebuild 35 = .ok (.aload_n 0, 1) := by decide +kernel
theorem dX3_rebuild_36 : decode cX3_rebuild 36 = .ok (.getfield 31, 3) := by decide +kernel
theorem dX3_rebuild_39 : decode cX3_rebuild 39 = .ok (.putfield 100, 3) := by decide +kernel
theorem dX3_rebuild_42 : decode cX3_rebuild 42 = .ok (.aload_n 0, 1) := by decide +kernel
theorem dX3_rebuild_43 : decode cX3_rebuild 43 = .ok (.getfield 27, 3) := by decide +kernel
theorem dX3_rebuild_46 : decode cX3_rebuild 46 = .ok (.aload_n 0, 1) := by decide +kernel
theorem dX3_rebuild_47 : decode cX3_rebuild 47 = .ok (.getfield 35, 3) := by decide +kernel
theorem dX3_rebuild_50 : decode cX3_rebuild 50 = .ok (.putfield 101, 3) := by decide +kernel
theorem dX3_rebuild_53 : decode cX3_rebuild 53 = .ok (.aload_n 0, 1) := by decide +kernel
theorem dX3_rebuild_54 : decode cX3_rebuild 54 = .ok (.getfield 14, 3) := by decide +kernel
theorem dX3_rebuild_57 : decode cX3_rebuild 57 = .ok (.invokevirtual 80, 3) := by decide +kernel
theorem dX3_rebuild_60 : decode cX3_rebuild 60 = .ok (.aload_n 0, 1) := by decide +kernel
theorem dX3_rebuild_61 : decode cX3_rebuild 61 = .ok (.iconst 0, 1) := by decide +kernel
theorem dX3_rebuild_62 : decode cX3_rebuild 62 = .ok (.putfield 42, 3) := by decide +kernel
theorem dX3_rebuild_65 : decode cX3_rebuild 65 = .ok (.aload_n 0, 1) := by decide +kernel
theorem dX3_rebuild_66 : decode cX3_rebuild 66 = .ok (.dup, 1) := by decide +kernel
theorem dX3_rebuild_67 : decode cX3_rebuild 67 = .ok (.getfield 52, 3) := by decide +kernel
theorem dX3_rebuild_70 : decode cX3_rebuild 70 = .ok (.iconst 1, 1) := by decide +kernel
theorem dX3_rebuild_71 : decode cX3_rebuild 71 = .ok (.iadd, 1) := by decide +kernel
theorem dX3_rebuild_72 : decode cX3_rebuild 72 = .ok (.putfield 52, 3) := by decide +kernel
theorem dX3_rebuild_75 : decode cX3_rebuild 75 = .ok (.aload_n 0, 1) := by decide +kernel
theorem dX3_rebuild_76 : decode cX3_rebuild 76 = .ok (.dup, 1) := by decide +kernel
theorem dX3_rebuild_77 : decode cX3_rebuild 77 = .ok (.getfield 55, 3) := by decide +kernel
theorem dX3_rebuild_80 : decode cX3_rebuild 80 = .ok (.aload_n 3, 1) := by decide +kernel
theorem dX3_rebuild_81 : decode cX3_rebuild 81 = .ok (.getfield 66, 3) := by decide +kernel
theorem dX3_rebuild_84 : decode cX3_rebuild 84 = .ok (.iadd, 1) := by decide +kernel
theorem dX3_rebuild_85 : decode cX3_rebuild 85 = .ok (.putfield 55, 3) := by decide +kernel
theorem dX3_rebuild_88 : decode cX3_rebuild 88 = .ok (.aload_n 0, 1) := by decide +kernel
theorem dX3_rebuild_89 : decode cX3_rebuild 89 = .ok (.getfield 27, 3) := by decide +kernel
theorem dX3_rebuild_92 : decode cX3_rebuild 92 = .ok (.getfield 102, 3) := by decide +kernel
theorem dX3_rebuild_95 : decode cX3_rebuild 95 = .ok (.ireturn, 1) := by decide +kernel
theorem dX3_writeEntry_0 : decode cX3_writeEntry 0 = .ok (.aload_n 0, 1) := by decide +kernel
theorem dX3_writeEntry_1 : decode cX3_writeEntry 1 = .ok (.iload_n 1, 1) := by decide +kernel
theorem dX3_writeEntry_2 : decode cX3_writeEntry 2 = .ok (.invokevirtual 105, 3) := by decide +kernel
theorem dX3_writeEntry_5 : decode cX3_writeEntry 5 = .ok (.iconst (-1), 1) := by decide +kernel
theorem dX3_writeEntry_6 : decode cX3_writeEntry 6 = .ok (.if_icmp .eq 5, 3) := by decide +kernel
theorem dX3_writeEntry_9 : decode cX3_writeEntry 9 = .ok (.iconst (-1), 1) := by decide +kernel
theorem dX3_writeEntry_10 : decode cX3_writeEntry 10 = .ok (.ireturn, 1) := by decide +kernel
theorem dX3_writeEntry_11 : decode cX3_writeEntry 11 = .ok (.aload_n 0, 1) := by decide +kernel
theorem dX3_writeEntry_12 : decode cX3_writeEntry 12 = .ok (.getfield 27, 3) := by decide +kernel
theorem dX3_writeEntry_15 : decode cX3_writeEntry 15 = .ok (.getfield 100, 3) := by decide +kernel
theorem dX3_writeEntry_18 : decode cX3_writeEntry 18 = .ok (.ifCond .ne 25, 3) := by decide +kernel
theorem dX3_writeEntry_21 : decode cX3_writeEntry 21 = .ok (.aload_n 0, 1) := by decide +kernel
theorem dX3_writeEntry_22 : decode cX3_writeEntry 22 = .ok (.getfield 27, 3) := by decide +kernel
theorem dX3_writeEntry_25 : decode cX3_writeEntry 25 = .ok (.aload_n 0, 1) := by decide +kernel
theorem dX3_writeEntry_26 : decode cX3_writeEntry 26 = .ok (.getfield 31, 3) := by decide +kernel
theorem dX3_writeEntry_29 : decode cX3_writeEntry 29 = .ok (.putfield 100, 3) := by decide +kernel
theorem dX3_writeEntry_32 : decode cX3_writeEntry 32 = .ok (.aload_n 0, 1) := by decide +kernel
theorem dX3_writeEntry_33 : decode cX3_writeEntry 33 = .ok (.getfield 27, 3) := by decide +kernel
theorem dX3_writeEntry_36 : decode cX3_writeEntry 36 = .ok (.aload_n 0, 1) := by decide +kernel
theorem dX3_writeEntry_37 : decode cX3_writeEntry 37 = .ok (.getfield 35, 3) := by decide +kernel
theorem dX3_writeEntry_40 : decode cX3_writeEntry 40 = .ok (.putfield 101, 3) := by decide +kernel
theorem dX3_writeEntry_43 : decode cX3_writeEntry 43 = .ok (.aload_n 0, 1) := by decide +kernel
theorem dX3_writeEntry_44 : decode cX3_writeEntry 44 = .ok (.getfield 27, 3) := by decide +kernel
theorem dX3_writeEntry_47 : decode cX3_writeEntry 47 = .ok (.iload_n 1, 1) := by decide +kernel
theorem dX3_writeEntry_48 : decode cX3_writeEntry 48 = .ok (.iload_n 2, 1) := by decide +kernel
theorem dX3_writeEntry_49 : decode cX3_writeEntry 49 = .ok (.invokevirtual 108, 3) := by decide +kernel
theorem dX3_writeEntry_52 : decode cX3_writeEntry 52 = .ok (.ireturn, 1) := by decide +kernel
theorem dX3_eraseEntry_0 : decode cX3_eraseEntry 0 = .ok (.aload_n 0, 1) := by decide +kernel
theorem dX3_eraseEntry_1 : decode cX3_eraseEntry 1 = .ok (.iload_n 1, 1) := by decide +kernel
theorem dX3_eraseEntry_2 : decode cX3_eraseEntry 2 = .ok (.invokevirtual 105, 3) := by decide +kernel
theorem dX3_eraseEntry_5 : decode cX3_eraseEntry 5 = .ok (.iconst (-1), 1) := by decide +kernel
theorem dX3_eraseEntry_6 : decode cX3_eraseEntry 6 = .ok (.if_icmp .eq 7, 3) := by decide +kernel
theorem dX3_eraseEntry_9 : decode cX3_eraseEntry 9 = .ok (.iconst (-1), 1) := by decide +kernel
theorem dX3_eraseEntry_10 : decode cX3_eraseEntry 10 = .ok (.goto 11, 3) := by decide +kernel
theorem dX3_eraseEntry_13 : decode cX3_eraseEntry 13 = .ok (.aload_n 0, 1) := by decide +kernel
theorem dX3_eraseEntry_14 : decode cX3_eraseEntry 14 = .ok (.getfield 27, 3) := by decide +kernel
theorem dX3_eraseEntry_17 : decode cX3_eraseEntry 17 = .ok (.iload_n 1, 1) := by decide +kernel
theorem dX3_eraseEntry_18 : decode cX3_eraseEntry 18 = .ok (.invokevirtual 112, 3) := by decide +kernel
theorem dX3_eraseEntry_21 : decode cX3_eraseEntry 21 = .ok (.ireturn, 1) := by decide +kernel
theorem dX3_runTelling_0 : decode cX3_runTelling 0 = .ok (.iconst 0, 1) := by decide +kernel
theorem dX3_runTelling_1 : decode cX3_runTelling 1 = .ok (.istore_n 2, 1) := by decide +kernel
theorem dX3_runTelling_2 : decode cX3_runTelling 2 = .ok (.iload_n 2, 1) := by decide +kernel
theorem dX3_runTelling_3 : decode cX3_runTelling 3 = .ok (.aload_n 0, 1) := by decide +kernel
theorem dX3_runTelling_4 : decode cX3_runTelling 4 = .ok (.getfield 42, 3) := by decide +kernel
theorem dX3_runTelling_7 : decode cX3_runTelling 7 = .ok (.if_icmp .gt 30, 3) := by decide +kernel
theorem dX3_runTelling_10 : decode cX3_runTelling 10 = .ok (.aload_n 0, 1) := by decide +kernel
theorem dX3_runTelling_11 : decode cX3_runTelling 11 = .ok (.iload_n 2, 1) := by decide +kernel
theorem dX3_runTelling_12 : decode cX3_runTelling 12 = .ok (.invokevirtual 115, 3) := by decide +kernel
theorem dX3_runTelling_15 : decode cX3_runTelling 15 = .ok (.astore_n 3, 1) := by decide +kernel
theorem dX3_runTelling_16 : decode cX3_runTelling 16 = .ok (.aload_n 3, 1) := by decide +kernel
theorem dX3_runTelling_17 : decode cX3_runTelling 17 = .ok (.ifnull 14, 3) := by decide +kernel
theorem dX3_runTelling_20 : decode cX3_runTelling 20 = .ok (.aload_n 3, 1) := by decide +kernel
theorem dX3_runTelling_21 : decode cX3_runTelling 21 = .ok (.iload_n 1, 1) := by decide +kernel
theorem dX3_runTelling_22 : decode cX3_runTelling 22 = .ok (.invokevirtual 58, 3) := by decide +kernel
theorem dX3_runTelling_25 : decode cX3_runTelling 25 = .ok (.iconst (-1), 1) := by decide +kernel
theorem dX3_runTelling_26 : decode cX3_runTelling 26 = .ok (.if_icmp .eq 5, 3) := by decide +kernel
theorem dX3_runTelling_29 : decode cX3_runTelling 29 = .ok (.iload_n 2, 1) := by decide +kernel
theorem dX3_runTelling_30 : decode cX3_runTelling 30 = .ok (.ireturn, 1) := by decide +kernel
theorem dX3_runTelling_31 : decode cX3_runTelling 31 = .ok (.iinc 2 1, 3) := by decide +kernel
theorem dX3_runTelling_34 : decode cX3_runTelling 34 = .ok (.goto (-32), 3) := by decide +kernel
theorem dX3_runTelling_37 : decode cX3_runTelling 37 = .ok (.iconst (-1), 1) := by decide +kernel
theorem dX3_runTelling_38 : decode cX3_runTelling 38 = .ok (.ireturn, 1) := by decide +kernel
theorem dX3_standingValue_0 : decode cX3_standingValue 0 = .ok (.aload_n 0, 1) := by decide +kernel
theorem dX3_standingValue_1 : decode cX3_standingValue 1 = .ok (.aload_n 0, 1) := by decide +kernel
theorem dX3_standingValue_2 : decode cX3_standingValue 2 = .ok (.iload_n 1, 1) := by decide +kernel
theorem dX3_standingValue_3 : decode cX3_standingValue 3 = .ok (.invokevirtual 105, 3) := by decide +kernel
theorem dX3_standingValue_6 : decode cX3_standingValue 6 = .ok (.invokevirtual 115, 3) := by decide +kernel
theorem dX3_standingValue_9 : decode cX3_standingValue 9 = .ok (.astore_n 2, 1) := by decide +kernel
theorem dX3_standingValue_10 : decode cX3_standingValue 10 = .ok (.aload_n 2, 1) := by decide +kernel
theorem dX3_standingValue_11 : decode cX3_standingValue 11 = .ok (.ifnonnull 13, 3) := by decide +kernel
theorem dX3_standingValue_14 : decode cX3_standingValue 14 = .ok (.aload_n 0, 1) := by decide +kernel
theorem dX3_standingValue_15 : decode cX3_standingValue 15 = .ok (.getfield 27, 3) := by decide +kernel
theorem dX3_standingValue_18 : decode cX3_standingValue 18 = .ok (.getfield 118, 3) := by decide +kernel
theorem dX3_standingValue_21 : decode cX3_standingValue 21 = .ok (.goto 4, 3) := by decide +kernel
theorem dX3_standingValue_24 : decode cX3_standingValue 24 = .ok (.aload_n 2, 1) := by decide +kernel
theorem dX3_standingValue_25 : decode cX3_standingValue 25 = .ok (.astore_n 3, 1) := by decide +kernel
theorem dX3_standingValue_26 : decode cX3_standingValue 26 = .ok (.aload_n 3, 1) := by decide +kernel
theorem dX3_standingValue_27 : decode cX3_standingValue 27 = .ok (.aload_n 3, 1) := by decide +kernel
theorem dX3_standingValue_28 : decode cX3_standingValue 28 = .ok (.iload_n 1, 1) := by decide +kernel
theorem dX3_standingValue_29 : decode cX3_standingValue 29 = .ok (.invokevirtual 58, 3) := by decide +kernel
theorem dX3_standingValue_32 : decode cX3_standingValue 32 = .ok (.invokevirtual 121, 3) := by decide +kernel
theorem dX3_standingValue_35 : decode cX3_standingValue 35 = .ok (.ireturn, 1) := by decide +kernel
theorem dX3_standsByGoing_0 : decode cX3_standsByGoing 0 = .ok (.aload_n 0, 1) := by decide +kernel
theorem dX3_standsByGoing_1 : decode cX3_standsByGoing 1 = .ok (.getfield 27, 3) := by decide +kernel
theorem dX3_standsByGoing_4 : decode cX3_standsByGoing 4 = .ok (.getfield 118, 3) := by decide +kernel
theorem dX3_standsByGoing_7 : decode cX3_standsByGoing 7 = .ok (.iload_n 1, 1) := by decide +kernel
theorem dX3_standsByGoing_8 : decode cX3_standsByGoing 8 = .ok (.iconst 0, 1) := by decide +kernel
theorem dX3_standsByGoing_9 : decode cX3_standsByGoing 9 = .ok (.invokevirtual 124, 3) := by decide +kernel
theorem dX3_standsByGoing_12 : decode cX3_standsByGoing 12 = .ok (.istore_n 2, 1) := by decide +kernel
theorem dX3_standsByGoing_13 : decode cX3_standsByGoing 13 = .ok (.aload_n 0, 1) := by decide +kernel
theorem dX3_standsByGoing_14 : decode cX3_standsByGoing 14 = .ok (.getfield 42, 3) := by decide +kernel
theorem dX3_standsByGoing_17 : decode cX3_standsByGoing 17 = .ok (.istore_n 3, 1) := by decide +kernel
theorem dX3_standsByGoing_18 : decode cX3_standsByGoing 18 = .ok (.iload_n 3, 1) := by decide +kernel
theorem dX3_standsByGoing_19 : decode cX3_standsByGoing 19 = .ok (.ifCond .lt 29, 3) := by decide +kernel
theorem dX3_standsByGoing_22 : decode cX3_standsByGoing 22 = .ok (.aload_n 0, 1) := by decide +kernel
theorem dX3_standsByGoing_23 : decode cX3_standsByGoing 23 = .ok (.iload_n 3, 1) := by decide +kernel
theorem dX3_standsByGoing_24 : decode cX3_standsByGoing 24 = .ok (.invokevirtual 115, 3) := by decide +kernel
theorem dX3_standsByGoing_27 : decode cX3_standsByGoing 27 = .ok (.astore 4, 2) := by decide +kernel
theorem dX3_standsByGoing_29 : decode cX3_standsByGoing 29 = .ok (.aload 4, 2) := by decide +kernel
theorem dX3_standsByGoing_31 : decode cX3_standsByGoing 31 = .ok (.ifnull 11, 3) := by decide +kernel
theorem dX3_standsByGoing_34 : decode cX3_standsByGoing 34 = .ok (.aload 4, 2) := by decide +kernel
theorem dX3_standsByGoing_36 : decode cX3_standsByGoing 36 = .ok (.iload_n 1, 1) := by decide +kernel
theorem dX3_standsByGoing_37 : decode cX3_standsByGoing 37 = .ok (.iload_n 2, 1) := by decide +kernel
theorem dX3_standsByGoing_38 : decode cX3_standsByGoing 38 = .ok (.invokevirtual 124, 3) := by decide +kernel
theorem dX3_standsByGoing_41 : decode cX3_standsByGoing 41 = .ok (.istore_n 2, 1) := by decide +kernel
theorem dX3_standsByGoing_42 : decode cX3_standsByGoing 42 = .ok (.iinc 3 (-1), 3) := by decide +kernel
theorem dX3_standsByGoing_45 : decode cX3_standsByGoing 45 = .ok (.goto (-27), 3) := by decide +kernel
theorem dX3_standsByGoing_48 : decode cX3_standsByGoing 48 = .ok (.iload_n 2, 1) := by decide +kernel
theorem dX3_standsByGoing_49 : decode cX3_standsByGoing 49 = .ok (.ireturn, 1) := by decide +kernel
theorem dX3_pagesRead_0 : decode cX3_pagesRead 0 = .ok (.iconst 0, 1) := by decide +kernel
theorem dX3_pagesRead_1 : decode cX3_pagesRead 1 = .ok (.istore_n 2, 1) := by decide +kernel
theorem dX3_pagesRead_2 : decode cX3_pagesRead 2 = .ok (.iconst 0, 1) := by decide +kernel
theorem dX3_pagesRead_3 : decode cX3_pagesRead 3 = .ok (.istore_n 3, 1) := by decide +kernel
theorem dX3_pagesRead_4 : decode cX3_pagesRead 4 = .ok (.iload_n 3, 1) := by decide +kernel
theorem dX3_pagesRead_5 : decode cX3_pagesRead 5 = .ok (.aload_n 0, 1) := by decide +kernel
theorem dX3_pagesRead_6 : decode cX3_pagesRead 6 = .ok (.getfield 42, 3) := by decide +kernel
theorem dX3_pagesRead_9 : decode cX3_pagesRead 9 = .ok (.if_icmp .gt 47, 3) := by decide +kernel
theorem dX3_pagesRead_12 : decode cX3_pagesRead 12 = .ok (.aload_n 0, 1) := by decide +kernel
theorem dX3_pagesRead_13 : decode cX3_pagesRead 13 = .ok (.iload_n 3, 1) := by decide +kernel
theorem dX3_pagesRead_14 : decode cX3_pagesRead 14 = .ok (.invokevirtual 115, 3) := by decide +kernel
theorem dX3_pagesRead_17 : decode cX3_pagesRead 17 = .ok (.astore 4, 2) := by decide +kernel
theorem dX3_pagesRead_19 : decode cX3_pagesRead 19 = .ok (.aload 4, 2) := by decide +kernel
theorem dX3_pagesRead_21 : decode cX3_pagesRead 21 = .ok (.ifnull 29, 3) := by decide +kernel
theorem dX3_pagesRead_24 : decode cX3_pagesRead 24 = .ok (.aload 4, 2) := by decide +kernel
theorem dX3_pagesRead_26 : decode cX3_pagesRead 26 = .ok (.getfield 66, 3) := by decide +kernel
theorem dX3_pagesRead_29 : decode cX3_pagesRead 29 = .ok (.ifCond .ne 6, 3) := by decide +kernel
theorem dX3_pagesRead_32 : decode cX3_pagesRead 32 = .ok (.goto 18, 3) := by decide +kernel
theorem dX3_pagesRead_35 : decode cX3_pagesRead 35 = .ok (.iinc 2 1, 3) := by decide +kernel
theorem dX3_pagesRead_38 : decode cX3_pagesRead 38 = .ok (.aload 4, 2) := by decide +kernel
theorem dX3_pagesRead_40 : decode cX3_pagesRead 40 = .ok (.iload_n 1, 1) := by decide +kernel
theorem dX3_pagesRead_41 : decode cX3_pagesRead 41 = .ok (.invokevirtual 58, 3) := by decide +kernel
theorem dX3_pagesRead_44 : decode cX3_pagesRead 44 = .ok (.iconst (-1), 1) := by decide +kernel
theorem dX3_pagesRead_45 : decode cX3_pagesRead 45 = .ok (.if_icmp .eq 5, 3) := by decide +kernel
theorem dX3_pagesRead_48 : decode cX3_pagesRead 48 = .ok (.iload_n 2, 1) := by decide +kernel
theorem dX3_pagesRead_49 : decode cX3_pagesRead 49 = .ok (.ireturn, 1) := by decide +kernel
theorem dX3_pagesRead_50 : decode cX3_pagesRead 50 = .ok (.iinc 3 1, 3) := by decide +kernel
theorem dX3_pagesRead_53 : decode cX3_pagesRead 53 = .ok (.goto (-49), 3) := by decide +kernel
theorem dX3_pagesRead_56 : decode cX3_pagesRead 56 = .ok (.iload_n 2, 1) := by decide +kernel
theorem dX3_pagesRead_57 : decode cX3_pagesRead 57 = .ok (.aload_n 0, 1) := by decide +kernel
theorem dX3_pagesRead_58 : decode cX3_pagesRead 58 = .ok (.getfield 27, 3) := by decide +kernel
theorem dX3_pagesRead_61 : decode cX3_pagesRead 61 = .ok (.iload_n 1, 1) := by decide +kernel
theorem dX3_pagesRead_62 : decode cX3_pagesRead 62 = .ok (.invokevirtual 128, 3) := by decide +kernel
theorem dX3_pagesRead_65 : decode cX3_pagesRead 65 = .ok (.iadd, 1) := by decide +kernel
theorem dX3_pagesRead_66 : decode cX3_pagesRead 66 = .ok (.ireturn, 1) := by decide +kernel
theorem dX3_countStanding_0 : decode cX3_countStanding 0 = .ok (.iconst 0, 1) := by decide +kernel
theorem dX3_countStanding_1 : decode cX3_countStanding 1 = .ok (.istore_n 3, 1) := by decide +kernel
theorem dX3_countStanding_2 : decode cX3_countStanding 2 = .ok (.iconst 0, 1) := by decide +kernel
theorem dX3_countStanding_3 : decode cX3_countStanding 3 = .ok (.istore 4, 2) := by decide +kernel
theorem dX3_countStanding_5 : decode cX3_countStanding 5 = .ok (.iload 4, 2) := by decide +kernel
theorem dX3_countStanding_7 : decode cX3_countStanding 7 = .ok (.aload_n 0, 1) := by decide +kernel
theorem dX3_countStanding_8 : decode cX3_countStanding 8 = .ok (.getfield 42, 3) := by decide +kernel
theorem dX3_countStanding_11 : decode cX3_countStanding 11 = .ok (.if_icmp .gt 35, 3) := by decide +kernel
theorem dX3_countStanding_14 : decode cX3_countStanding 14 = .ok (.aload_n 0, 1) := by decide +kernel
theorem dX3_countStanding_15 : decode cX3_countStanding 15 = .ok (.iload 4, 2) := by decide +kernel
theorem dX3_countStanding_17 : decode cX3_countStanding 17 = .ok (.invokevirtual 115, 3) := by decide +kernel
theorem dX3_countStanding_20 : decode cX3_countStanding 20 = .ok (.astore 5, 2) := by decide +kernel
theorem dX3_countStanding_22 : decode cX3_countStanding 22 = .ok (.aload 5, 2) := by decide +kernel
theorem dX3_countStanding_24 : decode cX3_countStanding 24 = .ok (.ifnull 16, 3) := by decide +kernel
theorem dX3_countStanding_27 : decode cX3_countStanding 27 = .ok (.iload_n 3, 1) := by decide +kernel
theorem dX3_countStanding_28 : decode cX3_countStanding 28 = .ok (.aload_n 0, 1) := by decide +kernel
theorem dX3_countStanding_29 : decode cX3_countStanding 29 = .ok (.aload 5, 2) := by decide +kernel
theorem dX3_countStanding_31 : decode cX3_countStanding 31 = .ok (.iload 4, 2) := by decide +kernel
theorem dX3_countStanding_33 : decode cX3_countStanding 33 = .ok (.iload_n 1, 1) := by decide +kernel
theorem dX3_countStanding_34 : decode cX3_countStanding 34 = .ok (.iload_n 2, 1) := by decide +kernel
theorem dX3_countStanding_35 : decode cX3_countStanding 35 = .ok (.invokevirtual 131, 3) := by decide +kernel
theorem dX3_countStanding_38 : decode cX3_countStanding 38 = .ok (.iadd, 1) := by decide +kernel
theorem dX3_countStanding_39 : decode cX3_countStanding 39 = .ok (.istore_n 3, 1) := by decide +kernel
theorem dX3_countStanding_40 : decode cX3_countStanding 40 = .ok (.iinc 4 1, 3) := by decide +kernel
theorem dX3_countStanding_43 : decode cX3_countStanding 43 = .ok (.goto (-38), 3) := by decide +kernel
theorem dX3_countStanding_46 : decode cX3_countStanding 46 = .ok (.iconst 0, 1) := by decide +kernel
theorem dX3_countStanding_47 : decode cX3_countStanding 47 = .ok (.istore 4, 2) := by decide +kernel
theorem dX3_countStanding_49 : decode cX3_countStanding 49 = .ok (.iload 4, 2) := by decide +kernel
theorem dX3_countStanding_51 : decode cX3_countStanding 51 = .ok (.aload_n 0, 1) := by decide +kernel
theorem dX3_countStanding_52 : decode cX3_countStanding 52 = .ok (.getfield 27, 3) := by decide +kernel
theorem dX3_countStanding_55 : decode cX3_countStanding 55 = .ok (.getfield 102, 3) := by decide +kernel
theorem dX3_countStanding_58 : decode cX3_countStanding 58 = .ok (.if_icmp .ge 85, 3) := by decide +kernel
theorem dX3_countStanding_61 : decode cX3_countStanding 61 = .ok (.aload_n 0, 1) := by decide +kernel
theorem dX3_countStanding_62 : decode cX3_countStanding 62 = .ok (.getfield 27, 3) := by decide +kernel
theorem dX3_countStanding_65 : decode cX3_countStanding 65 = .ok (.iload 4, 2) := by decide +kernel
theorem dX3_countStanding_67 : decode cX3_countStanding 67 = .ok (.iconst 1, 1) := by decide +kernel
theorem dX3_countStanding_68 : decode cX3_countStanding 68 = .ok (.iadd, 1) := by decide +kernel
theorem dX3_countStanding_69 : decode cX3_countStanding 69 = .ok (.invokevirtual 135, 3) := by decide +kernel
theorem dX3_countStanding_72 : decode cX3_countStanding 72 = .ok (.istore 5, 2) := by decide +kernel
theorem dX3_countStanding_74 : decode cX3_countStanding 74 = .ok (.aload_n 0, 1) := by decide +kernel
theorem dX3_countStanding_75 : decode cX3_countStanding 75 = .ok (.getfield 27, 3) := by decide +kernel
theorem dX3_countStanding_78 : decode cX3_countStanding 78 = .ok (.iload 4, 2) := by decide +kernel
theorem dX3_countStanding_80 : decode cX3_countStanding 80 = .ok (.invokevirtual 135, 3) := by decide +kernel
theorem dX3_countStanding_83 : decode cX3_countStanding 83 = .ok (.istore 6, 2) := by decide +kernel
theorem dX3_countStanding_85 : decode cX3_countStanding 85 = .ok (.iload 6, 2) := by decide +kernel
theorem dX3_countStanding_87 : decode cX3_countStanding 87 = .ok (.iload 5, 2) := by decide +kernel
theorem dX3_countStanding_89 : decode cX3_countStanding 89 = .ok (.if_icmp .ge 48, 3) := by decide +kernel
theorem dX3_countStanding_92 : decode cX3_countStanding 92 = .ok (.aload_n 0, 1) := by decide +kernel
theorem dX3_countStanding_93 : decode cX3_countStanding 93 = .ok (.getfield 27, 3) := by decide +kernel
theorem dX3_countStanding_96 : decode cX3_countStanding 96 = .ok (.getfield 118, 3) := by decide +kernel
theorem dX3_countStanding_99 : decode cX3_countStanding 99 = .ok (.iload 6, 2) := by decide +kernel
theorem dX3_countStanding_101 : decode cX3_countStanding 101 = .ok (.invokevirtual 138, 3) := by decide +kernel
theorem dX3_countStanding_104 : decode cX3_countStanding 104 = .ok (.istore 7, 2) := by decide +kernel
theorem dX3_countStanding_106 : decode cX3_countStanding 106 = .ok (.iload 7, 2) := by decide +kernel
theorem dX3_countStanding_108 : decode cX3_countStanding 108 = .ok (.iload_n 1, 1) := by decide +kernel
theorem dX3_countStanding_109 : decode cX3_countStanding 109 = .ok (.if_icmp .lt 22, 3) := by decide +kernel
theorem dX3_countStanding_112 : decode cX3_countStanding 112 = .ok (.iload 7, 2) := by decide +kernel
theorem dX3_countStanding_114 : decode cX3_countStanding 114 = .ok (.iload_n 2, 1) := by decide +kernel
theorem dX3_countStanding_115 : decode cX3_countStanding 115 = .ok (.if_icmp .gt 16, 3) := by decide +kernel
theorem dX3_countStanding_118 : decode cX3_countStanding 118 = .ok (.aload_n 0, 1) := by decide +kernel
theorem dX3_countStanding_119 : decode cX3_countStanding 119 = .ok (.iload 7, 2) := by decide +kernel
theorem dX3_countStanding_121 : decode cX3_countStanding 121 = .ok (.invokevirtual 105, 3) := by decide +kernel
theorem dX3_countStanding_124 : decode cX3_countStanding 124 = .ok (.iconst (-1), 1) := by decide +kernel
theorem dX3_countStanding_125 : decode cX3_countStanding 125 = .ok (.if_icmp .ne 6, 3) := by decide +kernel
theorem dX3_countStanding_128 : decode cX3_countStanding 128 = .ok (.iinc 3 1, 3) := by decide +kernel
theorem dX3_countStanding_131 : decode cX3_countStanding 131 = .ok (.iinc 6 1, 3) := by decide +kernel
theorem dX3_countStanding_134 : decode cX3_countStanding 134 = .ok (.goto (-49), 3) := by decide +kernel
theorem dX3_countStanding_137 : decode cX3_countStanding 137 = .ok (.iinc 4 1, 3) := by decide +kernel
theorem dX3_countStanding_140 : decode cX3_countStanding 140 = .ok (.goto (-91), 3) := by decide +kernel
theorem dX3_countStanding_143 : decode cX3_countStanding 143 = .ok (.iload_n 3, 1) := by decide +kernel
theorem dX3_countStanding_144 : decode cX3_countStanding 144 = .ok (.ireturn, 1) := by decide +kernel
theorem dX3_countOwn_0 : decode cX3_countOwn 0 = .ok (.iconst 0, 1) := by decide +kernel
theorem dX3_countOwn_1 : decode cX3_countOwn 1 = .ok (.istore 5, 2) := by decide +kernel
theorem dX3_countOwn_3 : decode cX3_countOwn 3 = .ok (.iconst 0, 1) := by decide +kernel
theorem dX3_countOwn_4 : decode cX3_countOwn 4 = .ok (.istore 6, 2) := by decide +kernel
theorem dX3_countOwn_6 : decode cX3_countOwn 6 = .ok (.iload 6, 2) := by decide +kernel
theorem dX3_countOwn_8 : decode cX3_countOwn 8 = .ok (.aload_n 1, 1) := by decide +kernel
theorem dX3_countOwn_9 : decode cX3_countOwn 9 = .ok (.getfield 66, 3) := by decide +kernel
theorem dX3_countOwn_12 : decode cX3_countOwn 12 = .ok (.if_icmp .ge 53, 3) := by decide +kernel
theorem dX3_countOwn_15 : decode cX3_countOwn 15 = .ok (.aload_n 1, 1) := by decide +kernel
theorem dX3_countOwn_16 : decode cX3_countOwn 16 = .ok (.iload 6, 2) := by decide +kernel
theorem dX3_countOwn_18 : decode cX3_countOwn 18 = .ok (.invokevirtual 138, 3) := by decide +kernel
theorem dX3_countOwn_21 : decode cX3_countOwn 21 = .ok (.istore 7, 2) := by decide +kernel
theorem dX3_countOwn_23 : decode cX3_countOwn 23 = .ok (.iload 7, 2) := by decide +kernel
theorem dX3_countOwn_25 : decode cX3_countOwn 25 = .ok (.iload_n 3, 1) := by decide +kernel
theorem dX3_countOwn_26 : decode cX3_countOwn 26 = .ok (.if_icmp .lt 33, 3) := by decide +kernel
theorem dX3_countOwn_29 : decode cX3_countOwn 29 = .ok (.iload 7, 2) := by decide +kernel
theorem dX3_countOwn_31 : decode cX3_countOwn 31 = .ok (.iload 4, 2) := by decide +kernel
theorem dX3_countOwn_33 : decode cX3_countOwn 33 = .ok (.if_icmp .gt 26, 3) := by decide +kernel
theorem dX3_countOwn_36 : decode cX3_countOwn 36 = .ok (.aload_n 1, 1) := by decide +kernel
theorem dX3_countOwn_37 : decode cX3_countOwn 37 = .ok (.iload 6, 2) := by decide +kernel
theorem dX3_countOwn_39 : decode cX3_countOwn 39 = .ok (.invokevirtual 121, 3) := by decide +kernel
theorem dX3_countOwn_42 : decode cX3_countOwn 42 = .ok (.iconst (-1), 1) := by decide +kernel
theorem dX3_countOwn_43 : decode cX3_countOwn 43 = .ok (.if_icmp .eq 16, 3) := by decide +kernel
theorem dX3_countOwn_46 : decode cX3_countOwn 46 = .ok (.aload_n 0, 1) := by decide +kernel
theorem dX3_countOwn_47 : decode cX3_countOwn 47 = .ok (.iload 7, 2) := by decide +kernel
theorem dX3_countOwn_49 : decode cX3_countOwn 49 = .ok (.invokevirtual 105, 3) := by decide +kernel
theorem dX3_countOwn_52 : decode cX3_countOwn 52 = .ok (.iload_n 2, 1) := by decide +kernel
theorem dX3_countOwn_53 : decode cX3_countOwn 53 = .ok (.if_icmp .ne 6, 3) := by decide +kernel
theorem dX3_countOwn_56 : decode cX3_countOwn 56 = .ok (.iinc 5 1, 3) := by decide +kernel
theorem dX3_countOwn_59 : decode cX3_countOwn 59 = .ok (.iinc 6 1, 3) := by decide +kernel
theorem dX3_countOwn_62 : decode cX3_countOwn 62 = .ok (.goto (-56), 3) := by decide +kernel
theorem dX3_countOwn_65 : decode cX3_countOwn 65 = .ok (.iload 5, 2) := by decide +kernel
theorem dX3_countOwn_67 : decode cX3_countOwn 67 = .ok (.ireturn, 1) := by decide +kernel
theorem dX3_toldCount_0 : decode cX3_toldCount 0 = .ok (.iconst 0, 1) := by decide +kernel
theorem dX3_toldCount_1 : decode cX3_toldCount 1 = .ok (.istore_n 1, 1) := by decide +kernel
theorem dX3_toldCount_2 : decode cX3_toldCount 2 = .ok (.iconst 0, 1) := by decide +kernel
theorem dX3_toldCount_3 : decode cX3_toldCount 3 = .ok (.istore_n 2, 1) := by decide +kernel
theorem dX3_toldCount_4 : decode cX3_toldCount 4 = .ok (.iload_n 2, 1) := by decide +kernel
theorem dX3_toldCount_5 : decode cX3_toldCount 5 = .ok (.aload_n 0, 1) := by decide +kernel
theorem dX3_toldCount_6 : decode cX3_toldCount 6 = .ok (.getfield 42, 3) := by decide +kernel
theorem dX3_toldCount_9 : decode cX3_toldCount 9 = .ok (.if_icmp .gt 26, 3) := by decide +kernel
theorem dX3_toldCount_12 : decode cX3_toldCount 12 = .ok (.aload_n 0, 1) := by decide +kernel
theorem dX3_toldCount_13 : decode cX3_toldCount 13 = .ok (.iload_n 2, 1) := by decide +kernel
theorem dX3_toldCount_14 : decode cX3_toldCount 14 = .ok (.invokevirtual 115, 3) := by decide +kernel
theorem dX3_toldCount_17 : decode cX3_toldCount 17 = .ok (.astore_n 3, 1) := by decide +kernel
theorem dX3_toldCount_18 : decode cX3_toldCount 18 = .ok (.aload_n 3, 1) := by decide +kernel
theorem dX3_toldCount_19 : decode cX3_toldCount 19 = .ok (.ifnull 10, 3) := by decide +kernel
theorem dX3_toldCount_22 : decode cX3_toldCount 22 = .ok (.iload_n 1, 1) := by decide +kernel
theorem dX3_toldCount_23 : decode cX3_toldCount 23 = .ok (.aload_n 3, 1) := by decide +kernel
theorem dX3_toldCount_24 : decode cX3_toldCount 24 = .ok (.getfield 66, 3) := by decide +kernel
theorem dX3_toldCount_27 : decode cX3_toldCount 27 = .ok (.iadd, 1) := by decide +kernel
theorem dX3_toldCount_28 : decode cX3_toldCount 28 = .ok (.istore_n 1, 1) := by decide +kernel
theorem dX3_toldCount_29 : decode cX3_toldCount 29 = .ok (.iinc 2 1, 3) := by decide +kernel
theorem dX3_toldCount_32 : decode cX3_toldCount 32 = .ok (.goto (-28), 3) := by decide +kernel
theorem dX3_toldCount_35 : decode cX3_toldCount 35 = .ok (.iload_n 1, 1) := by decide +kernel
theorem dX3_toldCount_36 : decode cX3_toldCount 36 = .ok (.ireturn, 1) := by decide +kernel
theorem dX3_eachIfBuilt_0 : decode cX3_eachIfBuilt 0 = .ok (.iconst 1, 1) := by decide +kernel
theorem dX3_eachIfBuilt_1 : decode cX3_eachIfBuilt 1 = .ok (.aload_n 0, 1) := by decide +kernel
theorem dX3_eachIfBuilt_2 : decode cX3_eachIfBuilt 2 = .ok (.getfield 31, 3) := by decide +kernel
theorem dX3_eachIfBuilt_5 : decode cX3_eachIfBuilt 5 = .ok (.iload_n 1, 1) := by decide +kernel
theorem dX3_eachIfBuilt_6 : decode cX3_eachIfBuilt 6 = .ok (.imul, 1) := by decide +kernel
theorem dX3_eachIfBuilt_7 : decode cX3_eachIfBuilt 7 = .ok (.bipush 100, 2) := by decide +kernel
theorem dX3_eachIfBuilt_9 : decode cX3_eachIfBuilt 9 = .ok (.idiv, 1) := by decide +kernel
theorem dX3_eachIfBuilt_10 : decode cX3_eachIfBuilt 10 = .ok (.invokestatic 141, 3) := by decide +kernel
theorem dX3_eachIfBuilt_13 : decode cX3_eachIfBuilt 13 = .ok (.ireturn, 1) := by decide +kernel
theorem dX3_leavesOutOf_0 : decode cX3_leavesOutOf 0 = .ok (.iload_n 1, 1) := by decide +kernel
theorem dX3_leavesOutOf_1 : decode cX3_leavesOutOf 1 = .ok (.aload_n 0, 1) := by decide +kernel
theorem dX3_leavesOutOf_2 : decode cX3_leavesOutOf 2 = .ok (.iload_n 2, 1) := by decide +kernel
theorem dX3_leavesOutOf_3 : decode cX3_leavesOutOf 3 = .ok (.invokevirtual 93, 3) := by decide +kernel
theorem dX3_leavesOutOf_6 : decode cX3_leavesOutOf 6 = .ok (.invokestatic 146, 3) := by decide +kernel
theorem dX3_leavesOutOf_9 : decode cX3_leavesOutOf 9 = .ok (.ireturn, 1) := by decide +kernel
theorem dX3_levelsOutOf_0 : decode cX3_levelsOutOf 0 = .ok (.aload_n 0, 1) := by decide +kernel
theorem dX3_levelsOutOf_1 : decode cX3_levelsOutOf 1 = .ok (.iload_n 1, 1) := by decide +kernel
theorem dX3_levelsOutOf_2 : decode cX3_levelsOutOf 2 = .ok (.iload_n 2, 1) := by decide +kernel
theorem dX3_levelsOutOf_3 : decode cX3_levelsOutOf 3 = .ok (.invokevirtual 149, 3) := by decide +kernel
theorem dX3_levelsOutOf_6 : decode cX3_levelsOutOf 6 = .ok (.aload_n 0, 1) := by decide +kernel
theorem dX3_levelsOutOf_7 : decode cX3_levelsOutOf 7 = .ok (.getfield 35, 3) := by decide +kernel
theorem dX3_levelsOutOf_10 : decode cX3_levelsOutOf 10 = .ok (.invokestatic 152, 3) := by decide +kernel
theorem dX3_levelsOutOf_13 : decode cX3_levelsOutOf 13 = .ok (.ireturn, 1) := by decide +kernel
theorem dX4_init_0 : decode cX4_init 0 = .ok (.aload_n 0, 1) := by decide +kernel
theorem dX4_init_1 : decode cX4_init 1 = .ok (.invokespecial 3, 3) := by decide +kernel
theorem dX4_init_4 : decode cX4_init 4 = .ok (.aload_n 0, 1) := by decide +kernel
theorem dX4_init_5 : decode cX4_init 5 = .ok (.new 9, 3) := by decide +kernel
theorem dX4_init_8 : decode cX4_init 8 = .ok (.dup, 1) := by decide +kernel
theorem dX4_init_9 : decode cX4_init 9 = .ok (.sipush 160, 3) := by decide +kernel
theorem dX4_init_12 : decode cX4_init 12 = .ok (.invokespecial 11, 3) := by decide +kernel
theorem dX4_init_15 : decode cX4_init 15 = .ok (.putfield 14, 3) := by decide +kernel
theorem dX4_init_18 : decode cX4_init 18 = .ok (.aload_n 0, 1) := by decide +kernel
theorem dX4_init_19 : decode cX4_init 19 = .ok (.sipush 160, 3) := by decide +kernel
theorem dX4_init_22 : decode cX4_init 22 = .ok (.newarray .int, 2) := by decide +kernel
theorem dX4_init_24 : decode cX4_init 24 = .ok (.putfield 20, 3) := by decide +kernel
theorem dX4_init_27 : decode cX4_init 27 = .ok (.aload_n 0, 1) := by decide +kernel
theorem dX4_init_28 : decode cX4_init 28 = .ok (.sipush 512, 3) := by decide +kernel
theorem dX4_init_31 : decode cX4_init 31 = .ok (.newarray .int, 2) := by decide +kernel
theorem dX4_init_33 : decode cX4_init 33 = .ok (.putfield 24, 3) := by decide +kernel
theorem dX4_init_36 : decode cX4_init 36 = .ok (.return_, 1) := by decide +kernel
theorem dX4_copyFrom_0 : decode cX4_copyFrom 0 = .ok (.aload_n 0, 1) := by decide +kernel
theorem dX4_copyFrom_1 : decode cX4_copyFrom 1 = .ok (.getfield 14, 3) := by decide +kernel
theorem dX4_copyFrom_4 : decode cX4_copyFrom 4 = .ok (.aload_n 1, 1) := by decide +kernel
theorem dX4_copyFrom_5 : decode cX4_copyFrom 5 = .ok (.getfield 14, 3) := by decide +kernel
theorem dX4_copyFrom_8 : decode cX4_copyFrom 8 = .ok (.invokevirtual 27, 3) := by decide +kernel
theorem dX4_copyFrom_11 : decode cX4_copyFrom 11 = .ok (.aload_n 1, 1) := by decide +kernel
theorem dX4_copyFrom_12 : decode cX4_copyFrom 12 = .ok (.getfield 20, 3) := by decide +kernel
theorem dX4_copyFrom_15 : decode cX4_copyFrom 15 = .ok (.aload_n 0, 1) := by decide +kernel
theorem dX4_copyFrom_16 : decode cX4_copyFrom 16 = .ok (.getfield 20, 3) := by decide +kernel
theorem dX4_copyFrom_19 : decode cX4_copyFrom 19 = .ok (.aload_n 1, 1) := by decide +kernel
theorem dX4_copyFrom_20 : decode cX4_copyFrom 20 = .ok (.getfield 14, 3) := by decide +kernel
theorem dX4_copyFrom_23 : decode cX4_copyFrom 23 = .ok (.getfield 31, 3) := by decide +kernel
theorem dX4_copyFrom_26 : decode cX4_copyFrom 26 = .ok (.invokestatic 35, 3) := by decide +kernel
theorem dX4_copyFrom_29 : decode cX4_copyFrom 29 = .ok (.pop, 1) := by decide +kernel
theorem dX4_copyFrom_30 : decode cX4_copyFrom 30 = .ok (.aload_n 0, 1) := by decide +kernel
theorem dX4_copyFrom_31 : decode cX4_copyFrom 31 = .ok (.aload_n 1, 1) := by decide +kernel
theorem dX4_copyFrom_32 : decode cX4_copyFrom 32 = .ok (.getfield 24, 3) := by decide +kernel
theorem dX4_copyFrom_35 : decode cX4_copyFrom 35 = .ok (.aload_n 0, 1) := by decide +kernel
theorem dX4_copyFrom_36 : decode cX4_copyFrom 36 = .ok (.getfield 24, 3) := by decide +kernel
theorem dX4_copyFrom_39 : decode cX4_copyFrom 39 = .ok (.aload_n 1, 1) := by decide +kernel
theorem dX4_copyFrom_40 : decode cX4_copyFrom 40 = .ok (.getfield 39, 3) := by decide +kernel
theorem dX4_copyFrom_43 : decode cX4_copyFrom 43 = .ok (.invokestatic 35, 3) := by decide +kernel
theorem dX4_copyFrom_46 : decode cX4_copyFrom 46 = .ok (.putfield 39, 3) := by decide +kernel
theorem dX4_copyFrom_49 : decode cX4_copyFrom 49 = .ok (.aload_n 0, 1) := by decide +kernel
theorem dX4_copyFrom_50 : decode cX4_copyFrom 50 = .ok (.aload_n 1, 1) := by decide +kernel
theorem dX4_copyFrom_51 : decode cX4_copyFrom 51 = .ok (.getfield 42, 3) := by decide +kernel
theorem dX4_copyFrom_54 : decode cX4_copyFrom 54 = .ok (.putfield 42, 3) := by decide +kernel
theorem dX4_copyFrom_57 : decode cX4_copyFrom 57 = .ok (.aload_n 0, 1) := by decide +kernel
theorem dX4_copyFrom_58 : decode cX4_copyFrom 58 = .ok (.aload_n 1, 1) := by decide +kernel
theorem dX4_copyFrom_59 : decode cX4_copyFrom 59 = .ok (.getfield 45, 3) := by decide +kernel
theorem dX4_copyFrom_62 : decode cX4_copyFrom 62 = .ok (.putfield 45, 3) := by decide +kernel
theorem dX4_copyFrom_65 : decode cX4_copyFrom 65 = .ok (.return_, 1) := by decide +kernel
theorem dX4_buildOutOf_0 : decode cX4_buildOutOf 0 = .ok (.aload_n 0, 1) := by decide +kernel
theorem dX4_buildOutOf_1 : decode cX4_buildOutOf 1 = .ok (.getfield 14, 3) := by decide +kernel
theorem dX4_buildOutOf_4 : decode cX4_buildOutOf 4 = .ok (.aload_n 1, 1) := by decide +kernel
theorem dX4_buildOutOf_5 : decode cX4_buildOutOf 5 = .ok (.invokevirtual 27, 3) := by decide +kernel
theorem dX4_buildOutOf_8 : decode cX4_buildOutOf 8 = .ok (.aload_n 0, 1) := by decide +kernel
theorem dX4_buildOutOf_9 : decode cX4_buildOutOf 9 = .ok (.iconst 0, 1) := by decide +kernel
theorem dX4_buildOutOf_10 : decode cX4_buildOutOf 10 = .ok (.putfield 39, 3) := by decide +kernel
theorem dX4_buildOutOf_13 : decode cX4_buildOutOf 13 = .ok (.iconst 0, 1) := by decide +kernel
theorem dX4_buildOutOf_14 : decode cX4_buildOutOf 14 = .ok (.istore_n 3, 1) := by decide +kernel
theorem dX4_buildOutOf_15 : decode cX4_buildOutOf 15 = .ok (.iconst 0, 1) := by decide +kernel
theorem dX4_buildOutOf_16 : decode cX4_buildOutOf 16 = .ok (.istore 4, 2) := by decide +kernel
theorem dX4_buildOutOf_18 : decode cX4_buildOutOf 18 = .ok (.iload 4, 2) := by decide +kernel
theorem dX4_buildOutOf_20 : decode cX4_buildOutOf 20 = .ok (.aload_n 0, 1) := by decide +kernel
theorem dX4_buildOutOf_21 : decode cX4_buildOutOf 21 = .ok (.getfield 14, 3) := by decide +kernel
theorem dX4_buildOutOf_24 : decode cX4_buildOutOf 24 = .ok (.getfield 31, 3) := by decide +kernel
theorem dX4_buildOutOf_27 : decode cX4_buildOutOf 27 = .ok (.if_icmp .ge 49, 3) := by decide +kernel
theorem dX4_buildOutOf_30 : decode cX4_buildOutOf 30 = .ok (.iload 4, 2) := by decide +kernel
theorem dX4_buildOutOf_32 : decode cX4_buildOutOf 32 = .ok (.aload_n 0, 1) := by decide +kernel
theorem dX4_buildOutOf_33 : decode cX4_buildOutOf 33 = .ok (.getfield 20, 3) := by decide +kernel
theorem dX4_buildOutOf_36 : decode cX4_buildOutOf 36 = .ok (.arraylength, 1) := by decide +kernel
theorem dX4_buildOutOf_37 : decode cX4_buildOutOf 37 = .ok (.if_icmp .ge 39, 3) := by decide +kernel
theorem dX4_buildOutOf_40 : decode cX4_buildOutOf 40 = .ok (.aload_n 0, 1) := by decide +kernel
theorem dX4_buildOutOf_41 : decode cX4_buildOutOf 41 = .ok (.getfield 20, 3) := by decide +kernel
theorem dX4_buildOutOf_44 : decode cX4_buildOutOf 44 = .ok (.iload 4, 2) := by decide +kernel
theorem dX4_buildOutOf_46 : decode cX4_buildOutOf 46 = .ok (.iconst 0, 1) := by decide +kernel
theorem dX4_buildOutOf_47 : decode cX4_buildOutOf 47 = .ok (.iastore, 1) := by decide +kernel
theorem dX4_buildOutOf_48 : decode cX4_buildOutOf 48 = .ok (.iload_n 3, 1) := by decide +kernel
theorem dX4_buildOutOf_49 : decode cX4_buildOutOf 49 = .ok (.ifCond .ne 18, 3) := by decide +kernel
theorem dX4_buildOutOf_52 : decode cX4_buildOutOf 52 = .ok (.aload_n 0, 1) := by decide +kernel
theorem dX4_buildOutOf_53 : decode cX4_buildOutOf 53 = .ok (.aload_n 0, 1) := by decide +kernel
theorem dX4_buildOutOf_54 : decode cX4_buildOutOf 54 = .ok (.getfield 14, 3) := by decide +kernel
theorem dX4_buildOutOf_57 : decode cX4_buildOutOf 57 = .ok (.iload 4, 2) := by decide +kernel
theorem dX4_buildOutOf_59 : decode cX4_buildOutOf 59 = .ok (.invokevirtual 48, 3) := by decide +kernel
theorem dX4_buildOutOf_62 : decode cX4_buildOutOf 62 = .ok (.invokevirtual 52, 3) := by decide +kernel
theorem dX4_buildOutOf_65 : decode cX4_buildOutOf 65 = .ok (.iload_n 2, 1) := by decide +kernel
theorem dX4_buildOutOf_66 : decode cX4_buildOutOf 66 = .ok (.istore_n 3, 1) := by decide +kernel
theorem dX4_buildOutOf_67 : decode cX4_buildOutOf 67 = .ok (.iinc 3 (-1), 3) := by decide +kernel
theorem dX4_buildOutOf_70 : decode cX4_buildOutOf 70 = .ok (.iinc 4 1, 3) := by decide +kernel
theorem dX4_buildOutOf_73 : decode cX4_buildOutOf 73 = .ok (.goto (-55), 3) := by decide +kernel
theorem dX4_buildOutOf_76 : decode cX4_buildOutOf 76 = .ok (.return_, 1) := by decide +kernel
theorem dX4_addLeaf_0 : decode cX4_addLeaf 0 = .ok (.aload_n 0, 1) := by decide +kernel
theorem dX4_addLeaf_1 : decode cX4_addLeaf 1 = .ok (.getfield 39, 3) := by decide +kernel
theorem dX4_addLeaf_4 : decode cX4_addLeaf 4 = .ok (.ifCond .lt 46, 3) := by decide +kernel
theorem dX4_addLeaf_7 : decode cX4_addLeaf 7 = .ok (.aload_n 0, 1) := by decide +kernel
theorem dX4_addLeaf_8 : decode cX4_addLeaf 8 = .ok (.getfield 39, 3) := by decide +kernel
theorem dX4_addLeaf_11 : decode cX4_addLeaf 11 = .ok (.aload_n 0, 1) := by decide +kernel
theorem dX4_addLeaf_12 : decode cX4_addLeaf 12 = .ok (.getfield 24, 3) := by decide +kernel
theorem dX4_addLeaf_15 : decode cX4_addLeaf 15 = .ok (.arraylength, 1) := by decide +kernel
theorem dX4_addLeaf_16 : decode cX4_addLeaf 16 = .ok (.if_icmp .ge 34, 3) := by decide +kernel
theorem dX4_addLeaf_19 : decode cX4_addLeaf 19 = .ok (.aload_n 0, 1) := by decide +kernel
theorem dX4_addLeaf_20 : decode cX4_addLeaf 20 = .ok (.getfield 24, 3) := by decide +kernel
theorem dX4_addLeaf_23 : decode cX4_addLeaf 23 = .ok (.aload_n 0, 1) := by decide +kernel
theorem dX4_addLeaf_24 : decode cX4_addLeaf 24 = .ok (.getfield 39, 3) := by decide +kernel
theorem dX4_addLeaf_27 : decode cX4_addLeaf 27 = .ok (.aload_n 0, 1) := by decide +kernel
theorem dX4_addLeaf_28 : decode cX4_addLeaf 28 = .ok (.getfield 39, 3) := by decide +kernel
theorem dX4_addLeaf_31 : decode cX4_addLeaf 31 = .ok (.ifCond .ne 7, 3) := by decide +kernel
theorem dX4_addLeaf_34 : decode cX4_addLeaf 34 = .ok (.iconst 0, 1) := by decide +kernel
theorem dX4_addLeaf_35 : decode cX4_addLeaf 35 = .ok (.goto 4, 3) := by decide +kernel
theorem dX4_addLeaf_38 : decode cX4_addLeaf 38 = .ok (.iload_n 1, 1) := by decide +kernel
theorem dX4_addLeaf_39 : decode cX4_addLeaf 39 = .ok (.iastore, 1) := by decide +kernel
theorem dX4_addLeaf_40 : decode cX4_addLeaf 40 = .ok (.aload_n 0, 1) := by decide +kernel
theorem dX4_addLeaf_41 : decode cX4_addLeaf 41 = .ok (.dup, 1) := by decide +kernel
theorem dX4_addLeaf_42 : decode cX4_addLeaf 42 = .ok (.getfield 39, 3) := by decide +kernel
theorem dX4_addLeaf_45 : decode cX4_addLeaf 45 = .ok (.iconst 1, 1) := by decide +kernel
theorem dX4_addLeaf_46 : decode cX4_addLeaf 46 = .ok (.iadd, 1) := by decide +kernel
theorem dX4_addLeaf_47 : decode cX4_addLeaf 47 = .ok (.putfield 39, 3) := by decide +kernel
theorem dX4_addLeaf_50 : decode cX4_addLeaf 50 = .ok (.return_, 1) := by decide +kernel
theorem dX4_boundOn_0 : decode cX4_boundOn 0 = .ok (.iload_n 1, 1) := by decide +kernel
theorem dX4_boundOn_1 : decode cX4_boundOn 1 = .ok (.ifCond .lt 29, 3) := by decide +kernel
theorem dX4_boundOn_4 : decode cX4_boundOn 4 = .ok (.iload_n 1, 1) := by decide +kernel
theorem dX4_boundOn_5 : decode cX4_boundOn 5 = .ok (.aload_n 0, 1) := by decide +kernel
theorem dX4_boundOn_6 : decode cX4_boundOn 6 = .ok (.getfield 39, 3) := by decide +kernel
theorem dX4_boundOn_9 : decode cX4_boundOn 9 = .ok (.if_icmp .ge 21, 3) := by decide +kernel
theorem dX4_boundOn_12 : decode cX4_boundOn 12 = .ok (.iload_n 1, 1) := by decide +kernel
theorem dX4_boundOn_13 : decode cX4_boundOn 13 = .ok (.aload_n 0, 1) := by decide +kernel
theorem dX4_boundOn_14 : decode cX4_boundOn 14 = .ok (.getfield 24, 3) := by decide +kernel
theorem dX4_boundOn_17 : decode cX4_boundOn 17 = .ok (.arraylength, 1) := by decide +kernel
theorem dX4_boundOn_18 : decode cX4_boundOn 18 = .ok (.if_icmp .ge 12, 3) := by decide +kernel
theorem dX4_boundOn_21 : decode cX4_boundOn 21 = .ok (.aload_n 0, 1) := by decide +kernel
theorem dX4_boundOn_22 : decode cX4_boundOn 22 = .ok (.getfield 24, 3) := by decide +kernel
theorem dX4_boundOn_25 : decode cX4_boundOn 25 = .ok (.iload_n 1, 1) := by decide +kernel
theorem dX4_boundOn_26 : decode cX4_boundOn 26 = .ok (.iaload, 1) := by decide +kernel
theorem dX4_boundOn_27 : decode cX4_boundOn 27 = .ok (.goto 6, 3) := by decide +kernel
theorem dX4_boundOn_30 : decode cX4_boundOn 30 = .ok (.sipush 10000, 3) := by decide +kernel
theorem dX4_boundOn_33 : decode cX4_boundOn 33 = .ok (.ireturn, 1) := by decide +kernel
theorem dX4_leafOfKey_0 : decode cX4_leafOfKey 0 = .ok (.iconst 0, 1) := by decide +kernel
theorem dX4_leafOfKey_1 : decode cX4_leafOfKey 1 = .ok (.istore_n 2, 1) := by decide +kernel
theorem dX4_leafOfKey_2 : decode cX4_leafOfKey 2 = .ok (.aload_n 0, 1) := by decide +kernel
theorem dX4_leafOfKey_3 : decode cX4_leafOfKey 3 = .ok (.getfield 39, 3) := by decide +kernel
theorem dX4_leafOfKey_6 : decode cX4_leafOfKey 6 = .ok (.istore_n 3, 1) := by decide +kernel
theorem dX4_leafOfKey_7 : decode cX4_leafOfKey 7 = .ok (.iconst 0, 1) := by decide +kernel
theorem dX4_leafOfKey_8 : decode cX4_leafOfKey 8 = .ok (.istore 4, 2) := by decide +kernel
theorem dX4_leafOfKey_10 : decode cX4_leafOfKey 10 = .ok (.iload 4, 2) := by decide +kernel
theorem dX4_leafOfKey_12 : decode cX4_leafOfKey 12 = .ok (.bipush 32, 2) := by decide +kernel
theorem dX4_leafOfKey_14 : decode cX4_leafOfKey 14 = .ok (.if_icmp .ge 53, 3) := by decide +kernel
theorem dX4_leafOfKey_17 : decode cX4_leafOfKey 17 = .ok (.iload_n 2, 1) := by decide +kernel
theorem dX4_leafOfKey_18 : decode cX4_leafOfKey 18 = .ok (.iload_n 3, 1) := by decide +kernel
theorem dX4_leafOfKey_19 : decode cX4_leafOfKey 19 = .ok (.if_icmp .ge 48, 3) := by decide +kernel
theorem dX4_leafOfKey_22 : decode cX4_leafOfKey 22 = .ok (.iload_n 2, 1) := by decide +kernel
theorem dX4_leafOfKey_23 : decode cX4_leafOfKey 23 = .ok (.iload_n 3, 1) := by decide +kernel
theorem dX4_leafOfKey_24 : decode cX4_leafOfKey 24 = .ok (.iadd, 1) := by decide +kernel
theorem dX4_leafOfKey_25 : decode cX4_leafOfKey 25 = .ok (.iconst 1, 1) := by decide +kernel
theorem dX4_leafOfKey_26 : decode cX4_leafOfKey 26 = .ok (.iushr, 1) := by decide +kernel
theorem dX4_leafOfKey_27 : decode cX4_leafOfKey 27 = .ok (.istore 5, 2) := by decide +kernel
theorem dX4_leafOfKey_29 : decode cX4_leafOfKey 29 = .ok (.iload 5, 2) := by decide +kernel
theorem dX4_leafOfKey_31 : decode cX4_leafOfKey 31 = .ok (.aload_n 0, 1) := by decide +kernel
theorem dX4_leafOfKey_32 : decode cX4_leafOfKey 32 = .ok (.getfield 24, 3) := by decide +kernel
theorem dX4_leafOfKey_35 : decode cX4_leafOfKey 35 = .ok (.arraylength, 1) := by decide +kernel
theorem dX4_leafOfKey_36 : decode cX4_leafOfKey 36 = .ok (.if_icmp .ge 22, 3) := by decide +kernel
theorem dX4_leafOfKey_39 : decode cX4_leafOfKey 39 = .ok (.aload_n 0, 1) := by decide +kernel
theorem dX4_leafOfKey_40 : decode cX4_leafOfKey 40 = .ok (.getfield 24, 3) := by decide +kernel
theorem dX4_leafOfKey_43 : decode cX4_leafOfKey 43 = .ok (.iload 5, 2) := by decide +kernel
theorem dX4_leafOfKey_45 : decode cX4_leafOfKey 45 = .ok (.iaload, 1) := by decide +kernel
theorem dX4_leafOfKey_46 : decode cX4_leafOfKey 46 = .ok (.iload_n 1, 1) := by decide +kernel
theorem dX4_leafOfKey_47 : decode cX4_leafOfKey 47 = .ok (.if_icmp .gt 11, 3) := by decide +kernel
theorem dX4_leafOfKey_50 : decode cX4_leafOfKey 50 = .ok (.iload 5, 2) := by decide +kernel
theorem dX4_leafOfKey_52 : decode cX4_leafOfKey 52 = .ok (.iconst 1, 1) := by decide +kernel
theorem dX4_leafOfKey_53 : decode cX4_leafOfKey 53 = .ok (.iadd, 1) := by decide +kernel
theorem dX4_leafOfKey_54 : decode cX4_leafOfKey 54 = .ok (.istore_n 2, 1) := by decide +kernel
theorem dX4_leafOfKey_55 : decode cX4_leafOfKey 55 = .ok (.goto 6, 3) := by decide +kernel
theorem dX4_leafOfKey_58 : decode cX4_leafOfKey 58 = .ok (.iload 5, 2) := by decide +kernel
theorem dX4_leafOfKey_60 : decode cX4_leafOfKey 60 = .ok (.istore_n 3, 1) := by decide +kernel
theorem dX4_leafOfKey_61 : decode cX4_leafOfKey 61 = .ok (.iinc 4 1, 3) := by decide +kernel
theorem dX4_leafOfKey_64 : decode cX4_leafOfKey 64 = .ok (.goto (-54), 3) := by decide +kernel
theorem dX4_leafOfKey_67 : decode cX4_leafOfKey 67 = .ok (.iload_n 2, 1) := by decide +kernel
theorem dX4_leafOfKey_68 : decode cX4_leafOfKey 68 = .ok (.iconst 1, 1) := by decide +kernel
theorem dX4_leafOfKey_69 : decode cX4_leafOfKey 69 = .ok (.isub, 1) := by decide +kernel
theorem dX4_leafOfKey_70 : decode cX4_leafOfKey 70 = .ok (.ireturn, 1) := by decide +kernel
theorem dX4_firstEntry_0 : decode cX4_firstEntry 0 = .ok (.aload_n 0, 1) := by decide +kernel
theorem dX4_firstEntry_1 : decode cX4_firstEntry 1 = .ok (.getfield 14, 3) := by decide +kernel
theorem dX4_firstEntry_4 : decode cX4_firstEntry 4 = .ok (.aload_n 0, 1) := by decide +kernel
theorem dX4_firstEntry_5 : decode cX4_firstEntry 5 = .ok (.iload_n 1, 1) := by decide +kernel
theorem dX4_firstEntry_6 : decode cX4_firstEntry 6 = .ok (.invokevirtual 55, 3) := by decide +kernel
theorem dX4_firstEntry_9 : decode cX4_firstEntry 9 = .ok (.invokevirtual 58, 3) := by decide +kernel
theorem dX4_firstEntry_12 : decode cX4_firstEntry 12 = .ok (.ireturn, 1) := by decide +kernel
theorem dX4_placeOn_0 : decode cX4_placeOn 0 = .ok (.iload_n 1, 1) := by decide +kernel
theorem dX4_placeOn_1 : decode cX4_placeOn 1 = .ok (.ifCond .lt 21, 3) := by decide +kernel
theorem dX4_placeOn_4 : decode cX4_placeOn 4 = .ok (.iload_n 1, 1) := by decide +kernel
theorem dX4_placeOn_5 : decode cX4_placeOn 5 = .ok (.aload_n 0, 1) := by decide +kernel
theorem dX4_placeOn_6 : decode cX4_placeOn 6 = .ok (.getfield 20, 3) := by decide +kernel
theorem dX4_placeOn_9 : decode cX4_placeOn 9 = .ok (.arraylength, 1) := by decide +kernel
theorem dX4_placeOn_10 : decode cX4_placeOn 10 = .ok (.if_icmp .ge 12, 3) := by decide +kernel
theorem dX4_placeOn_13 : decode cX4_placeOn 13 = .ok (.aload_n 0, 1) := by decide +kernel
theorem dX4_placeOn_14 : decode cX4_placeOn 14 = .ok (.getfield 20, 3) := by decide +kernel
theorem dX4_placeOn_17 : decode cX4_placeOn 17 = .ok (.iload_n 1, 1) := by decide +kernel
theorem dX4_placeOn_18 : decode cX4_placeOn 18 = .ok (.iaload, 1) := by decide +kernel
theorem dX4_placeOn_19 : decode cX4_placeOn 19 = .ok (.goto 4, 3) := by decide +kernel
theorem dX4_placeOn_22 : decode cX4_placeOn 22 = .ok (.iconst 0, 1) := by decide +kernel
theorem dX4_placeOn_23 : decode cX4_placeOn 23 = .ok (.ireturn, 1) := by decide +kernel
theorem dX4_ownCount_0 : decode cX4_ownCount 0 = .ok (.iconst 0, 1) := by decide +kernel
theorem dX4_ownCount_1 : decode cX4_ownCount 1 = .ok (.istore_n 2, 1) := by decide +kernel
theorem dX4_ownCount_2 : decode cX4_ownCount 2 = .ok (.aload_n 0, 1) := by decide +kernel
theorem dX4_ownCount_3 : decode cX4_ownCount 3 = .ok (.getfield 14, 3) := by decide +kernel
theorem dX4_ownCount_6 : decode cX4_ownCount 6 = .ok (.aload_n 0, 1) := by decide +kernel
theorem dX4_ownCount_7 : decode cX4_ownCount 7 = .ok (.iload_n 1, 1) := by decide +kernel
theorem dX4_ownCount_8 : decode cX4_ownCount 8 = .ok (.iconst 1, 1) := by decide +kernel
theorem dX4_ownCount_9 : decode cX4_ownCount 9 = .ok (.iadd, 1) := by decide +kernel
theorem dX4_ownCount_10 : decode cX4_ownCount 10 = .ok (.invokevirtual 55, 3) := by decide +kernel
theorem dX4_ownCount_13 : decode cX4_ownCount 13 = .ok (.invokevirtual 58, 3) := by decide +kernel
theorem dX4_ownCount_16 : decode cX4_ownCount 16 = .ok (.istore_n 3, 1) := by decide +kernel
theorem dX4_ownCount_17 : decode cX4_ownCount 17 = .ok (.aload_n 0, 1) := by decide +kernel
theorem dX4_ownCount_18 : decode cX4_ownCount 18 = .ok (.getfield 14, 3) := by decide +kernel
theorem dX4_ownCount_21 : decode cX4_ownCount 21 = .ok (.aload_n 0, 1) := by decide +kernel
theorem dX4_ownCount_22 : decode cX4_ownCount 22 = .ok (.iload_n 1, 1) := by decide +kernel
theorem dX4_ownCount_23 : decode cX4_ownCount 23 = .ok (.invokevirtual 55, 3) := by decide +kernel
theorem dX4_ownCount_26 : decode cX4_ownCount 26 = .ok (.invokevirtual 58, 3) := by decide +kernel
theorem dX4_ownCount_29 : decode cX4_ownCount 29 = .ok (.istore 4, 2) := by decide +kernel
theorem dX4_ownCount_31 : decode cX4_ownCount 31 = .ok (.iload 4, 2) := by decide +kernel
theorem dX4_ownCount_33 : decode cX4_ownCount 33 = .ok (.iload_n 3, 1) := by decide +kernel
theorem dX4_ownCount_34 : decode cX4_ownCount 34 = .ok (.if_icmp .ge 21, 3) := by decide +kernel
theorem dX4_ownCount_37 : decode cX4_ownCount 37 = .ok (.aload_n 0, 1) := by decide +kernel
theorem dX4_ownCount_38 : decode cX4_ownCount 38 = .ok (.iload 4, 2) := by decide +kernel
theorem dX4_ownCount_40 : decode cX4_ownCount 40 = .ok (.invokevirtual 61, 3) := by decide +kernel
theorem dX4_ownCount_43 : decode cX4_ownCount 43 = .ok (.ifCond .ne 6, 3) := by decide +kernel
theorem dX4_ownCount_46 : decode cX4_ownCount 46 = .ok (.iinc 2 1, 3) := by decide +kernel
theorem dX4_ownCount_49 : decode cX4_ownCount 49 = .ok (.iinc 4 1, 3) := by decide +kernel
theorem dX4_ownCount_52 : decode cX4_ownCount 52 = .ok (.goto (-21), 3) := by decide +kernel
theorem dX4_ownCount_55 : decode cX4_ownCount 55 = .ok (.iload_n 2, 1) := by decide +kernel
theorem dX4_ownCount_56 : decode cX4_ownCount 56 = .ok (.ireturn, 1) := by decide +kernel
theorem dX4_overflowCount_0 : decode cX4_overflowCount 0 = .ok (.iconst 0, 1) := by decide +kernel
theorem dX4_overflowCount_1 : decode cX4_overflowCount 1 = .ok (.istore_n 2, 1) := by decide +kernel
theorem dX4_overflowCount_2 : decode cX4_overflowCount 2 = .ok (.aload_n 0, 1) := by decide +kernel
theorem dX4_overflowCount_3 : decode cX4_overflowCount 3 = .ok (.getfield 14, 3) := by decide +kernel
theorem dX4_overflowCount_6 : decode cX4_overflowCount 6 = .ok (.aload_n 0, 1) := by decide +kernel
theorem dX4_overflowCount_7 : decode cX4_overflowCount 7 = .ok (.iload_n 1, 1) := by decide +kernel
theorem dX4_overflowCount_8 : decode cX4_overflowCount 8 = .ok (.iconst 1, 1) := by decide +kernel
theorem dX4_overflowCount_9 : decode cX4_overflowCount 9 = .ok (.iadd, 1) := by decide +kernel
theorem dX4_overflowCount_10 : decode cX4_overflowCount 10 = .ok (.invokevirtual 55, 3) := by decide +kernel
theorem dX4_overflowCount_13 : decode cX4_overflowCount 13 = .ok (.invokevirtual 58, 3) := by decide +kernel
theorem dX4_overflowCount_16 : decode cX4_overflowCount 16 = .ok (.istore_n 3, 1) := by decide +kernel
theorem dX4_overflowCount_17 : decode cX4_overflowCount 17 = .ok (.aload_n 0, 1) := by decide +kernel
theorem dX4_overflowCount_18 : decode cX4_overflowCount 18 = .ok (.getfield 14, 3) := by decide +kernel
theorem dX4_overflowCount_21 : decode cX4_overflowCount 21 = .ok (.aload_n 0, 1) := by decide +kernel
theorem dX4_overflowCount_22 : decode cX4_overflowCount 22 = .ok (.iload_n 1, 1) := by decide +kernel
theorem dX4_overflowCount_23 : decode cX4_overflowCount 23 = .ok (.invokevirtual 55, 3) := by decide +kernel
theorem dX4_overflowCount_26 : decode cX4_overflowCount 26 = .ok (.invokevirtual 58, 3) := by decide +kernel
theorem dX4_overflowCount_29 : decode cX4_overflowCount 29 = .ok (.istore 4, 2) := by decide +kernel
theorem dX4_overflowCount_31 : decode cX4_overflowCount 31 = .ok (.iload 4, 2) := by decide +kernel
theorem dX4_overflowCount_33 : decode cX4_overflowCount 33 = .ok (.iload_n 3, 1) := by decide +kernel
theorem dX4_overflowCount_34 : decode cX4_overflowCount 34 = .ok (.if_icmp .ge 21, 3) := by decide +kernel
theorem dX4_overflowCount_37 : decode cX4_overflowCount 37 = .ok (.aload_n 0, 1) := by decide +kernel
theorem dX4_overflowCount_38 : decode cX4_overflowCount 38 = .ok (.iload 4, 2) := by decide +kernel
theorem dX4_overflowCount_40 : decode cX4_overflowCount 40 = .ok (.invokevirtual 61, 3) := by decide +kernel
theorem dX4_overflowCount_43 : decode cX4_overflowCount 43 = .ok (.ifCond .le 6, 3) := by decide +kernel
theorem dX4_overflowCount_46 : decode cX4_overflowCount 46 = .ok (.iinc 2 1, 3) := by decide +kernel
theorem dX4_overflowCount_49 : decode cX4_overflowCount 49 = .ok (.iinc 4 1, 3) := by decide +kernel
theorem dX4_overflowCount_52 : decode cX4_overflowCount 52 = .ok (.goto (-21), 3) := by decide +kernel
theorem dX4_overflowCount_55 : decode cX4_overflowCount 55 = .ok (.iload_n 2, 1) := by decide +kernel
theorem dX4_overflowCount_56 : decode cX4_overflowCount 56 = .ok (.ireturn, 1) := by decide +kernel
theorem dX4_overflowLeafCount_0 : decode cX4_overflowLeafCount 0 = .ok (.aload_n 0, 1) := by decide +kernel
theorem dX4_overflowLeafCount_1 : decode cX4_overflowLeafCount 1 = .ok (.iload_n 1, 1) := by decide +kernel
theorem dX4_overflowLeafCount_2 : decode cX4_overflowLeafCount 2 = .ok (.invokevirtual 64, 3) := by decide +kernel
theorem dX4_overflowLeafCount_5 : decode cX4_overflowLeafCount 5 = .ok (.aload_n 0, 1) := by decide +kernel
theorem dX4_overflowLeafCount_6 : decode cX4_overflowLeafCount 6 = .ok (.getfield 42, 3) := by decide +kernel
theorem dX4_overflowLeafCount_9 : decode cX4_overflowLeafCount 9 = .ok (.invokestatic 67, 3) := by decide +kernel
theorem dX4_overflowLeafCount_12 : decode cX4_overflowLeafCount 12 = .ok (.ireturn, 1) := by decide +kernel
theorem dX4_ownEntry_0 : decode cX4_ownEntry 0 = .ok (.iload_n 2, 1) := by decide +kernel
theorem dX4_ownEntry_1 : decode cX4_ownEntry 1 = .ok (.istore_n 3, 1) := by decide +kernel
theorem dX4_ownEntry_2 : decode cX4_ownEntry 2 = .ok (.aload_n 0, 1) := by decide +kernel
theorem dX4_ownEntry_3 : decode cX4_ownEntry 3 = .ok (.iload_n 1, 1) := by decide +kernel
theorem dX4_ownEntry_4 : decode cX4_ownEntry 4 = .ok (.iconst 1, 1) := by decide +kernel
theorem dX4_ownEntry_5 : decode cX4_ownEntry 5 = .ok (.iadd, 1) := by decide +kernel
theorem dX4_ownEntry_6 : decode cX4_ownEntry 6 = .ok (.invokevirtual 71, 3) := by decide +kernel
theorem dX4_ownEntry_9 : decode cX4_ownEntry 9 = .ok (.istore 4, 2) := by decide +kernel
theorem dX4_ownEntry_11 : decode cX4_ownEntry 11 = .ok (.aload_n 0, 1) := by decide +kernel
theorem dX4_ownEntry_12 : decode cX4_ownEntry 12 = .ok (.iload_n 1, 1) := by decide +kernel
theorem dX4_ownEntry_13 : decode cX4_ownEntry 13 = .ok (.invokevirtual 71, 3) := by decide +kernel
theorem dX4_ownEntry_16 : decode cX4_ownEntry 16 = .ok (.istore 5, 2) := by decide +kernel
theorem dX4_ownEntry_18 : decode cX4_ownEntry 18 = .ok (.iload 5, 2) := by decide +kernel
theorem dX4_ownEntry_20 : decode cX4_ownEntry 20 = .ok (.iload 4, 2) := by decide +kernel
theorem dX4_ownEntry_22 : decode cX4_ownEntry 22 = .ok (.if_icmp .ge 32, 3) := by decide +kernel
theorem dX4_ownEntry_25 : decode cX4_ownEntry 25 = .ok (.iload_n 3, 1) := by decide +kernel
theorem dX4_ownEntry_26 : decode cX4_ownEntry 26 = .ok (.ifCond .lt 28, 3) := by decide +kernel
theorem dX4_ownEntry_29 : decode cX4_ownEntry 29 = .ok (.aload_n 0, 1) := by decide +kernel
theorem dX4_ownEntry_30 : decode cX4_ownEntry 30 = .ok (.iload 5, 2) := by decide +kernel
theorem dX4_ownEntry_32 : decode cX4_ownEntry 32 = .ok (.invokevirtual 61, 3) := by decide +kernel
theorem dX4_ownEntry_35 : decode cX4_ownEntry 35 = .ok (.ifCond .ne 13, 3) := by decide +kernel
theorem dX4_ownEntry_38 : decode cX4_ownEntry 38 = .ok (.iload_n 3, 1) := by decide +kernel
theorem dX4_ownEntry_39 : decode cX4_ownEntry 39 = .ok (.ifCond .ne 6, 3) := by decide +kernel
theorem dX4_ownEntry_42 : decode cX4_ownEntry 42 = .ok (.iload 5, 2) := by decide +kernel
theorem dX4_ownEntry_44 : decode cX4_ownEntry 44 = .ok (.ireturn, 1) := by decide +kernel
theorem dX4_ownEntry_45 : decode cX4_ownEntry 45 = .ok (.iinc 3 (-1), 3) := by decide +kernel
theorem dX4_ownEntry_48 : decode cX4_ownEntry 48 = .ok (.iinc 5 1, 3) := by decide +kernel
theorem dX4_ownEntry_51 : decode cX4_ownEntry 51 = .ok (.goto (-33), 3) := by decide +kernel
theorem dX4_ownEntry_54 : decode cX4_ownEntry 54 = .ok (.iconst (-1), 1) := by decide +kernel
theorem dX4_ownEntry_55 : decode cX4_ownEntry 55 = .ok (.ireturn, 1) := by decide +kernel
theorem dX4_write_0 : decode cX4_write 0 = .ok (.aload_n 0, 1) := by decide +kernel
theorem dX4_write_1 : decode cX4_write 1 = .ok (.getfield 14, 3) := by decide +kernel
theorem dX4_write_4 : decode cX4_write 4 = .ok (.iload_n 1, 1) := by decide +kernel
theorem dX4_write_5 : decode cX4_write 5 = .ok (.invokevirtual 74, 3) := by decide +kernel
theorem dX4_write_8 : decode cX4_write 8 = .ok (.istore_n 3, 1) := by decide +kernel
theorem dX4_write_9 : decode cX4_write 9 = .ok (.iload_n 3, 1) := by decide +kernel
theorem dX4_write_10 : decode cX4_write 10 = .ok (.iconst (-1), 1) := by decide +kernel
theorem dX4_write_11 : decode cX4_write 11 = .ok (.if_icmp .eq 14, 3) := by decide +kernel
theorem dX4_write_14 : decode cX4_write 14 = .ok (.aload_n 0, 1) := by decide +kernel
theorem dX4_write_15 : decode cX4_write 15 = .ok (.getfield 14, 3) := by decide +kernel
theorem dX4_write_18 : decode cX4_write 18 = .ok (.iload_n 3, 1) := by decide +kernel
theorem dX4_write_19 : decode cX4_write 19 = .ok (.iload_n 2, 1) := by decide +kernel
theorem dX4_write_20 : decode cX4_write 20 = .ok (.invokevirtual 77, 3) := by decide +kernel
theorem dX4_write_23 : decode cX4_write 23 = .ok (.iconst 0, 1) := by decide +kernel
theorem dX4_write_24 : decode cX4_write 24 = .ok (.ireturn, 1) := by decide +kernel
theorem dX4_write_25 : decode cX4_write 25 = .ok (.aload_n 0, 1) := by decide +kernel
theorem dX4_write_26 : decode cX4_write 26 = .ok (.getfield 14, 3) := by decide +kernel
theorem dX4_write_29 : decode cX4_write 29 = .ok (.invokevirtual 81, 3) := by decide +kernel
theorem dX4_write_32 : decode cX4_write 32 = .ok (.ifCond .eq 5, 3) := by decide +kernel
theorem dX4_write_35 : decode cX4_write 35 = .ok (.iconst (-1), 1) := by decide +kernel
theorem dX4_write_36 : decode cX4_write 36 = .ok (.ireturn, 1) := by decide +kernel
theorem dX4_write_37 : decode cX4_write 37 = .ok (.aload_n 0, 1) := by decide +kernel
theorem dX4_write_38 : decode cX4_write 38 = .ok (.iload_n 1, 1) := by decide +kernel
theorem dX4_write_39 : decode cX4_write 39 = .ok (.invokevirtual 85, 3) := by decide +kernel
theorem dX4_write_42 : decode cX4_write 42 = .ok (.istore 4, 2) := by decide +kernel
theorem dX4_write_44 : decode cX4_write 44 = .ok (.iload 4, 2) := by decide +kernel
theorem dX4_write_46 : decode cX4_write 46 = .ok (.iconst (-1), 1) := by decide +kernel
theorem dX4_write_47 : decode cX4_write 47 = .ok (.if_icmp .eq 25, 3) := by decide +kernel
theorem dX4_write_50 : decode cX4_write 50 = .ok (.aload_n 0, 1) := by decide +kernel
theorem dX4_write_51 : decode cX4_write 51 = .ok (.iload 4, 2) := by decide +kernel
theorem dX4_write_53 : decode cX4_write 53 = .ok (.invokevirtual 88, 3) := by decide +kernel
theorem dX4_write_56 : decode cX4_write 56 = .ok (.aload_n 0, 1) := by decide +kernel
theorem dX4_write_57 : decode cX4_write 57 = .ok (.getfield 42, 3) := by decide +kernel
theorem dX4_write_60 : decode cX4_write 60 = .ok (.if_icmp .ge 12, 3) := by decide +kernel
theorem dX4_write_63 : decode cX4_write 63 = .ok (.aload_n 0, 1) := by decide +kernel
theorem dX4_write_64 : decode cX4_write 64 = .ok (.iload_n 1, 1) := by decide +kernel
theorem dX4_write_65 : decode cX4_write 65 = .ok (.iload_n 2, 1) := by decide +kernel
theorem dX4_write_66 : decode cX4_write 66 = .ok (.iconst 0, 1) := by decide +kernel
theorem dX4_write_67 : decode cX4_write 67 = .ok (.invokevirtual 91, 3) := by decide +kernel
theorem dX4_write_70 : decode cX4_write 70 = .ok (.iconst 1, 1) := by decide +kernel
theorem dX4_write_71 : decode cX4_write 71 = .ok (.ireturn, 1) := by decide +kernel
theorem dX4_write_72 : decode cX4_write 72 = .ok (.iload 4, 2) := by decide +kernel
theorem dX4_write_74 : decode cX4_write 74 = .ok (.aload_n 0, 1) := by decide +kernel
theorem dX4_write_75 : decode cX4_write 75 = .ok (.getfield 39, 3) := by decide +kernel
theorem dX4_write_78 : decode cX4_write 78 = .ok (.iconst 1, 1) := by decide +kernel
theorem dX4_write_79 : decode cX4_write 79 = .ok (.isub, 1) := by decide +kernel
theorem dX4_write_80 : decode cX4_write 80 = .ok (.if_icmp .ne 27, 3) := by decide +kernel
theorem dX4_write_83 : decode cX4_write 83 = .ok (.iload_n 1, 1) := by decide +kernel
theorem dX4_write_84 : decode cX4_write 84 = .ok (.aload_n 0, 1) := by decide +kernel
theorem dX4_write_85 : decode cX4_write 85 = .ok (.getfield 14, 3) := by decide +kernel
theorem dX4_write_88 : decode cX4_write 88 = .ok (.aload_n 0, 1) := by decide +kernel
theorem dX4_write_89 : decode cX4_write 89 = .ok (.getfield 14, 3) := by decide +kernel
theorem dX4_write_92 : decode cX4_write 92 = .ok (.getfield 31, 3) := by decide +kernel
theorem dX4_write_95 : decode cX4_write 95 = .ok (.iconst 1, 1) := by decide +kernel
theorem dX4_write_96 : decode cX4_write 96 = .ok (.isub, 1) := by decide +kernel
theorem dX4_write_97 : decode cX4_write 97 = .ok (.invokevirtual 48, 3) := by decide +kernel
theorem dX4_write_100 : decode cX4_write 100 = .ok (.if_icmp .le 7, 3) := by decide +kernel
theorem dX4_write_103 : decode cX4_write 103 = .ok (.iconst 1, 1) := by decide +kernel
theorem dX4_write_104 : decode cX4_write 104 = .ok (.goto 4, 3) := by decide +kernel
theorem dX4_write_107 : decode cX4_write 107 = .ok (.iconst 0, 1) := by decide +kernel
theorem dX4_write_108 : decode cX4_write 108 = .ok (.istore 5, 2) := by decide +kernel
theorem dX4_write_110 : decode cX4_write 110 = .ok (.iload 4, 2) := by decide +kernel
theorem dX4_write_112 : decode cX4_write 112 = .ok (.iconst (-1), 1) := by decide +kernel
theorem dX4_write_113 : decode cX4_write 113 = .ok (.if_icmp .eq 20, 3) := by decide +kernel
theorem dX4_write_116 : decode cX4_write 116 = .ok (.iload 5, 2) := by decide +kernel
theorem dX4_write_118 : decode cX4_write 118 = .ok (.ifCond .eq 29, 3) := by decide +kernel
theorem dX4_write_121 : decode cX4_write 121 = .ok (.aload_n 0, 1) := by decide +kernel
theorem dX4_write_122 : decode cX4_write 122 = .ok (.getfield 39, 3) := by decide +kernel
theorem dX4_write_125 : decode cX4_write 125 = .ok (.aload_n 0, 1) := by decide +kernel
theorem dX4_write_126 : decode cX4_write 126 = .ok (.getfield 24, 3) := by decide +kernel
theorem dX4_write_129 : decode cX4_write 129 = .ok (.arraylength, 1) := by decide +kernel
theorem dX4_write_130 : decode cX4_write 130 = .ok (.if_icmp .ge 17, 3) := by decide +kernel
theorem dX4_write_133 : decode cX4_write 133 = .ok (.aload_n 0, 1) := by decide +kernel
theorem dX4_write_134 : decode cX4_write 134 = .ok (.iload_n 1, 1) := by decide +kernel
theorem dX4_write_135 : decode cX4_write 135 = .ok (.invokevirtual 52, 3) := by decide +kernel
theorem dX4_write_138 : decode cX4_write 138 = .ok (.aload_n 0, 1) := by decide +kernel
theorem dX4_write_139 : decode cX4_write 139 = .ok (.iload_n 1, 1) := by decide +kernel
theorem dX4_write_140 : decode cX4_write 140 = .ok (.iload_n 2, 1) := by decide +kernel
theorem dX4_write_141 : decode cX4_write 141 = .ok (.iconst 0, 1) := by decide +kernel
theorem dX4_write_142 : decode cX4_write 142 = .ok (.invokevirtual 91, 3) := by decide +kernel
theorem dX4_write_145 : decode cX4_write 145 = .ok (.iconst 3, 1) := by decide +kernel
theorem dX4_write_146 : decode cX4_write 146 = .ok (.ireturn, 1) := by decide +kernel
theorem dX4_write_147 : decode cX4_write 147 = .ok (.aload_n 0, 1) := by decide +kernel
theorem dX4_write_148 : decode cX4_write 148 = .ok (.iload_n 1, 1) := by decide +kernel
theorem dX4_write_149 : decode cX4_write 149 = .ok (.iload_n 2, 1) := by decide +kernel
theorem dX4_write_150 : decode cX4_write 150 = .ok (.aload_n 0, 1) := by decide +kernel
theorem dX4_write_151 : decode cX4_write 151 = .ok (.iload 4, 2) := by decide +kernel
theorem dX4_write_153 : decode cX4_write 153 = .ok (.invokevirtual 64, 3) := by decide +kernel
theorem dX4_write_156 : decode cX4_write 156 = .ok (.iconst 1, 1) := by decide +kernel
theorem dX4_write_157 : decode cX4_write 157 = .ok (.iadd, 1) := by decide +kernel
theorem dX4_write_158 : decode cX4_write 158 = .ok (.invokevirtual 91, 3) := by decide +kernel
theorem dX4_write_161 : decode cX4_write 161 = .ok (.iconst 2, 1) := by decide +kernel
theorem dX4_write_162 : decode cX4_write 162 = .ok (.ireturn, 1) := by decide +kernel
theorem dX4_addEntry_0 : decode cX4_addEntry 0 = .ok (.aload_n 0, 1) := by decide +kernel
theorem dX4_addEntry_1 : decode cX4_addEntry 1 = .ok (.getfield 14, 3) := by decide +kernel
theorem dX4_addEntry_4 : decode cX4_addEntry 4 = .ok (.iload_n 1, 1) := by decide +kernel
theorem dX4_addEntry_5 : decode cX4_addEntry 5 = .ok (.invokevirtual 58, 3) := by decide +kernel
theorem dX4_addEntry_8 : decode cX4_addEntry 8 = .ok (.istore 4, 2) := by decide +kernel
theorem dX4_addEntry_10 : decode cX4_addEntry 10 = .ok (.iload 4, 2) := by decide +kernel
theorem dX4_addEntry_12 : decode cX4_addEntry 12 = .ok (.ifCond .lt 30, 3) := by decide +kernel
theorem dX4_addEntry_15 : decode cX4_addEntry 15 = .ok (.iload 4, 2) := by decide +kernel
theorem dX4_addEntry_17 : decode cX4_addEntry 17 = .ok (.aload_n 0, 1) := by decide +kernel
theorem dX4_addEntry_18 : decode cX4_addEntry 18 = .ok (.getfield 14, 3) := by decide +kernel
theorem dX4_addEntry_21 : decode cX4_addEntry 21 = .ok (.getfield 31, 3) := by decide +kernel
theorem dX4_addEntry_24 : decode cX4_addEntry 24 = .ok (.if_icmp .gt 18, 3) := by decide +kernel
theorem dX4_addEntry_27 : decode cX4_addEntry 27 = .ok (.aload_n 0, 1) := by decide +kernel
theorem dX4_addEntry_28 : decode cX4_addEntry 28 = .ok (.getfield 14, 3) := by decide +kernel
theorem dX4_addEntry_31 : decode cX4_addEntry 31 = .ok (.getfield 31, 3) := by decide +kernel
theorem dX4_addEntry_34 : decode cX4_addEntry 34 = .ok (.aload_n 0, 1) := by decide +kernel
theorem dX4_addEntry_35 : decode cX4_addEntry 35 = .ok (.getfield 20, 3) := by decide +kernel
theorem dX4_addEntry_38 : decode cX4_addEntry 38 = .ok (.arraylength, 1) := by decide +kernel
theorem dX4_addEntry_39 : decode cX4_addEntry 39 = .ok (.if_icmp .lt 4, 3) := by decide +kernel
theorem dX4_addEntry_42 : decode cX4_addEntry 42 = .ok (.return_, 1) := by decide +kernel
theorem dX4_addEntry_43 : decode cX4_addEntry 43 = .ok (.aload_n 0, 1) := by decide +kernel
theorem dX4_addEntry_44 : decode cX4_addEntry 44 = .ok (.getfield 14, 3) := by decide +kernel
theorem dX4_addEntry_47 : decode cX4_addEntry 47 = .ok (.getfield 31, 3) := by decide +kernel
theorem dX4_addEntry_50 : decode cX4_addEntry 50 = .ok (.istore 5, 2) := by decide +kernel
theorem dX4_addEntry_52 : decode cX4_addEntry 52 = .ok (.iload 5, 2) := by decide +kernel
theorem dX4_addEntry_54 : decode cX4_addEntry 54 = .ok (.iload 4, 2) := by decide +kernel
theorem dX4_addEntry_56 : decode cX4_addEntry 56 = .ok (.if_icmp .le 25, 3) := by decide +kernel
theorem dX4_addEntry_59 : decode cX4_addEntry 59 = .ok (.aload_n 0, 1) := by decide +kernel
theorem dX4_addEntry_60 : decode cX4_addEntry 60 = .ok (.getfield 20, 3) := by decide +kernel
theorem dX4_addEntry_63 : decode cX4_addEntry 63 = .ok (.iload 5, 2) := by decide +kernel
theorem dX4_addEntry_65 : decode cX4_addEntry 65 = .ok (.aload_n 0, 1) := by decide +kernel
theorem dX4_addEntry_66 : decode cX4_addEntry 66 = .ok (.getfield 20, 3) := by decide +kernel
theorem dX4_addEntry_69 : decode cX4_addEntry 69 = .ok (.iload 5, 2) := by decide +kernel
theorem dX4_addEntry_71 : decode cX4_addEntry 71 = .ok (.iconst 1, 1) := by decide +kernel
theorem dX4_addEntry_72 : decode cX4_addEntry 72 = .ok (.isub, 1) := by decide +kernel
theorem dX4_addEntry_73 : decode cX4_addEntry 73 = .ok (.iaload, 1) := by decide +kernel
theorem dX4_addEntry_74 : decode cX4_addEntry 74 = .ok (.iastore, 1) := by decide +kernel
theorem dX4_addEntry_75 : decode cX4_addEntry 75 = .ok (.iinc 5 (-1), 3) := by decide +kernel
theorem dX4_addEntry_78 : decode cX4_addEntry 78 = .ok (.goto (-26), 3) := by decide +kernel
theorem dX4_addEntry_81 : decode cX4_addEntry 81 = .ok (.aload_n 0, 1) := by decide +kernel
theorem dX4_addEntry_82 : decode cX4_addEntry 82 = .ok (.getfield 20, 3) := by decide +kernel
theorem dX4_addEntry_85 : decode cX4_addEntry 85 = .ok (.iload 4, 2) := by decide +kernel
theorem dX4_addEntry_87 : decode cX4_addEntry 87 = .ok (.iload_n 3, 1) := by decide +kernel
theorem dX4_addEntry_88 : decode cX4_addEntry 88 = .ok (.iastore, 1) := by decide +kernel
theorem dX4_addEntry_89 : decode cX4_addEntry 89 = .ok (.aload_n 0, 1) := by decide +kernel
theorem dX4_addEntry_90 : decode cX4_addEntry 90 = .ok (.getfield 14, 3) := by decide +kernel
theorem dX4_addEntry_93 : decode cX4_addEntry 93 = .ok (.iload 4, 2) := by decide +kernel
theorem dX4_addEntry_95 : decode cX4_addEntry 95 = .ok (.iload_n 1, 1) := by decide +kernel
theorem dX4_addEntry_96 : decode cX4_addEntry 96 = .ok (.iload_n 2, 1) := by decide +kernel
theorem dX4_addEntry_97 : decode cX4_addEntry 97 = .ok (.invokevirtual 95, 3) := by decide +kernel
theorem dX4_addEntry_100 : decode cX4_addEntry 100 = .ok (.return_, 1) := by decide +kernel
theorem dX4_takeOut_0 : decode cX4_takeOut 0 = .ok (.aload_n 0, 1) := by decide +kernel
theorem dX4_takeOut_1 : decode cX4_takeOut 1 = .ok (.getfield 14, 3) := by decide +kernel
theorem dX4_takeOut_4 : decode cX4_takeOut 4 = .ok (.iload_n 1, 1) := by decide +kernel
theorem dX4_takeOut_5 : decode cX4_takeOut 5 = .ok (.invokevirtual 74, 3) := by decide +kernel
theorem dX4_takeOut_8 : decode cX4_takeOut 8 = .ok (.istore_n 2, 1) := by decide +kernel
theorem dX4_takeOut_9 : decode cX4_takeOut 9 = .ok (.iload_n 2, 1) := by decide +kernel
theorem dX4_takeOut_10 : decode cX4_takeOut 10 = .ok (.ifCond .lt 12, 3) := by decide +kernel
theorem dX4_takeOut_13 : decode cX4_takeOut 13 = .ok (.iload_n 2, 1) := by decide +kernel
theorem dX4_takeOut_14 : decode cX4_takeOut 14 = .ok (.aload_n 0, 1) := by decide +kernel
theorem dX4_takeOut_15 : decode cX4_takeOut 15 = .ok (.getfield 20, 3) := by decide +kernel
theorem dX4_takeOut_18 : decode cX4_takeOut 18 = .ok (.arraylength, 1) := by decide +kernel
theorem dX4_takeOut_19 : decode cX4_takeOut 19 = .ok (.if_icmp .lt 5, 3) := by decide +kernel
theorem dX4_takeOut_22 : decode cX4_takeOut 22 = .ok (.iconst (-1), 1) := by decide +kernel
theorem dX4_takeOut_23 : decode cX4_takeOut 23 = .ok (.ireturn, 1) := by decide +kernel
theorem dX4_takeOut_24 : decode cX4_takeOut 24 = .ok (.aload_n 0, 1) := by decide +kernel
theorem dX4_takeOut_25 : decode cX4_takeOut 25 = .ok (.getfield 14, 3) := by decide +kernel
theorem dX4_takeOut_28 : decode cX4_takeOut 28 = .ok (.iload_n 2, 1) := by decide +kernel
theorem dX4_takeOut_29 : decode cX4_takeOut 29 = .ok (.invokevirtual 98, 3) := by decide +kernel
theorem dX4_takeOut_32 : decode cX4_takeOut 32 = .ok (.istore_n 3, 1) := by decide +kernel
theorem dX4_takeOut_33 : decode cX4_takeOut 33 = .ok (.aload_n 0, 1) := by decide +kernel
theorem dX4_takeOut_34 : decode cX4_takeOut 34 = .ok (.getfield 20, 3) := by decide +kernel
theorem dX4_takeOut_37 : decode cX4_takeOut 37 = .ok (.iload_n 2, 1) := by decide +kernel
theorem dX4_takeOut_38 : decode cX4_takeOut 38 = .ok (.iaload, 1) := by decide +kernel
theorem dX4_takeOut_39 : decode cX4_takeOut 39 = .ok (.ifCond .le 18, 3) := by decide +kernel
theorem dX4_takeOut_42 : decode cX4_takeOut 42 = .ok (.aload_n 0, 1) := by decide +kernel
theorem dX4_takeOut_43 : decode cX4_takeOut 43 = .ok (.aload_n 0, 1) := by decide +kernel
theorem dX4_takeOut_44 : decode cX4_takeOut 44 = .ok (.iload_n 1, 1) := by decide +kernel
theorem dX4_takeOut_45 : decode cX4_takeOut 45 = .ok (.invokevirtual 85, 3) := by decide +kernel
theorem dX4_takeOut_48 : decode cX4_takeOut 48 = .ok (.aload_n 0, 1) := by decide +kernel
theorem dX4_takeOut_49 : decode cX4_takeOut 49 = .ok (.getfield 20, 3) := by decide +kernel
theorem dX4_takeOut_52 : decode cX4_takeOut 52 = .ok (.iload_n 2, 1) := by decide +kernel
theorem dX4_takeOut_53 : decode cX4_takeOut 53 = .ok (.iaload, 1) := by decide +kernel
theorem dX4_takeOut_54 : decode cX4_takeOut 54 = .ok (.invokevirtual 101, 3) := by decide +kernel
theorem dX4_takeOut_57 : decode cX4_takeOut 57 = .ok (.iload_n 2, 1) := by decide +kernel
theorem dX4_takeOut_58 : decode cX4_takeOut 58 = .ok (.iconst 1, 1) := by decide +kernel
theorem dX4_takeOut_59 : decode cX4_takeOut 59 = .ok (.iadd, 1) := by decide +kernel
theorem dX4_takeOut_60 : decode cX4_takeOut 60 = .ok (.istore 4, 2) := by decide +kernel
theorem dX4_takeOut_62 : decode cX4_takeOut 62 = .ok (.iload 4, 2) := by decide +kernel
theorem dX4_takeOut_64 : decode cX4_takeOut 64 = .ok (.aload_n 0, 1) := by decide +kernel
theorem dX4_takeOut_65 : decode cX4_takeOut 65 = .ok (.getfield 14, 3) := by decide +kernel
theorem dX4_takeOut_68 : decode cX4_takeOut 68 = .ok (.getfield 31, 3) := by decide +kernel
theorem dX4_takeOut_71 : decode cX4_takeOut 71 = .ok (.if_icmp .ge 35, 3) := by decide +kernel
theorem dX4_takeOut_74 : decode cX4_takeOut 74 = .ok (.iload 4, 2) := by decide +kernel
theorem dX4_takeOut_76 : decode cX4_takeOut 76 = .ok (.aload_n 0, 1) := by decide +kernel
theorem dX4_takeOut_77 : decode cX4_takeOut 77 = .ok (.getfield 20, 3) := by decide +kernel
theorem dX4_takeOut_80 : decode cX4_takeOut 80 = .ok (.arraylength, 1) := by decide +kernel
theorem dX4_takeOut_81 : decode cX4_takeOut 81 = .ok (.if_icmp .ge 25, 3) := by decide +kernel
theorem dX4_takeOut_84 : decode cX4_takeOut 84 = .ok (.aload_n 0, 1) := by decide +kernel
theorem dX4_takeOut_85 : decode cX4_takeOut 85 = .ok (.getfield 20, 3) := by decide +kernel
theorem dX4_takeOut_88 : decode cX4_takeOut 88 = .ok (.iload 4, 2) := by decide +kernel
theorem dX4_takeOut_90 : decode cX4_takeOut 90 = .ok (.iconst 1, 1) := by decide +kernel
theorem dX4_takeOut_91 : decode cX4_takeOut 91 = .ok (.isub, 1) := by decide +kernel
theorem dX4_takeOut_92 : decode cX4_takeOut 92 = .ok (.aload_n 0, 1) := by decide +kernel
theorem dX4_takeOut_93 : decode cX4_takeOut 93 = .ok (.getfield 20, 3) := by decide +kernel
theorem dX4_takeOut_96 : decode cX4_takeOut 96 = .ok (.iload 4, 2) := by decide +kernel
theorem dX4_takeOut_98 : decode cX4_takeOut 98 = .ok (.iaload, 1) := by decide +kernel
theorem dX4_takeOut_99 : decode cX4_takeOut 99 = .ok (.iastore, 1) := by decide +kernel
theorem dX4_takeOut_100 : decode cX4_takeOut 100 = .ok (.iinc 4 1, 3) := by decide +kernel
theorem dX4_takeOut_103 : decode cX4_takeOut 103 = .ok (.goto (-41), 3) := by decide +kernel
theorem dX4_takeOut_106 : decode cX4_takeOut 106 = .ok (.aload_n 0, 1) := by decide +kernel
theorem dX4_takeOut_107 : decode cX4_takeOut 107 = .ok (.getfield 14, 3) := by decide +kernel
theorem dX4_takeOut_110 : decode cX4_takeOut 110 = .ok (.iload_n 2, 1) := by decide +kernel
theorem dX4_takeOut_111 : decode cX4_takeOut 111 = .ok (.invokevirtual 104, 3) := by decide +kernel
theorem dX4_takeOut_114 : decode cX4_takeOut 114 = .ok (.iload_n 3, 1) := by decide +kernel
theorem dX4_takeOut_115 : decode cX4_takeOut 115 = .ok (.ireturn, 1) := by decide +kernel
theorem dX4_moveUpBehind_0 : decode cX4_moveUpBehind 0 = .ok (.aload_n 0, 1) := by decide +kernel
theorem dX4_moveUpBehind_1 : decode cX4_moveUpBehind 1 = .ok (.getfield 14, 3) := by decide +kernel
theorem dX4_moveUpBehind_4 : decode cX4_moveUpBehind 4 = .ok (.aload_n 0, 1) := by decide +kernel
theorem dX4_moveUpBehind_5 : decode cX4_moveUpBehind 5 = .ok (.iload_n 1, 1) := by decide +kernel
theorem dX4_moveUpBehind_6 : decode cX4_moveUpBehind 6 = .ok (.iconst 1, 1) := by decide +kernel
theorem dX4_moveUpBehind_7 : decode cX4_moveUpBehind 7 = .ok (.iadd, 1) := by decide +kernel
theorem dX4_moveUpBehind_8 : decode cX4_moveUpBehind 8 = .ok (.invokevirtual 55, 3) := by decide +kernel
theorem dX4_moveUpBehind_11 : decode cX4_moveUpBehind 11 = .ok (.invokevirtual 58, 3) := by decide +kernel
theorem dX4_moveUpBehind_14 : decode cX4_moveUpBehind 14 = .ok (.istore_n 3, 1) := by decide +kernel
theorem dX4_moveUpBehind_15 : decode cX4_moveUpBehind 15 = .ok (.aload_n 0, 1) := by decide +kernel
theorem dX4_moveUpBehind_16 : decode cX4_moveUpBehind 16 = .ok (.getfield 14, 3) := by decide +kernel
theorem dX4_moveUpBehind_19 : decode cX4_moveUpBehind 19 = .ok (.aload_n 0, 1) := by decide +kernel
theorem dX4_moveUpBehind_20 : decode cX4_moveUpBehind 20 = .ok (.iload_n 1, 1) := by decide +kernel
theorem dX4_moveUpBehind_21 : decode cX4_moveUpBehind 21 = .ok (.invokevirtual 55, 3) := by decide +kernel
theorem dX4_moveUpBehind_24 : decode cX4_moveUpBehind 24 = .ok (.invokevirtual 58, 3) := by decide +kernel
theorem dX4_moveUpBehind_27 : decode cX4_moveUpBehind 27 = .ok (.istore 4, 2) := by decide +kernel
theorem dX4_moveUpBehind_29 : decode cX4_moveUpBehind 29 = .ok (.iload 4, 2) := by decide +kernel
theorem dX4_moveUpBehind_31 : decode cX4_moveUpBehind 31 = .ok (.iload_n 3, 1) := by decide +kernel
theorem dX4_moveUpBehind_32 : decode cX4_moveUpBehind 32 = .ok (.if_icmp .ge 46, 3) := by decide +kernel
theorem dX4_moveUpBehind_35 : decode cX4_moveUpBehind 35 = .ok (.iload 4, 2) := by decide +kernel
theorem dX4_moveUpBehind_37 : decode cX4_moveUpBehind 37 = .ok (.aload_n 0, 1) := by decide +kernel
theorem dX4_moveUpBehind_38 : decode cX4_moveUpBehind 38 = .ok (.getfield 20, 3) := by decide +kernel
theorem dX4_moveUpBehind_41 : decode cX4_moveUpBehind 41 = .ok (.arraylength, 1) := by decide +kernel
theorem dX4_moveUpBehind_42 : decode cX4_moveUpBehind 42 = .ok (.if_icmp .ge 36, 3) := by decide +kernel
theorem dX4_moveUpBehind_45 : decode cX4_moveUpBehind 45 = .ok (.iload 4, 2) := by decide +kernel
theorem dX4_moveUpBehind_47 : decode cX4_moveUpBehind 47 = .ok (.ifCond .lt 25, 3) := by decide +kernel
theorem dX4_moveUpBehind_50 : decode cX4_moveUpBehind 50 = .ok (.aload_n 0, 1) := by decide +kernel
theorem dX4_moveUpBehind_51 : decode cX4_moveUpBehind 51 = .ok (.getfield 20, 3) := by decide +kernel
theorem dX4_moveUpBehind_54 : decode cX4_moveUpBehind 54 = .ok (.iload 4, 2) := by decide +kernel
theorem dX4_moveUpBehind_56 : decode cX4_moveUpBehind 56 = .ok (.iaload, 1) := by decide +kernel
theorem dX4_moveUpBehind_57 : decode cX4_moveUpBehind 57 = .ok (.iload_n 2, 1) := by decide +kernel
theorem dX4_moveUpBehind_58 : decode cX4_moveUpBehind 58 = .ok (.if_icmp .le 14, 3) := by decide +kernel
theorem dX4_moveUpBehind_61 : decode cX4_moveUpBehind 61 = .ok (.aload_n 0, 1) := by decide +kernel
theorem dX4_moveUpBehind_62 : decode cX4_moveUpBehind 62 = .ok (.getfield 20, 3) := by decide +kernel
theorem dX4_moveUpBehind_65 : decode cX4_moveUpBehind 65 = .ok (.iload 4, 2) := by decide +kernel
theorem dX4_moveUpBehind_67 : decode cX4_moveUpBehind 67 = .ok (.dup2, 1) := by decide +kernel
theorem dX4_moveUpBehind_68 : decode cX4_moveUpBehind 68 = .ok (.iaload, 1) := by decide +kernel
theorem dX4_moveUpBehind_69 : decode cX4_moveUpBehind 69 = .ok (.iconst 1, 1) := by decide +kernel
theorem dX4_moveUpBehind_70 : decode cX4_moveUpBehind 70 = .ok (.isub, 1) := by decide +kernel
theorem dX4_moveUpBehind_71 : decode cX4_moveUpBehind 71 = .ok (.iastore, 1) := by decide +kernel
theorem dX4_moveUpBehind_72 : decode cX4_moveUpBehind 72 = .ok (.iinc 4 1, 3) := by decide +kernel
theorem dX4_moveUpBehind_75 : decode cX4_moveUpBehind 75 = .ok (.goto (-46), 3) := by decide +kernel
theorem dX4_moveUpBehind_78 : decode cX4_moveUpBehind 78 = .ok (.return_, 1) := by decide +kernel
theorem dX4_pagesRead_0 : decode cX4_pagesRead 0 = .ok (.aload_n 0, 1) := by decide +kernel
theorem dX4_pagesRead_1 : decode cX4_pagesRead 1 = .ok (.iload_n 1, 1) := by decide +kernel
theorem dX4_pagesRead_2 : decode cX4_pagesRead 2 = .ok (.invokevirtual 85, 3) := by decide +kernel
theorem dX4_pagesRead_5 : decode cX4_pagesRead 5 = .ok (.istore_n 2, 1) := by decide +kernel
theorem dX4_pagesRead_6 : decode cX4_pagesRead 6 = .ok (.iload_n 2, 1) := by decide +kernel
theorem dX4_pagesRead_7 : decode cX4_pagesRead 7 = .ok (.iconst (-1), 1) := by decide +kernel
theorem dX4_pagesRead_8 : decode cX4_pagesRead 8 = .ok (.if_icmp .ne 5, 3) := by decide +kernel
theorem dX4_pagesRead_11 : decode cX4_pagesRead 11 = .ok (.iconst 0, 1) := by decide +kernel
theorem dX4_pagesRead_12 : decode cX4_pagesRead 12 = .ok (.ireturn, 1) := by decide +kernel
theorem dX4_pagesRead_13 : decode cX4_pagesRead 13 = .ok (.aload_n 0, 1) := by decide +kernel
theorem dX4_pagesRead_14 : decode cX4_pagesRead 14 = .ok (.getfield 14, 3) := by decide +kernel
theorem dX4_pagesRead_17 : decode cX4_pagesRead 17 = .ok (.iload_n 1, 1) := by decide +kernel
theorem dX4_pagesRead_18 : decode cX4_pagesRead 18 = .ok (.invokevirtual 74, 3) := by decide +kernel
theorem dX4_pagesRead_21 : decode cX4_pagesRead 21 = .ok (.istore_n 3, 1) := by decide +kernel
theorem dX4_pagesRead_22 : decode cX4_pagesRead 22 = .ok (.iload_n 3, 1) := by decide +kernel
theorem dX4_pagesRead_23 : decode cX4_pagesRead 23 = .ok (.iconst (-1), 1) := by decide +kernel
theorem dX4_pagesRead_24 : decode cX4_pagesRead 24 = .ok (.if_icmp .ne 11, 3) := by decide +kernel
theorem dX4_pagesRead_27 : decode cX4_pagesRead 27 = .ok (.aload_n 0, 1) := by decide +kernel
theorem dX4_pagesRead_28 : decode cX4_pagesRead 28 = .ok (.iload_n 2, 1) := by decide +kernel
theorem dX4_pagesRead_29 : decode cX4_pagesRead 29 = .ok (.invokevirtual 64, 3) := by decide +kernel
theorem dX4_pagesRead_32 : decode cX4_pagesRead 32 = .ok (.goto 8, 3) := by decide +kernel
theorem dX4_pagesRead_35 : decode cX4_pagesRead 35 = .ok (.aload_n 0, 1) := by decide +kernel
theorem dX4_pagesRead_36 : decode cX4_pagesRead 36 = .ok (.iload_n 3, 1) := by decide +kernel
theorem dX4_pagesRead_37 : decode cX4_pagesRead 37 = .ok (.invokevirtual 61, 3) := by decide +kernel
theorem dX4_pagesRead_40 : decode cX4_pagesRead 40 = .ok (.istore 4, 2) := by decide +kernel
theorem dX4_pagesRead_42 : decode cX4_pagesRead 42 = .ok (.aload_n 0, 1) := by decide +kernel
theorem dX4_pagesRead_43 : decode cX4_pagesRead 43 = .ok (.invokevirtual 107, 3) := by decide +kernel
theorem dX4_pagesRead_46 : decode cX4_pagesRead 46 = .ok (.iconst 1, 1) := by decide +kernel
theorem dX4_pagesRead_47 : decode cX4_pagesRead 47 = .ok (.iadd, 1) := by decide +kernel
theorem dX4_pagesRead_48 : decode cX4_pagesRead 48 = .ok (.iload 4, 2) := by decide +kernel
theorem dX4_pagesRead_50 : decode cX4_pagesRead 50 = .ok (.aload_n 0, 1) := by decide +kernel
theorem dX4_pagesRead_51 : decode cX4_pagesRead 51 = .ok (.getfield 42, 3) := by decide +kernel
theorem dX4_pagesRead_54 : decode cX4_pagesRead 54 = .ok (.invokestatic 67, 3) := by decide +kernel
theorem dX4_pagesRead_57 : decode cX4_pagesRead 57 = .ok (.iadd, 1) := by decide +kernel
theorem dX4_pagesRead_58 : decode cX4_pagesRead 58 = .ok (.ireturn, 1) := by decide +kernel
theorem dX4_shareInOverflow_0 : decode cX4_shareInOverflow 0 = .ok (.iconst 0, 1) := by decide +kernel
theorem dX4_shareInOverflow_1 : decode cX4_shareInOverflow 1 = .ok (.istore_n 1, 1) := by decide +kernel
theorem dX4_shareInOverflow_2 : decode cX4_shareInOverflow 2 = .ok (.iconst 0, 1) := by decide +kernel
theorem dX4_shareInOverflow_3 : decode cX4_shareInOverflow 3 = .ok (.istore_n 2, 1) := by decide +kernel
theorem dX4_shareInOverflow_4 : decode cX4_shareInOverflow 4 = .ok (.iload_n 2, 1) := by decide +kernel
theorem dX4_shareInOverflow_5 : decode cX4_shareInOverflow 5 = .ok (.aload_n 0, 1) := by decide +kernel
theorem dX4_shareInOverflow_6 : decode cX4_shareInOverflow 6 = .ok (.getfield 14, 3) := by decide +kernel
theorem dX4_shareInOverflow_9 : decode cX4_shareInOverflow 9 = .ok (.getfield 31, 3) := by decide +kernel
theorem dX4_shareInOverflow_12 : decode cX4_shareInOverflow 12 = .ok (.if_icmp .ge 20, 3) := by decide +kernel
theorem dX4_shareInOverflow_15 : decode cX4_shareInOverflow 15 = .ok (.aload_n 0, 1) := by decide +kernel
theorem dX4_shareInOverflow_16 : decode cX4_shareInOverflow 16 = .ok (.iload_n 2, 1) := by decide +kernel
theorem dX4_shareInOverflow_17 : decode cX4_shareInOverflow 17 = .ok (.invokevirtual 61, 3) := by decide +kernel
theorem dX4_shareInOverflow_20 : decode cX4_shareInOverflow 20 = .ok (.ifCond .le 6, 3) := by decide +kernel
theorem dX4_shareInOverflow_23 : decode cX4_shareInOverflow 23 = .ok (.iinc 1 1, 3) := by decide +kernel
theorem dX4_shareInOverflow_26 : decode cX4_shareInOverflow 26 = .ok (.iinc 2 1, 3) := by decide +kernel
theorem dX4_shareInOverflow_29 : decode cX4_shareInOverflow 29 = .ok (.goto (-25), 3) := by decide +kernel
theorem dX4_shareInOverflow_32 : decode cX4_shareInOverflow 32 = .ok (.aload_n 0, 1) := by decide +kernel
theorem dX4_shareInOverflow_33 : decode cX4_shareInOverflow 33 = .ok (.getfield 14, 3) := by decide +kernel
theorem dX4_shareInOverflow_36 : decode cX4_shareInOverflow 36 = .ok (.getfield 31, 3) := by decide +kernel
theorem dX4_shareInOverflow_39 : decode cX4_shareInOverflow 39 = .ok (.ifCond .gt 7, 3) := by decide +kernel
theorem dX4_shareInOverflow_42 : decode cX4_shareInOverflow 42 = .ok (.dconst 0, 1) := by decide +kernel
theorem dX4_shareInOverflow_43 : decode cX4_shareInOverflow 43 = .ok (.goto 14, 3) := by decide +kernel
theorem dX4_shareInOverflow_46 : decode cX4_shareInOverflow 46 = .ok (.iload_n 1, 1) := by decide +kernel
theorem dX4_shareInOverflow_47 : decode cX4_shareInOverflow 47 = .ok (.i2d, 1) := by decide +kernel
theorem dX4_shareInOverflow_48 : decode cX4_shareInOverflow 48 = .ok (.aload_n 0, 1) := by decide +kernel
theorem dX4_shareInOverflow_49 : decode cX4_shareInOverflow 49 = .ok (.getfield 14, 3) := by decide +kernel
theorem dX4_shareInOverflow_52 : decode cX4_shareInOverflow 52 = .ok (.getfield 31, 3) := by decide +kernel
theorem dX4_shareInOverflow_55 : decode cX4_shareInOverflow 55 = .ok (.i2d, 1) := by decide +kernel
theorem dX4_shareInOverflow_56 : decode cX4_shareInOverflow 56 = .ok (.ddiv, 1) := by decide +kernel
theorem dX4_shareInOverflow_57 : decode cX4_shareInOverflow 57 = .ok (.dreturn, 1) := by decide +kernel
theorem dX4_levelCount_0 : decode cX4_levelCount 0 = .ok (.aload_n 0, 1) := by decide +kernel
theorem dX4_levelCount_1 : decode cX4_levelCount 1 = .ok (.getfield 39, 3) := by decide +kernel
theorem dX4_levelCount_4 : decode cX4_levelCount 4 = .ok (.aload_n 0, 1) := by decide +kernel
theorem dX4_levelCount_5 : decode cX4_levelCount 5 = .ok (.getfield 45, 3) := by decide +kernel
theorem dX4_levelCount_8 : decode cX4_levelCount 8 = .ok (.invokestatic 111, 3) := by decide +kernel
theorem dX4_levelCount_11 : decode cX4_levelCount 11 = .ok (.ireturn, 1) := by decide +kernel
theorem dX4_nodeCount_0 : decode cX4_nodeCount 0 = .ok (.aload_n 0, 1) := by decide +kernel
theorem dX4_nodeCount_1 : decode cX4_nodeCount 1 = .ok (.getfield 39, 3) := by decide +kernel
theorem dX4_nodeCount_4 : decode cX4_nodeCount 4 = .ok (.istore_n 2, 1) := by decide +kernel
theorem dX4_nodeCount_5 : decode cX4_nodeCount 5 = .ok (.iconst 0, 1) := by decide +kernel
theorem dX4_nodeCount_6 : decode cX4_nodeCount 6 = .ok (.istore_n 3, 1) := by decide +kernel
theorem dX4_nodeCount_7 : decode cX4_nodeCount 7 = .ok (.iload_n 3, 1) := by decide +kernel
theorem dX4_nodeCount_8 : decode cX4_nodeCount 8 = .ok (.iload_n 1, 1) := by decide +kernel
theorem dX4_nodeCount_9 : decode cX4_nodeCount 9 = .ok (.if_icmp .gt 24, 3) := by decide +kernel
theorem dX4_nodeCount_12 : decode cX4_nodeCount 12 = .ok (.iload_n 3, 1) := by decide +kernel
theorem dX4_nodeCount_13 : decode cX4_nodeCount 13 = .ok (.bipush 32, 2) := by decide +kernel
theorem dX4_nodeCount_15 : decode cX4_nodeCount 15 = .ok (.if_icmp .ge 18, 3) := by decide +kernel
theorem dX4_nodeCount_18 : decode cX4_nodeCount 18 = .ok (.iload_n 2, 1) := by decide +kernel
theorem dX4_nodeCount_19 : decode cX4_nodeCount 19 = .ok (.aload_n 0, 1) := by decide +kernel
theorem dX4_nodeCount_20 : decode cX4_nodeCount 20 = .ok (.getfield 45, 3) := by decide +kernel
theorem dX4_nodeCount_23 : decode cX4_nodeCount 23 = .ok (.invokestatic 67, 3) := by decide +kernel
theorem dX4_nodeCount_26 : decode cX4_nodeCount 26 = .ok (.istore_n 2, 1) := by decide +kernel
theorem dX4_nodeCount_27 : decode cX4_nodeCount 27 = .ok (.iinc 3 1, 3) := by decide +kernel
theorem dX4_nodeCount_30 : decode cX4_nodeCount 30 = .ok (.goto (-23), 3) := by decide +kernel
theorem dX4_nodeCount_33 : decode cX4_nodeCount 33 = .ok (.iload_n 2, 1) := by decide +kernel
theorem dX4_nodeCount_34 : decode cX4_nodeCount 34 = .ok (.ireturn, 1) := by decide +kernel
theorem dX4_childCount_0 : decode cX4_childCount 0 = .ok (.aload_n 0, 1) := by decide +kernel
theorem dX4_childCount_1 : decode cX4_childCount 1 = .ok (.getfield 45, 3) := by decide +kernel
theorem dX4_childCount_4 : decode cX4_childCount 4 = .ok (.aload_n 0, 1) := by decide +kernel
theorem dX4_childCount_5 : decode cX4_childCount 5 = .ok (.iload_n 1, 1) := by decide +kernel
theorem dX4_childCount_6 : decode cX4_childCount 6 = .ok (.iconst 1, 1) := by decide +kernel
theorem dX4_childCount_7 : decode cX4_childCount 7 = .ok (.isub, 1) := by decide +kernel
theorem dX4_childCount_8 : decode cX4_childCount 8 = .ok (.invokevirtual 114, 3) := by decide +kernel
theorem dX4_childCount_11 : decode cX4_childCount 11 = .ok (.iload_n 2, 1) := by decide +kernel
theorem dX4_childCount_12 : decode cX4_childCount 12 = .ok (.aload_n 0, 1) := by decide +kernel
theorem dX4_childCount_13 : decode cX4_childCount 13 = .ok (.getfield 45, 3) := by decide +kernel
theorem dX4_childCount_16 : decode cX4_childCount 16 = .ok (.imul, 1) := by decide +kernel
theorem dX4_childCount_17 : decode cX4_childCount 17 = .ok (.isub, 1) := by decide +kernel
theorem dX4_childCount_18 : decode cX4_childCount 18 = .ok (.invokestatic 117, 3) := by decide +kernel
theorem dX4_childCount_21 : decode cX4_childCount 21 = .ok (.ireturn, 1) := by decide +kernel
theorem dX4_nodeBound_0 : decode cX4_nodeBound 0 = .ok (.iload_n 2, 1) := by decide +kernel
theorem dX4_nodeBound_1 : decode cX4_nodeBound 1 = .ok (.istore_n 3, 1) := by decide +kernel
theorem dX4_nodeBound_2 : decode cX4_nodeBound 2 = .ok (.iconst 0, 1) := by decide +kernel
theorem dX4_nodeBound_3 : decode cX4_nodeBound 3 = .ok (.istore 4, 2) := by decide +kernel
theorem dX4_nodeBound_5 : decode cX4_nodeBound 5 = .ok (.iload 4, 2) := by decide +kernel
theorem dX4_nodeBound_7 : decode cX4_nodeBound 7 = .ok (.iload_n 1, 1) := by decide +kernel
theorem dX4_nodeBound_8 : decode cX4_nodeBound 8 = .ok (.if_icmp .gt 31, 3) := by decide +kernel
theorem dX4_nodeBound_11 : decode cX4_nodeBound 11 = .ok (.iload 4, 2) := by decide +kernel
theorem dX4_nodeBound_13 : decode cX4_nodeBound 13 = .ok (.bipush 32, 2) := by decide +kernel
theorem dX4_nodeBound_15 : decode cX4_nodeBound 15 = .ok (.if_icmp .ge 24, 3) := by decide +kernel
theorem dX4_nodeBound_18 : decode cX4_nodeBound 18 = .ok (.iload_n 3, 1) := by decide +kernel
theorem dX4_nodeBound_19 : decode cX4_nodeBound 19 = .ok (.aload_n 0, 1) := by decide +kernel
theorem dX4_nodeBound_20 : decode cX4_nodeBound 20 = .ok (.getfield 39, 3) := by decide +kernel
theorem dX4_nodeBound_23 : decode cX4_nodeBound 23 = .ok (.if_icmp .ge 16, 3) := by decide +kernel
theorem dX4_nodeBound_26 : decode cX4_nodeBound 26 = .ok (.iload_n 3, 1) := by decide +kernel
theorem dX4_nodeBound_27 : decode cX4_nodeBound 27 = .ok (.aload_n 0, 1) := by decide +kernel
theorem dX4_nodeBound_28 : decode cX4_nodeBound 28 = .ok (.getfield 45, 3) := by decide +kernel
theorem dX4_nodeBound_31 : decode cX4_nodeBound 31 = .ok (.imul, 1) := by decide +kernel
theorem dX4_nodeBound_32 : decode cX4_nodeBound 32 = .ok (.istore_n 3, 1) := by decide +kernel
theorem dX4_nodeBound_33 : decode cX4_nodeBound 33 = .ok (.iinc 4 1, 3) := by decide +kernel
theorem dX4_nodeBound_36 : decode cX4_nodeBound 36 = .ok (.goto (-31), 3) := by decide +kernel
theorem dX4_nodeBound_39 : decode cX4_nodeBound 39 = .ok (.aload_n 0, 1) := by decide +kernel
theorem dX4_nodeBound_40 : decode cX4_nodeBound 40 = .ok (.iload_n 3, 1) := by decide +kernel
theorem dX4_nodeBound_41 : decode cX4_nodeBound 41 = .ok (.invokevirtual 55, 3) := by decide +kernel
theorem dX4_nodeBound_44 : decode cX4_nodeBound 44 = .ok (.ireturn, 1) := by decide +kernel
theorem dX4_roundedUp_0 : decode cX4_roundedUp 0 = .ok (.iload_n 1, 1) := by decide +kernel
theorem dX4_roundedUp_1 : decode cX4_roundedUp 1 = .ok (.iconst 1, 1) := by decide +kernel
theorem dX4_roundedUp_2 : decode cX4_roundedUp 2 = .ok (.if_icmp .ge 7, 3) := by decide +kernel
theorem dX4_roundedUp_5 : decode cX4_roundedUp 5 = .ok (.iconst 0, 1) := by decide +kernel
theorem dX4_roundedUp_6 : decode cX4_roundedUp 6 = .ok (.goto 10, 3) := by decide +kernel
theorem dX4_roundedUp_9 : decode cX4_roundedUp 9 = .ok (.iload_n 0, 1) := by decide +kernel
theorem dX4_roundedUp_10 : decode cX4_roundedUp 10 = .ok (.iload_n 1, 1) := by decide +kernel
theorem dX4_roundedUp_11 : decode cX4_roundedUp 11 = .ok (.iadd, 1) := by decide +kernel
theorem dX4_roundedUp_12 : decode cX4_roundedUp 12 = .ok (.iconst 1, 1) := by decide +kernel
theorem dX4_roundedUp_13 : decode cX4_roundedUp 13 = .ok (.isub, 1) := by decide +kernel
theorem dX4_roundedUp_14 : decode cX4_roundedUp 14 = .ok (.iload_n 1, 1) := by decide +kernel
theorem dX4_roundedUp_15 : decode cX4_roundedUp 15 = .ok (.idiv, 1) := by decide +kernel
theorem dX4_roundedUp_16 : decode cX4_roundedUp 16 = .ok (.ireturn, 1) := by decide +kernel
theorem dX4_levelsAbove_0 : decode cX4_levelsAbove 0 = .ok (.iload_n 1, 1) := by decide +kernel
theorem dX4_levelsAbove_1 : decode cX4_levelsAbove 1 = .ok (.iconst 2, 1) := by decide +kernel
theorem dX4_levelsAbove_2 : decode cX4_levelsAbove 2 = .ok (.if_icmp .ge 5, 3) := by decide +kernel
theorem dX4_levelsAbove_5 : decode cX4_levelsAbove 5 = .ok (.iconst 0, 1) := by decide +kernel
theorem dX4_levelsAbove_6 : decode cX4_levelsAbove 6 = .ok (.ireturn, 1) := by decide +kernel
theorem dX4_levelsAbove_7 : decode cX4_levelsAbove 7 = .ok (.iload_n 0, 1) := by decide +kernel
theorem dX4_levelsAbove_8 : decode cX4_levelsAbove 8 = .ok (.istore_n 2, 1) := by decide +kernel
theorem dX4_levelsAbove_9 : decode cX4_levelsAbove 9 = .ok (.iconst 0, 1) := by decide +kernel
theorem dX4_levelsAbove_10 : decode cX4_levelsAbove 10 = .ok (.istore_n 3, 1) := by decide +kernel
theorem dX4_levelsAbove_11 : decode cX4_levelsAbove 11 = .ok (.iconst 0, 1) := by decide +kernel
theorem dX4_levelsAbove_12 : decode cX4_levelsAbove 12 = .ok (.istore 4, 2) := by decide +kernel
theorem dX4_levelsAbove_14 : decode cX4_levelsAbove 14 = .ok (.iload 4, 2) := by decide +kernel
theorem dX4_levelsAbove_16 : decode cX4_levelsAbove 16 = .ok (.bipush 32, 2) := by decide +kernel
theorem dX4_levelsAbove_18 : decode cX4_levelsAbove 18 = .ok (.if_icmp .ge 25, 3) := by decide +kernel
theorem dX4_levelsAbove_21 : decode cX4_levelsAbove 21 = .ok (.iload_n 2, 1) := by decide +kernel
theorem dX4_levelsAbove_22 : decode cX4_levelsAbove 22 = .ok (.iconst 1, 1) := by decide +kernel
theorem dX4_levelsAbove_23 : decode cX4_levelsAbove 23 = .ok (.if_icmp .le 20, 3) := by decide +kernel
theorem dX4_levelsAbove_26 : decode cX4_levelsAbove 26 = .ok (.iload_n 2, 1) := by decide +kernel
theorem dX4_levelsAbove_27 : decode cX4_levelsAbove 27 = .ok (.iload_n 1, 1) := by decide +kernel
theorem dX4_levelsAbove_28 : decode cX4_levelsAbove 28 = .ok (.iadd, 1) := by decide +kernel
theorem dX4_levelsAbove_29 : decode cX4_levelsAbove 29 = .ok (.iconst 1, 1) := by decide +kernel
theorem dX4_levelsAbove_30 : decode cX4_levelsAbove 30 = .ok (.isub, 1) := by decide +kernel
theorem dX4_levelsAbove_31 : decode cX4_levelsAbove 31 = .ok (.iload_n 1, 1) := by decide +kernel
theorem dX4_levelsAbove_32 : decode cX4_levelsAbove 32 = .ok (.idiv, 1) := by decide +kernel
theorem dX4_levelsAbove_33 : decode cX4_levelsAbove 33 = .ok (.istore_n 2, 1) := by decide +kernel
theorem dX4_levelsAbove_34 : decode cX4_levelsAbove 34 = .ok (.iinc 3 1, 3) := by decide +kernel
theorem dX4_levelsAbove_37 : decode cX4_levelsAbove 37 = .ok (.iinc 4 1, 3) := by decide +kernel
theorem dX4_levelsAbove_40 : decode cX4_levelsAbove 40 = .ok (.goto (-26), 3) := by decide +kernel
theorem dX4_levelsAbove_43 : decode cX4_levelsAbove 43 = .ok (.iload_n 3, 1) := by decide +kernel
theorem dX4_levelsAbove_44 : decode cX4_levelsAbove 44 = .ok (.ireturn, 1) := by decide +kernel
theorem dX5_init_0 : decode cX5_init 0 = .ok (.aload_n 0, 1) := by decide +kernel
theorem dX5_init_1 : decode cX5_init 1 = .ok (.invokespecial 3, 3) := by decide +kernel
theorem dX5_init_4 : decode cX5_init 4 = .ok (.aload_n 0, 1) := by decide +kernel
theorem dX5_init_5 : decode cX5_init 5 = .ok (.new 9, 3) := by decide +kernel
theorem dX5_init_8 : decode cX5_init 8 = .ok (.dup, 1) := by decide +kernel
theorem dX5_init_9 : decode cX5_init 9 = .ok (.invokespecial 11, 3) := by decide +kernel
theorem dX5_init_12 : decode cX5_init 12 = .ok (.putfield 12, 3) := by decide +kernel
theorem dX5_init_15 : decode cX5_init 15 = .ok (.aload_n 0, 1) := by decide +kernel
theorem dX5_init_16 : decode cX5_init 16 = .ok (.new 9, 3) := by decide +kernel
theorem dX5_init_19 : decode cX5_init 19 = .ok (.dup, 1) := by decide +kernel
theorem dX5_init_20 : decode cX5_init 20 = .ok (.invokespecial 11, 3) := by decide +kernel
theorem dX5_init_23 : decode cX5_init 23 = .ok (.putfield 16, 3) := by decide +kernel
theorem dX5_init_26 : decode cX5_init 26 = .ok (.aload_n 0, 1) := by decide +kernel
theorem dX5_init_27 : decode cX5_init 27 = .ok (.bipush 6, 2) := by decide +kernel
theorem dX5_init_29 : decode cX5_init 29 = .ok (.anewarray 9, 3) := by decide +kernel
theorem dX5_init_32 : decode cX5_init 32 = .ok (.putfield 19, 3) := by decide +kernel
theorem dX5_init_35 : decode cX5_init 35 = .ok (.aload_n 0, 1) := by decide +kernel
theorem dX5_init_36 : decode cX5_init 36 = .ok (.iconst 2, 1) := by decide +kernel
theorem dX5_init_37 : decode cX5_init 37 = .ok (.anewarray 9, 3) := by decide +kernel
theorem dX5_init_40 : decode cX5_init 40 = .ok (.putfield 23, 3) := by decide +kernel
theorem dX5_init_43 : decode cX5_init 43 = .ok (.aload_n 0, 1) := by decide +kernel
theorem dX5_init_44 : decode cX5_init 44 = .ok (.bipush 60, 2) := by decide +kernel
theorem dX5_init_46 : decode cX5_init 46 = .ok (.newarray .int, 2) := by decide +kernel
theorem dX5_init_48 : decode cX5_init 48 = .ok (.putfield 26, 3) := by decide +kernel
theorem dX5_init_51 : decode cX5_init 51 = .ok (.aload_n 0, 1) := by decide +kernel
theorem dX5_init_52 : decode cX5_init 52 = .ok (.new 30, 3) := by decide +kernel
theorem dX5_init_55 : decode cX5_init 55 = .ok (.dup, 1) := by decide +kernel
theorem dX5_init_56 : decode cX5_init 56 = .ok (.invokespecial 32, 3) := by decide +kernel
theorem dX5_init_59 : decode cX5_init 59 = .ok (.putfield 33, 3) := by decide +kernel
theorem dX5_init_62 : decode cX5_init 62 = .ok (.aload_n 0, 1) := by decide +kernel
theorem dX5_init_63 : decode cX5_init 63 = .ok (.new 37, 3) := by decide +kernel
theorem dX5_init_66 : decode cX5_init 66 = .ok (.dup, 1) := by decide +kernel
theorem dX5_init_67 : decode cX5_init 67 = .ok (.invokespecial 39, 3) := by decide +kernel
theorem dX5_init_70 : decode cX5_init 70 = .ok (.putfield 40, 3) := by decide +kernel
theorem dX5_init_73 : decode cX5_init 73 = .ok (.return_, 1) := by decide +kernel
theorem dX5_put_0 : decode cX5_put 0 = .ok (.iload_n 1, 1) := by decide +kernel
theorem dX5_put_1 : decode cX5_put 1 = .ok (.invokestatic 44, 3) := by decide +kernel
theorem dX5_put_4 : decode cX5_put 4 = .ok (.iload_n 2, 1) := by decide +kernel
theorem dX5_put_5 : decode cX5_put 5 = .ok (.invokestatic 48, 3) := by decide +kernel
theorem dX5_put_8 : decode cX5_put 8 = .ok (.aload_n 0, 1) := by decide +kernel
theorem dX5_put_9 : decode cX5_put 9 = .ok (.getfield 16, 3) := by decide +kernel
theorem dX5_put_12 : decode cX5_put 12 = .ok (.aload_n 0, 1) := by decide +kernel
theorem dX5_put_13 : decode cX5_put 13 = .ok (.getfield 12, 3) := by decide +kernel
theorem dX5_put_16 : decode cX5_put 16 = .ok (.invokevirtual 51, 3) := by decide +kernel
theorem dX5_put_19 : decode cX5_put 19 = .ok (.aload_n 0, 1) := by decide +kernel
theorem dX5_put_20 : decode cX5_put 20 = .ok (.aload_n 0, 1) := by decide +kernel
theorem dX5_put_21 : decode cX5_put 21 = .ok (.getfield 12, 3) := by decide +kernel
theorem dX5_put_24 : decode cX5_put 24 = .ok (.iload_n 1, 1) := by decide +kernel
theorem dX5_put_25 : decode cX5_put 25 = .ok (.iload_n 2, 1) := by decide +kernel
theorem dX5_put_26 : decode cX5_put 26 = .ok (.invokevirtual 55, 3) := by decide +kernel
theorem dX5_put_29 : decode cX5_put 29 = .ok (.invokevirtual 59, 3) := by decide +kernel
theorem dX5_put_32 : decode cX5_put 32 = .ok (.ireturn, 1) := by decide +kernel
theorem dX5_drop_0 : decode cX5_drop 0 = .ok (.iload_n 1, 1) := by decide +kernel
theorem dX5_drop_1 : decode cX5_drop 1 = .ok (.invokestatic 44, 3) := by decide +kernel
theorem dX5_drop_4 : decode cX5_drop 4 = .ok (.aload_n 0, 1) := by decide +kernel
theorem dX5_drop_5 : decode cX5_drop 5 = .ok (.getfield 16, 3) := by decide +kernel
theorem dX5_drop_8 : decode cX5_drop 8 = .ok (.aload_n 0, 1) := by decide +kernel
theorem dX5_drop_9 : decode cX5_drop 9 = .ok (.getfield 12, 3) := by decide +kernel
theorem dX5_drop_12 : decode cX5_drop 12 = .ok (.invokevirtual 51, 3) := by decide +kernel
theorem dX5_drop_15 : decode cX5_drop 15 = .ok (.aload_n 0, 1) := by decide +kernel
theorem dX5_drop_16 : decode cX5_drop 16 = .ok (.aload_n 0, 1) := by decide +kernel
theorem dX5_drop_17 : decode cX5_drop 17 = .ok (.getfield 12, 3) := by decide +kernel
theorem dX5_drop_20 : decode cX5_drop 20 = .ok (.iload_n 1, 1) := by decide +kernel
theorem dX5_drop_21 : decode cX5_drop 21 = .ok (.iconst (-1), 1) := by decide +kernel
theorem dX5_drop_22 : decode cX5_drop 22 = .ok (.invokevirtual 55, 3) := by decide +kernel
theorem dX5_drop_25 : decode cX5_drop 25 = .ok (.invokevirtual 59, 3) := by decide +kernel
theorem dX5_drop_28 : decode cX5_drop 28 = .ok (.ireturn, 1) := by decide +kernel
theorem dX5_closeRun_0 : decode cX5_closeRun 0 = .ok (.aload_n 0, 1) := by decide +kernel
theorem dX5_closeRun_1 : decode cX5_closeRun 1 = .ok (.getfield 16, 3) := by decide +kernel
theorem dX5_closeRun_4 : decode cX5_closeRun 4 = .ok (.aload_n 0, 1) := by decide +kernel
theorem dX5_closeRun_5 : decode cX5_closeRun 5 = .ok (.getfield 12, 3) := by decide +kernel
theorem dX5_closeRun_8 : decode cX5_closeRun 8 = .ok (.invokevirtual 51, 3) := by decide +kernel
theorem dX5_closeRun_11 : decode cX5_closeRun 11 = .ok (.aload_n 0, 1) := by decide +kernel
theorem dX5_closeRun_12 : decode cX5_closeRun 12 = .ok (.aload_n 0, 1) := by decide +kernel
theorem dX5_closeRun_13 : decode cX5_closeRun 13 = .ok (.getfield 12, 3) := by decide +kernel
theorem dX5_closeRun_16 : decode cX5_closeRun 16 = .ok (.invokevirtual 63, 3) := by decide +kernel
theorem dX5_closeRun_19 : decode cX5_closeRun 19 = .ok (.invokevirtual 59, 3) := by decide +kernel
theorem dX5_closeRun_22 : decode cX5_closeRun 22 = .ok (.ireturn, 1) := by decide +kernel
theorem dX5_mergeRuns_0 : decode cX5_mergeRuns 0 = .ok (.aload_n 0, 1) := by decide +kernel
theorem dX5_mergeRuns_1 : decode cX5_mergeRuns 1 = .ok (.getfield 16, 3) := by decide +kernel
theorem dX5_mergeRuns_4 : decode cX5_mergeRuns 4 = .ok (.aload_n 0, 1) := by decide +kernel
theorem dX5_mergeRuns_5 : decode cX5_mergeRuns 5 = .ok (.getfield 12, 3) := by decide +kernel
theorem dX5_mergeRuns_8 : decode cX5_mergeRuns 8 = .ok (.invokevirtual 51, 3) := by decide +kernel
theorem dX5_mergeRuns_11 : decode cX5_mergeRuns 11 = .ok (.aload_n 0, 1) := by decide +kernel
theorem dX5_mergeRuns_12 : decode cX5_mergeRuns 12 = .ok (.aload_n 0, 1) := by decide +kernel
theorem dX5_mergeRuns_13 : decode cX5_mergeRuns 13 = .ok (.getfield 12, 3) := by decide +kernel
theorem dX5_mergeRuns_16 : decode cX5_mergeRuns 16 = .ok (.aload_n 0, 1) := by decide +kernel
theorem dX5_mergeRuns_17 : decode cX5_mergeRuns 17 = .ok (.getfield 40, 3) := by decide +kernel
theorem dX5_mergeRuns_20 : decode cX5_mergeRuns 20 = .ok (.invokevirtual 67, 3) := by decide +kernel
theorem dX5_mergeRuns_23 : decode cX5_mergeRuns 23 = .ok (.invokevirtual 59, 3) := by decide +kernel
theorem dX5_mergeRuns_26 : decode cX5_mergeRuns 26 = .ok (.ireturn, 1) := by decide +kernel
theorem dX5_build_0 : decode cX5_build 0 = .ok (.iload_n 1, 1) := by decide +kernel
theorem dX5_build_1 : decode cX5_build 1 = .ok (.invokestatic 71, 3) := by decide +kernel
theorem dX5_build_4 : decode cX5_build 4 = .ok (.aload_n 0, 1) := by decide +kernel
theorem dX5_build_5 : decode cX5_build 5 = .ok (.getfield 16, 3) := by decide +kernel
theorem dX5_build_8 : decode cX5_build 8 = .ok (.aload_n 0, 1) := by decide +kernel
theorem dX5_build_9 : decode cX5_build 9 = .ok (.getfield 12, 3) := by decide +kernel
theorem dX5_build_12 : decode cX5_build 12 = .ok (.invokevirtual 51, 3) := by decide +kernel
theorem dX5_build_15 : decode cX5_build 15 = .ok (.aload_n 0, 1) := by decide +kernel
theorem dX5_build_16 : decode cX5_build 16 = .ok (.aload_n 0, 1) := by decide +kernel
theorem dX5_build_17 : decode cX5_build 17 = .ok (.getfield 12, 3) := by decide +kernel
theorem dX5_build_20 : decode cX5_build 20 = .ok (.iload_n 1, 1) := by decide +kernel
theorem dX5_build_21 : decode cX5_build 21 = .ok (.aload_n 0, 1) := by decide +kernel
theorem dX5_build_22 : decode cX5_build 22 = .ok (.getfield 40, 3) := by decide +kernel
theorem dX5_build_25 : decode cX5_build 25 = .ok (.invokevirtual 74, 3) := by decide +kernel
theorem dX5_build_28 : decode cX5_build 28 = .ok (.invokevirtual 59, 3) := by decide +kernel
theorem dX5_build_31 : decode cX5_build 31 = .ok (.ireturn, 1) := by decide +kernel
theorem dX5_insert_0 : decode cX5_insert 0 = .ok (.iload_n 1, 1) := by decide +kernel
theorem dX5_insert_1 : decode cX5_insert 1 = .ok (.invokestatic 44, 3) := by decide +kernel
theorem dX5_insert_4 : decode cX5_insert 4 = .ok (.iload_n 2, 1) := by decide +kernel
theorem dX5_insert_5 : decode cX5_insert 5 = .ok (.invokestatic 48, 3) := by decide +kernel
theorem dX5_insert_8 : decode cX5_insert 8 = .ok (.aload_n 0, 1) := by decide +kernel
theorem dX5_insert_9 : decode cX5_insert 9 = .ok (.getfield 16, 3) := by decide +kernel
theorem dX5_insert_12 : decode cX5_insert 12 = .ok (.aload_n 0, 1) := by decide +kernel
theorem dX5_insert_13 : decode cX5_insert 13 = .ok (.getfield 12, 3) := by decide +kernel
theorem dX5_insert_16 : decode cX5_insert 16 = .ok (.invokevirtual 51, 3) := by decide +kernel
theorem dX5_insert_19 : decode cX5_insert 19 = .ok (.aload_n 0, 1) := by decide +kernel
theorem dX5_insert_20 : decode cX5_insert 20 = .ok (.aload_n 0, 1) := by decide +kernel
theorem dX5_insert_21 : decode cX5_insert 21 = .ok (.getfield 12, 3) := by decide +kernel
theorem dX5_insert_24 : decode cX5_insert 24 = .ok (.iload_n 1, 1) := by decide +kernel
theorem dX5_insert_25 : decode cX5_insert 25 = .ok (.iload_n 2, 1) := by decide +kernel
theorem dX5_insert_26 : decode cX5_insert 26 = .ok (.invokevirtual 78, 3) := by decide +kernel
theorem dX5_insert_29 : decode cX5_insert 29 = .ok (.invokevirtual 59, 3) := by decide +kernel
theorem dX5_insert_32 : decode cX5_insert 32 = .ok (.ireturn, 1) := by decide +kernel
theorem dX5_erase_0 : decode cX5_erase 0 = .ok (.iload_n 1, 1) := by decide +kernel
theorem dX5_erase_1 : decode cX5_erase 1 = .ok (.invokestatic 44, 3) := by decide +kernel
theorem dX5_erase_4 : decode cX5_erase 4 = .ok (.aload_n 0, 1) := by decide +kernel
theorem dX5_erase_5 : decode cX5_erase 5 = .ok (.getfield 16, 3) := by decide +kernel
theorem dX5_erase_8 : decode cX5_erase 8 = .ok (.aload_n 0, 1) := by decide +kernel
theorem dX5_erase_9 : decode cX5_erase 9 = .ok (.getfield 12, 3) := by decide +kernel
theorem dX5_erase_12 : decode cX5_erase 12 = .ok (.invokevirtual 51, 3) := by decide +kernel
theorem dX5_erase_15 : decode cX5_erase 15 = .ok (.aload_n 0, 1) := by decide +kernel
theorem dX5_erase_16 : decode cX5_erase 16 = .ok (.aload_n 0, 1) := by decide +kernel
theorem dX5_erase_17 : decode cX5_erase 17 = .ok (.getfield 12, 3) := by decide +kernel
theorem dX5_erase_20 : decode cX5_erase 20 = .ok (.iload_n 1, 1) := by decide +kernel
theorem dX5_erase_21 : decode cX5_erase 21 = .ok (.invokevirtual 81, 3) := by decide +kernel
theorem dX5_erase_24 : decode cX5_erase 24 = .ok (.invokevirtual 59, 3) := by decide +kernel
theorem dX5_erase_27 : decode cX5_erase 27 = .ok (.ireturn, 1) := by decide +kernel
theorem dX5_changeLeaf_0 : decode cX5_changeLeaf 0 = .ok (.iload_n 1, 1) := by decide +kernel
theorem dX5_changeLeaf_1 : decode cX5_changeLeaf 1 = .ok (.iconst 2, 1) := by decide +kernel
theorem dX5_changeLeaf_2 : decode cX5_changeLeaf 2 = .ok (.if_icmp .lt 9, 3) := by decide +kernel
theorem dX5_changeLeaf_5 : decode cX5_changeLeaf 5 = .ok (.iload_n 1, 1) := by decide +kernel
theorem dX5_changeLeaf_6 : decode cX5_changeLeaf 6 = .ok (.bipush 8, 2) := by decide +kernel
theorem dX5_changeLeaf_8 : decode cX5_changeLeaf 8 = .ok (.if_icmp .le 13, 3) := by decide +kernel
theorem dX5_changeLeaf_11 : decode cX5_changeLeaf 11 = .ok (.new 84, 3) := by decide +kernel
theorem dX5_changeLeaf_14 : decode cX5_changeLeaf 14 = .ok (.dup, 1) := by decide +kernel
theorem dX5_changeLeaf_15 : decode cX5_changeLeaf 15 = .ok (.ldc 86, 2) := by decide +kernel
theorem dX5_changeLeaf_17 : decode cX5_changeLeaf 17 = .ok (.invokespecial 88, 3) := by decide +kernel
theorem dX5_changeLeaf_20 : decode cX5_changeLeaf 20 = .ok (.athrow, 1) := by decide +kernel
theorem dX5_changeLeaf_21 : decode cX5_changeLeaf 21 = .ok (.aload_n 0, 1) := by decide +kernel
theorem dX5_changeLeaf_22 : decode cX5_changeLeaf 22 = .ok (.getfield 16, 3) := by decide +kernel
theorem dX5_changeLeaf_25 : decode cX5_changeLeaf 25 = .ok (.aload_n 0, 1) := by decide +kernel
theorem dX5_changeLeaf_26 : decode cX5_changeLeaf 26 = .ok (.getfield 12, 3) := by decide +kernel
theorem dX5_changeLeaf_29 : decode cX5_changeLeaf 29 = .ok (.invokevirtual 51, 3) := by decide +kernel
theorem dX5_changeLeaf_32 : decode cX5_changeLeaf 32 = .ok (.aload_n 0, 1) := by decide +kernel
theorem dX5_changeLeaf_33 : decode cX5_changeLeaf 33 = .ok (.getfield 12, 3) := by decide +kernel
theorem dX5_changeLeaf_36 : decode cX5_changeLeaf 36 = .ok (.getfield 91, 3) := by decide +kernel
theorem dX5_changeLeaf_39 : decode cX5_changeLeaf 39 = .ok (.istore_n 2, 1) := by decide +kernel
theorem dX5_changeLeaf_40 : decode cX5_changeLeaf 40 = .ok (.aload_n 0, 1) := by decide +kernel
theorem dX5_changeLeaf_41 : decode cX5_changeLeaf 41 = .ok (.getfield 12, 3) := by decide +kernel
theorem dX5_changeLeaf_44 : decode cX5_changeLeaf 44 = .ok (.iload_n 1, 1) := by decide +kernel
theorem dX5_changeLeaf_45 : decode cX5_changeLeaf 45 = .ok (.putfield 91, 3) := by decide +kernel
theorem dX5_changeLeaf_48 : decode cX5_changeLeaf 48 = .ok (.aload_n 0, 1) := by decide +kernel
theorem dX5_changeLeaf_49 : decode cX5_changeLeaf 49 = .ok (.invokevirtual 95, 3) := by decide +kernel
theorem dX5_changeLeaf_52 : decode cX5_changeLeaf 52 = .ok (.iload_n 2, 1) := by decide +kernel
theorem dX5_changeLeaf_53 : decode cX5_changeLeaf 53 = .ok (.ireturn, 1) := by decide +kernel
theorem dX5_changeFan_0 : decode cX5_changeFan 0 = .ok (.iload_n 1, 1) := by decide +kernel
theorem dX5_changeFan_1 : decode cX5_changeFan 1 = .ok (.iconst 2, 1) := by decide +kernel
theorem dX5_changeFan_2 : decode cX5_changeFan 2 = .ok (.if_icmp .lt 9, 3) := by decide +kernel
theorem dX5_changeFan_5 : decode cX5_changeFan 5 = .ok (.iload_n 1, 1) := by decide +kernel
theorem dX5_changeFan_6 : decode cX5_changeFan 6 = .ok (.bipush 6, 2) := by decide +kernel
theorem dX5_changeFan_8 : decode cX5_changeFan 8 = .ok (.if_icmp .le 13, 3) := by decide +kernel
theorem dX5_changeFan_11 : decode cX5_changeFan 11 = .ok (.new 84, 3) := by decide +kernel
theorem dX5_changeFan_14 : decode cX5_changeFan 14 = .ok (.dup, 1) := by decide +kernel
theorem dX5_changeFan_15 : decode cX5_changeFan 15 = .ok (.ldc 98, 2) := by decide +kernel
theorem dX5_changeFan_17 : decode cX5_changeFan 17 = .ok (.invokespecial 88, 3) := by decide +kernel
theorem dX5_changeFan_20 : decode cX5_changeFan 20 = .ok (.athrow, 1) := by decide +kernel
theorem dX5_changeFan_21 : decode cX5_changeFan 21 = .ok (.aload_n 0, 1) := by decide +kernel
theorem dX5_changeFan_22 : decode cX5_changeFan 22 = .ok (.getfield 16, 3) := by decide +kernel
theorem dX5_changeFan_25 : decode cX5_changeFan 25 = .ok (.aload_n 0, 1) := by decide +kernel
theorem dX5_changeFan_26 : decode cX5_changeFan 26 = .ok (.getfield 12, 3) := by decide +kernel
theorem dX5_changeFan_29 : decode cX5_changeFan 29 = .ok (.invokevirtual 51, 3) := by decide +kernel
theorem dX5_changeFan_32 : decode cX5_changeFan 32 = .ok (.aload_n 0, 1) := by decide +kernel
theorem dX5_changeFan_33 : decode cX5_changeFan 33 = .ok (.getfield 12, 3) := by decide +kernel
theorem dX5_changeFan_36 : decode cX5_changeFan 36 = .ok (.getfield 100, 3) := by decide +kernel
theorem dX5_changeFan_39 : decode cX5_changeFan 39 = .ok (.istore_n 2, 1) := by decide +kernel
theorem dX5_changeFan_40 : decode cX5_changeFan 40 = .ok (.aload_n 0, 1) := by decide +kernel
theorem dX5_changeFan_41 : decode cX5_changeFan 41 = .ok (.getfield 12, 3) := by decide +kernel
theorem dX5_changeFan_44 : decode cX5_changeFan 44 = .ok (.iload_n 1, 1) := by decide +kernel
theorem dX5_changeFan_45 : decode cX5_changeFan 45 = .ok (.putfield 100, 3) := by decide +kernel
theorem dX5_changeFan_48 : decode cX5_changeFan 48 = .ok (.aload_n 0, 1) := by decide +kernel
theorem dX5_changeFan_49 : decode cX5_changeFan 49 = .ok (.invokevirtual 95, 3) := by decide +kernel
theorem dX5_changeFan_52 : decode cX5_changeFan 52 = .ok (.iload_n 2, 1) := by decide +kernel
theorem dX5_changeFan_53 : decode cX5_changeFan 53 = .ok (.ireturn, 1) := by decide +kernel
theorem dX5_append_0 : decode cX5_append 0 = .ok (.iload_n 1, 1) := by decide +kernel
theorem dX5_append_1 : decode cX5_append 1 = .ok (.bipush 33, 2) := by decide +kernel
theorem dX5_append_3 : decode cX5_append 3 = .ok (.if_icmp .lt 9, 3) := by decide +kernel
theorem dX5_append_6 : decode cX5_append 6 = .ok (.iload_n 1, 1) := by decide +kernel
theorem dX5_append_7 : decode cX5_append 7 = .ok (.bipush 126, 2) := by decide +kernel
theorem dX5_append_9 : decode cX5_append 9 = .ok (.if_icmp .le 13, 3) := by decide +kernel
theorem dX5_append_12 : decode cX5_append 12 = .ok (.new 84, 3) := by decide +kernel
theorem dX5_append_15 : decode cX5_append 15 = .ok (.dup, 1) := by decide +kernel
theorem dX5_append_16 : decode cX5_append 16 = .ok (.ldc 103, 2) := by decide +kernel
theorem dX5_append_18 : decode cX5_append 18 = .ok (.invokespecial 88, 3) := by decide +kernel
theorem dX5_append_21 : decode cX5_append 21 = .ok (.athrow, 1) := by decide +kernel
theorem dX5_append_22 : decode cX5_append 22 = .ok (.aload_n 0, 1) := by decide +kernel
theorem dX5_append_23 : decode cX5_append 23 = .ok (.getfield 105, 3) := by decide +kernel
theorem dX5_append_26 : decode cX5_append 26 = .ok (.ifCond .lt 15, 3) := by decide +kernel
theorem dX5_append_29 : decode cX5_append 29 = .ok (.aload_n 0, 1) := by decide +kernel
theorem dX5_append_30 : decode cX5_append 30 = .ok (.getfield 105, 3) := by decide +kernel
theorem dX5_append_33 : decode cX5_append 33 = .ok (.aload_n 0, 1) := by decide +kernel
theorem dX5_append_34 : decode cX5_append 34 = .ok (.getfield 26, 3) := by decide +kernel
theorem dX5_append_37 : decode cX5_append 37 = .ok (.arraylength, 1) := by decide +kernel
theorem dX5_append_38 : decode cX5_append 38 = .ok (.if_icmp .lt 13, 3) := by decide +kernel
theorem dX5_append_41 : decode cX5_append 41 = .ok (.new 108, 3) := by decide +kernel
theorem dX5_append_44 : decode cX5_append 44 = .ok (.dup, 1) := by decide +kernel
theorem dX5_append_45 : decode cX5_append 45 = .ok (.ldc 110, 2) := by decide +kernel
theorem dX5_append_47 : decode cX5_append 47 = .ok (.invokespecial 112, 3) := by decide +kernel
theorem dX5_append_50 : decode cX5_append 50 = .ok (.athrow, 1) := by decide +kernel
theorem dX5_append_51 : decode cX5_append 51 = .ok (.aload_n 0, 1) := by decide +kernel
theorem dX5_append_52 : decode cX5_append 52 = .ok (.getfield 26, 3) := by decide +kernel
theorem dX5_append_55 : decode cX5_append 55 = .ok (.aload_n 0, 1) := by decide +kernel
theorem dX5_append_56 : decode cX5_append 56 = .ok (.getfield 105, 3) := by decide +kernel
theorem dX5_append_59 : decode cX5_append 59 = .ok (.iload_n 1, 1) := by decide +kernel
theorem dX5_append_60 : decode cX5_append 60 = .ok (.iastore, 1) := by decide +kernel
theorem dX5_append_61 : decode cX5_append 61 = .ok (.aload_n 0, 1) := by decide +kernel
theorem dX5_append_62 : decode cX5_append 62 = .ok (.dup, 1) := by decide +kernel
theorem dX5_append_63 : decode cX5_append 63 = .ok (.getfield 105, 3) := by decide +kernel
theorem dX5_append_66 : decode cX5_append 66 = .ok (.iconst 1, 1) := by decide +kernel
theorem dX5_append_67 : decode cX5_append 67 = .ok (.iadd, 1) := by decide +kernel
theorem dX5_append_68 : decode cX5_append 68 = .ok (.putfield 105, 3) := by decide +kernel
theorem dX5_append_71 : decode cX5_append 71 = .ok (.aload_n 0, 1) := by decide +kernel
theorem dX5_append_72 : decode cX5_append 72 = .ok (.getfield 105, 3) := by decide +kernel
theorem dX5_append_75 : decode cX5_append 75 = .ok (.ireturn, 1) := by decide +kernel
theorem dX5_clearBuffer_0 : decode cX5_clearBuffer 0 = .ok (.aload_n 0, 1) := by decide +kernel
theorem dX5_clearBuffer_1 : decode cX5_clearBuffer 1 = .ok (.getfield 105, 3) := by decide +kernel
theorem dX5_clearBuffer_4 : decode cX5_clearBuffer 4 = .ok (.istore_n 1, 1) := by decide +kernel
theorem dX5_clearBuffer_5 : decode cX5_clearBuffer 5 = .ok (.aload_n 0, 1) := by decide +kernel
theorem dX5_clearBuffer_6 : decode cX5_clearBuffer 6 = .ok (.iconst 0, 1) := by decide +kernel
theorem dX5_clearBuffer_7 : decode cX5_clearBuffer 7 = .ok (.putfield 105, 3) := by decide +kernel
theorem dX5_clearBuffer_10 : decode cX5_clearBuffer 10 = .ok (.iload_n 1, 1) := by decide +kernel
theorem dX5_clearBuffer_11 : decode cX5_clearBuffer 11 = .ok (.ireturn, 1) := by decide +kernel
theorem dX5_firstError_0 : decode cX5_firstError 0 = .ok (.aload_n 0, 1) := by decide +kernel
theorem dX5_firstError_1 : decode cX5_firstError 1 = .ok (.getfield 33, 3) := by decide +kernel
theorem dX5_firstError_4 : decode cX5_firstError 4 = .ok (.aload_n 0, 1) := by decide +kernel
theorem dX5_firstError_5 : decode cX5_firstError 5 = .ok (.getfield 26, 3) := by decide +kernel
theorem dX5_firstError_8 : decode cX5_firstError 8 = .ok (.aload_n 0, 1) := by decide +kernel
theorem dX5_firstError_9 : decode cX5_firstError 9 = .ok (.getfield 105, 3) := by decide +kernel
theorem dX5_firstError_12 : decode cX5_firstError 12 = .ok (.invokevirtual 113, 3) := by decide +kernel
theorem dX5_firstError_15 : decode cX5_firstError 15 = .ok (.ireturn, 1) := by decide +kernel
theorem dX5_follow_0 : decode cX5_follow 0 = .ok (.aload_n 0, 1) := by decide +kernel
theorem dX5_follow_1 : decode cX5_follow 1 = .ok (.getfield 33, 3) := by decide +kernel
theorem dX5_follow_4 : decode cX5_follow 4 = .ok (.aload_n 0, 1) := by decide +kernel
theorem dX5_follow_5 : decode cX5_follow 5 = .ok (.getfield 26, 3) := by decide +kernel
theorem dX5_follow_8 : decode cX5_follow 8 = .ok (.aload_n 0, 1) := by decide +kernel
theorem dX5_follow_9 : decode cX5_follow 9 = .ok (.getfield 105, 3) := by decide +kernel
theorem dX5_follow_12 : decode cX5_follow 12 = .ok (.invokevirtual 117, 3) := by decide +kernel
theorem dX5_follow_15 : decode cX5_follow 15 = .ok (.ifCond .ne 13, 3) := by decide +kernel
theorem dX5_follow_18 : decode cX5_follow 18 = .ok (.new 84, 3) := by decide +kernel
theorem dX5_follow_21 : decode cX5_follow 21 = .ok (.dup, 1) := by decide +kernel
theorem dX5_follow_22 : decode cX5_follow 22 = .ok (.ldc 121, 2) := by decide +kernel
theorem dX5_follow_24 : decode cX5_follow 24 = .ok (.invokespecial 88, 3) := by decide +kernel
theorem dX5_follow_27 : decode cX5_follow 27 = .ok (.athrow, 1) := by decide +kernel
theorem dX5_follow_28 : decode cX5_follow 28 = .ok (.aload_n 0, 1) := by decide +kernel
theorem dX5_follow_29 : decode cX5_follow 29 = .ok (.getfield 16, 3) := by decide +kernel
theorem dX5_follow_32 : decode cX5_follow 32 = .ok (.aload_n 0, 1) := by decide +kernel
theorem dX5_follow_33 : decode cX5_follow 33 = .ok (.getfield 12, 3) := by decide +kernel
theorem dX5_follow_36 : decode cX5_follow 36 = .ok (.invokevirtual 51, 3) := by decide +kernel
theorem dX5_follow_39 : decode cX5_follow 39 = .ok (.aload_n 0, 1) := by decide +kernel
theorem dX5_follow_40 : decode cX5_follow 40 = .ok (.invokevirtual 123, 3) := by decide +kernel
theorem dX5_follow_43 : decode cX5_follow 43 = .ok (.ifCond .ne 24, 3) := by decide +kernel
theorem dX5_follow_46 : decode cX5_follow 46 = .ok (.aload_n 0, 1) := by decide +kernel
theorem dX5_follow_47 : decode cX5_follow 47 = .ok (.getfield 12, 3) := by decide +kernel
theorem dX5_follow_50 : decode cX5_follow 50 = .ok (.aload_n 0, 1) := by decide +kernel
theorem dX5_follow_51 : decode cX5_follow 51 = .ok (.getfield 16, 3) := by decide +kernel
theorem dX5_follow_54 : decode cX5_follow 54 = .ok (.invokevirtual 51, 3) := by decide +kernel
theorem dX5_follow_57 : decode cX5_follow 57 = .ok (.new 108, 3) := by decide +kernel
theorem dX5_follow_60 : decode cX5_follow 60 = .ok (.dup, 1) := by decide +kernel
theorem dX5_follow_61 : decode cX5_follow 61 = .ok (.ldc 127, 2) := by decide +kernel
theorem dX5_follow_63 : decode cX5_follow 63 = .ok (.invokespecial 112, 3) := by decide +kernel
theorem dX5_follow_66 : decode cX5_follow 66 = .ok (.athrow, 1) := by decide +kernel
theorem dX5_follow_67 : decode cX5_follow 67 = .ok (.aload_n 0, 1) := by decide +kernel
theorem dX5_follow_68 : decode cX5_follow 68 = .ok (.invokevirtual 95, 3) := by decide +kernel
theorem dX5_follow_71 : decode cX5_follow 71 = .ok (.aload_n 0, 1) := by decide +kernel
theorem dX5_follow_72 : decode cX5_follow 72 = .ok (.iconst 0, 1) := by decide +kernel
theorem dX5_follow_73 : decode cX5_follow 73 = .ok (.putfield 105, 3) := by decide +kernel
theorem dX5_follow_76 : decode cX5_follow 76 = .ok (.aload_n 0, 1) := by decide +kernel
theorem dX5_follow_77 : decode cX5_follow 77 = .ok (.getfield 40, 3) := by decide +kernel
theorem dX5_follow_80 : decode cX5_follow 80 = .ok (.aload_n 0, 1) := by decide +kernel
theorem dX5_follow_81 : decode cX5_follow 81 = .ok (.getfield 12, 3) := by decide +kernel
theorem dX5_follow_84 : decode cX5_follow 84 = .ok (.invokevirtual 129, 3) := by decide +kernel
theorem dX5_follow_87 : decode cX5_follow 87 = .ok (.getfield 133, 3) := by decide +kernel
theorem dX5_follow_90 : decode cX5_follow 90 = .ok (.ireturn, 1) := by decide +kernel
theorem dX5_keep_0 : decode cX5_keep 0 = .ok (.iload_n 1, 1) := by decide +kernel
theorem dX5_keep_1 : decode cX5_keep 1 = .ok (.invokestatic 138, 3) := by decide +kernel
theorem dX5_keep_4 : decode cX5_keep 4 = .ok (.aload_n 0, 1) := by decide +kernel
theorem dX5_keep_5 : decode cX5_keep 5 = .ok (.iload_n 1, 1) := by decide +kernel
theorem dX5_keep_6 : decode cX5_keep 6 = .ok (.invokevirtual 141, 3) := by decide +kernel
theorem dX5_keep_9 : decode cX5_keep 9 = .ok (.astore_n 2, 1) := by decide +kernel
theorem dX5_keep_10 : decode cX5_keep 10 = .ok (.aload_n 2, 1) := by decide +kernel
theorem dX5_keep_11 : decode cX5_keep 11 = .ok (.ifnonnull 17, 3) := by decide +kernel
theorem dX5_keep_14 : decode cX5_keep 14 = .ok (.new 9, 3) := by decide +kernel
theorem dX5_keep_17 : decode cX5_keep 17 = .ok (.dup, 1) := by decide +kernel
theorem dX5_keep_18 : decode cX5_keep 18 = .ok (.invokespecial 11, 3) := by decide +kernel
theorem dX5_keep_21 : decode cX5_keep 21 = .ok (.astore_n 2, 1) := by decide +kernel
theorem dX5_keep_22 : decode cX5_keep 22 = .ok (.aload_n 0, 1) := by decide +kernel
theorem dX5_keep_23 : decode cX5_keep 23 = .ok (.iload_n 1, 1) := by decide +kernel
theorem dX5_keep_24 : decode cX5_keep 24 = .ok (.aload_n 2, 1) := by decide +kernel
theorem dX5_keep_25 : decode cX5_keep 25 = .ok (.invokevirtual 145, 3) := by decide +kernel
theorem dX5_keep_28 : decode cX5_keep 28 = .ok (.aload_n 2, 1) := by decide +kernel
theorem dX5_keep_29 : decode cX5_keep 29 = .ok (.aload_n 0, 1) := by decide +kernel
theorem dX5_keep_30 : decode cX5_keep 30 = .ok (.getfield 12, 3) := by decide +kernel
theorem dX5_keep_33 : decode cX5_keep 33 = .ok (.invokevirtual 51, 3) := by decide +kernel
theorem dX5_keep_36 : decode cX5_keep 36 = .ok (.return_, 1) := by decide +kernel
theorem dX5_goBack_0 : decode cX5_goBack 0 = .ok (.iload_n 1, 1) := by decide +kernel
theorem dX5_goBack_1 : decode cX5_goBack 1 = .ok (.invokestatic 138, 3) := by decide +kernel
theorem dX5_goBack_4 : decode cX5_goBack 4 = .ok (.aload_n 0, 1) := by decide +kernel
theorem dX5_goBack_5 : decode cX5_goBack 5 = .ok (.iload_n 1, 1) := by decide +kernel
theorem dX5_goBack_6 : decode cX5_goBack 6 = .ok (.invokevirtual 141, 3) := by decide +kernel
theorem dX5_goBack_9 : decode cX5_goBack 9 = .ok (.astore_n 2, 1) := by decide +kernel
theorem dX5_goBack_10 : decode cX5_goBack 10 = .ok (.aload_n 2, 1) := by decide +kernel
theorem dX5_goBack_11 : decode cX5_goBack 11 = .ok (.ifnonnull 13, 3) := by decide +kernel
theorem dX5_goBack_14 : decode cX5_goBack 14 = .ok (.new 108, 3) := by decide +kernel
theorem dX5_goBack_17 : decode cX5_goBack 17 = .ok (.dup, 1) := by decide +kernel
theorem dX5_goBack_18 : decode cX5_goBack 18 = .ok (.ldc 149, 2) := by decide +kernel
theorem dX5_goBack_20 : decode cX5_goBack 20 = .ok (.invokespecial 112, 3) := by decide +kernel
theorem dX5_goBack_23 : decode cX5_goBack 23 = .ok (.athrow, 1) := by decide +kernel
theorem dX5_goBack_24 : decode cX5_goBack 24 = .ok (.aload_n 0, 1) := by decide +kernel
theorem dX5_goBack_25 : decode cX5_goBack 25 = .ok (.getfield 16, 3) := by decide +kernel
theorem dX5_goBack_28 : decode cX5_goBack 28 = .ok (.aload_n 0, 1) := by decide +kernel
theorem dX5_goBack_29 : decode cX5_goBack 29 = .ok (.getfield 12, 3) := by decide +kernel
theorem dX5_goBack_32 : decode cX5_goBack 32 = .ok (.invokevirtual 51, 3) := by decide +kernel
theorem dX5_goBack_35 : decode cX5_goBack 35 = .ok (.aload_n 0, 1) := by decide +kernel
theorem dX5_goBack_36 : decode cX5_goBack 36 = .ok (.getfield 12, 3) := by decide +kernel
theorem dX5_goBack_39 : decode cX5_goBack 39 = .ok (.aload_n 2, 1) := by decide +kernel
theorem dX5_goBack_40 : decode cX5_goBack 40 = .ok (.invokevirtual 51, 3) := by decide +kernel
theorem dX5_goBack_43 : decode cX5_goBack 43 = .ok (.aload_n 0, 1) := by decide +kernel
theorem dX5_goBack_44 : decode cX5_goBack 44 = .ok (.invokevirtual 95, 3) := by decide +kernel
theorem dX5_goBack_47 : decode cX5_goBack 47 = .ok (.return_, 1) := by decide +kernel
theorem dX5_undo_0 : decode cX5_undo 0 = .ok (.aload_n 0, 1) := by decide +kernel
theorem dX5_undo_1 : decode cX5_undo 1 = .ok (.invokevirtual 151, 3) := by decide +kernel
theorem dX5_undo_4 : decode cX5_undo 4 = .ok (.astore_n 1, 1) := by decide +kernel
theorem dX5_undo_5 : decode cX5_undo 5 = .ok (.aload_n 1, 1) := by decide +kernel
theorem dX5_undo_6 : decode cX5_undo 6 = .ok (.ifnonnull 13, 3) := by decide +kernel
theorem dX5_undo_9 : decode cX5_undo 9 = .ok (.new 108, 3) := by decide +kernel
theorem dX5_undo_12 : decode cX5_undo 12 = .ok (.dup, 1) := by decide +kernel
theorem dX5_undo_13 : decode cX5_undo 13 = .ok (.ldc 155, 2) := by decide +kernel
theorem dX5_undo_15 : decode cX5_undo 15 = .ok (.invokespecial 112, 3) := by decide +kernel
theorem dX5_undo_18 : decode cX5_undo 18 = .ok (.athrow, 1) := by decide +kernel
theorem dX5_undo_19 : decode cX5_undo 19 = .ok (.aload_n 0, 1) := by decide +kernel
theorem dX5_undo_20 : decode cX5_undo 20 = .ok (.getfield 12, 3) := by decide +kernel
theorem dX5_undo_23 : decode cX5_undo 23 = .ok (.aload_n 1, 1) := by decide +kernel
theorem dX5_undo_24 : decode cX5_undo 24 = .ok (.invokevirtual 51, 3) := by decide +kernel
theorem dX5_undo_27 : decode cX5_undo 27 = .ok (.aload_n 0, 1) := by decide +kernel
theorem dX5_undo_28 : decode cX5_undo 28 = .ok (.dup, 1) := by decide +kernel
theorem dX5_undo_29 : decode cX5_undo 29 = .ok (.getfield 157, 3) := by decide +kernel
theorem dX5_undo_32 : decode cX5_undo 32 = .ok (.iconst 1, 1) := by decide +kernel
theorem dX5_undo_33 : decode cX5_undo 33 = .ok (.isub, 1) := by decide +kernel
theorem dX5_undo_34 : decode cX5_undo 34 = .ok (.putfield 157, 3) := by decide +kernel
theorem dX5_undo_37 : decode cX5_undo 37 = .ok (.return_, 1) := by decide +kernel
theorem dX5_savedStates_0 : decode cX5_savedStates 0 = .ok (.aload_n 0, 1) := by decide +kernel
theorem dX5_savedStates_1 : decode cX5_savedStates 1 = .ok (.getfield 157, 3) := by decide +kernel
theorem dX5_savedStates_4 : decode cX5_savedStates 4 = .ok (.ireturn, 1) := by decide +kernel
theorem dX5_isFoundByTree_0 : decode cX5_isFoundByTree 0 = .ok (.iload_n 1, 1) := by decide +kernel
theorem dX5_isFoundByTree_1 : decode cX5_isFoundByTree 1 = .ok (.invokestatic 44, 3) := by decide +kernel
theorem dX5_isFoundByTree_4 : decode cX5_isFoundByTree 4 = .ok (.aload_n 0, 1) := by decide +kernel
theorem dX5_isFoundByTree_5 : decode cX5_isFoundByTree 5 = .ok (.getfield 12, 3) := by decide +kernel
theorem dX5_isFoundByTree_8 : decode cX5_isFoundByTree 8 = .ok (.iload_n 1, 1) := by decide +kernel
theorem dX5_isFoundByTree_9 : decode cX5_isFoundByTree 9 = .ok (.invokevirtual 160, 3) := by decide +kernel
theorem dX5_isFoundByTree_12 : decode cX5_isFoundByTree 12 = .ok (.iconst (-1), 1) := by decide +kernel
theorem dX5_isFoundByTree_13 : decode cX5_isFoundByTree 13 = .ok (.if_icmp .eq 7, 3) := by decide +kernel
theorem dX5_isFoundByTree_16 : decode cX5_isFoundByTree 16 = .ok (.iconst 1, 1) := by decide +kernel
theorem dX5_isFoundByTree_17 : decode cX5_isFoundByTree 17 = .ok (.goto 4, 3) := by decide +kernel
theorem dX5_isFoundByTree_20 : decode cX5_isFoundByTree 20 = .ok (.iconst 0, 1) := by decide +kernel
theorem dX5_isFoundByTree_21 : decode cX5_isFoundByTree 21 = .ok (.ireturn, 1) := by decide +kernel
theorem dX5_isFoundByGoing_0 : decode cX5_isFoundByGoing 0 = .ok (.iload_n 1, 1) := by decide +kernel
theorem dX5_isFoundByGoing_1 : decode cX5_isFoundByGoing 1 = .ok (.invokestatic 44, 3) := by decide +kernel
theorem dX5_isFoundByGoing_4 : decode cX5_isFoundByGoing 4 = .ok (.aload_n 0, 1) := by decide +kernel
theorem dX5_isFoundByGoing_5 : decode cX5_isFoundByGoing 5 = .ok (.getfield 12, 3) := by decide +kernel
theorem dX5_isFoundByGoing_8 : decode cX5_isFoundByGoing 8 = .ok (.iload_n 1, 1) := by decide +kernel
theorem dX5_isFoundByGoing_9 : decode cX5_isFoundByGoing 9 = .ok (.invokevirtual 163, 3) := by decide +kernel
theorem dX5_isFoundByGoing_12 : decode cX5_isFoundByGoing 12 = .ok (.ireturn, 1) := by decide +kernel
theorem dX5_valueOf_0 : decode cX5_valueOf 0 = .ok (.iload_n 1, 1) := by decide +kernel
theorem dX5_valueOf_1 : decode cX5_valueOf 1 = .ok (.invokestatic 44, 3) := by decide +kernel
theorem dX5_valueOf_4 : decode cX5_valueOf 4 = .ok (.aload_n 0, 1) := by decide +kernel
theorem dX5_valueOf_5 : decode cX5_valueOf 5 = .ok (.getfield 12, 3) := by decide +kernel
theorem dX5_valueOf_8 : decode cX5_valueOf 8 = .ok (.iload_n 1, 1) := by decide +kernel
theorem dX5_valueOf_9 : decode cX5_valueOf 9 = .ok (.invokevirtual 160, 3) := by decide +kernel
theorem dX5_valueOf_12 : decode cX5_valueOf 12 = .ok (.istore_n 2, 1) := by decide +kernel
theorem dX5_valueOf_13 : decode cX5_valueOf 13 = .ok (.iload_n 2, 1) := by decide +kernel
theorem dX5_valueOf_14 : decode cX5_valueOf 14 = .ok (.iconst (-1), 1) := by decide +kernel
theorem dX5_valueOf_15 : decode cX5_valueOf 15 = .ok (.if_icmp .ne 13, 3) := by decide +kernel
theorem dX5_valueOf_18 : decode cX5_valueOf 18 = .ok (.new 108, 3) := by decide +kernel
theorem dX5_valueOf_21 : decode cX5_valueOf 21 = .ok (.dup, 1) := by decide +kernel
theorem dX5_valueOf_22 : decode cX5_valueOf 22 = .ok (.ldc 167, 2) := by decide +kernel
theorem dX5_valueOf_24 : decode cX5_valueOf 24 = .ok (.invokespecial 112, 3) := by decide +kernel
theorem dX5_valueOf_27 : decode cX5_valueOf 27 = .ok (.athrow, 1) := by decide +kernel
theorem dX5_valueOf_28 : decode cX5_valueOf 28 = .ok (.iload_n 2, 1) := by decide +kernel
theorem dX5_valueOf_29 : decode cX5_valueOf 29 = .ok (.ireturn, 1) := by decide +kernel
theorem dX5_pagesFor_0 : decode cX5_pagesFor 0 = .ok (.iload_n 1, 1) := by decide +kernel
theorem dX5_pagesFor_1 : decode cX5_pagesFor 1 = .ok (.invokestatic 44, 3) := by decide +kernel
theorem dX5_pagesFor_4 : decode cX5_pagesFor 4 = .ok (.aload_n 0, 1) := by decide +kernel
theorem dX5_pagesFor_5 : decode cX5_pagesFor 5 = .ok (.getfield 12, 3) := by decide +kernel
theorem dX5_pagesFor_8 : decode cX5_pagesFor 8 = .ok (.iload_n 1, 1) := by decide +kernel
theorem dX5_pagesFor_9 : decode cX5_pagesFor 9 = .ok (.invokevirtual 169, 3) := by decide +kernel
theorem dX5_pagesFor_12 : decode cX5_pagesFor 12 = .ok (.ireturn, 1) := by decide +kernel
theorem dX5_countByLeaves_0 : decode cX5_countByLeaves 0 = .ok (.iload_n 1, 1) := by decide +kernel
theorem dX5_countByLeaves_1 : decode cX5_countByLeaves 1 = .ok (.iload_n 2, 1) := by decide +kernel
theorem dX5_countByLeaves_2 : decode cX5_countByLeaves 2 = .ok (.invokestatic 172, 3) := by decide +kernel
theorem dX5_countByLeaves_5 : decode cX5_countByLeaves 5 = .ok (.aload_n 0, 1) := by decide +kernel
theorem dX5_countByLeaves_6 : decode cX5_countByLeaves 6 = .ok (.getfield 12, 3) := by decide +kernel
theorem dX5_countByLeaves_9 : decode cX5_countByLeaves 9 = .ok (.iload_n 1, 1) := by decide +kernel
theorem dX5_countByLeaves_10 : decode cX5_countByLeaves 10 = .ok (.iload_n 2, 1) := by decide +kernel
theorem dX5_countByLeaves_11 : decode cX5_countByLeaves 11 = .ok (.invokevirtual 176, 3) := by decide +kernel
theorem dX5_countByLeaves_14 : decode cX5_countByLeaves 14 = .ok (.ireturn, 1) := by decide +kernel
theorem dX5_countByNext_0 : decode cX5_countByNext 0 = .ok (.iload_n 1, 1) := by decide +kernel
theorem dX5_countByNext_1 : decode cX5_countByNext 1 = .ok (.iload_n 2, 1) := by decide +kernel
theorem dX5_countByNext_2 : decode cX5_countByNext 2 = .ok (.invokestatic 172, 3) := by decide +kernel
theorem dX5_countByNext_5 : decode cX5_countByNext 5 = .ok (.aload_n 0, 1) := by decide +kernel
theorem dX5_countByNext_6 : decode cX5_countByNext 6 = .ok (.getfield 40, 3) := by decide +kernel
theorem dX5_countByNext_9 : decode cX5_countByNext 9 = .ok (.aload_n 0, 1) := by decide +kernel
theorem dX5_countByNext_10 : decode cX5_countByNext 10 = .ok (.getfield 12, 3) := by decide +kernel
theorem dX5_countByNext_13 : decode cX5_countByNext 13 = .ok (.invokevirtual 129, 3) := by decide +kernel
theorem dX5_countByNext_16 : decode cX5_countByNext 16 = .ok (.iload_n 1, 1) := by decide +kernel
theorem dX5_countByNext_17 : decode cX5_countByNext 17 = .ok (.iload_n 2, 1) := by decide +kernel
theorem dX5_countByNext_18 : decode cX5_countByNext 18 = .ok (.invokevirtual 179, 3) := by decide +kernel
theorem dX5_countByNext_21 : decode cX5_countByNext 21 = .ok (.ireturn, 1) := by decide +kernel
theorem dX5_nextKey_0 : decode cX5_nextKey 0 = .ok (.iload_n 1, 1) := by decide +kernel
theorem dX5_nextKey_1 : decode cX5_nextKey 1 = .ok (.invokestatic 44, 3) := by decide +kernel
theorem dX5_nextKey_4 : decode cX5_nextKey 4 = .ok (.aload_n 0, 1) := by decide +kernel
theorem dX5_nextKey_5 : decode cX5_nextKey 5 = .ok (.getfield 40, 3) := by decide +kernel
theorem dX5_nextKey_8 : decode cX5_nextKey 8 = .ok (.aload_n 0, 1) := by decide +kernel
theorem dX5_nextKey_9 : decode cX5_nextKey 9 = .ok (.getfield 12, 3) := by decide +kernel
theorem dX5_nextKey_12 : decode cX5_nextKey 12 = .ok (.invokevirtual 129, 3) := by decide +kernel
theorem dX5_nextKey_15 : decode cX5_nextKey 15 = .ok (.astore_n 2, 1) := by decide +kernel
theorem dX5_nextKey_16 : decode cX5_nextKey 16 = .ok (.aload_n 2, 1) := by decide +kernel
theorem dX5_nextKey_17 : decode cX5_nextKey 17 = .ok (.aload_n 2, 1) := by decide +kernel
theorem dX5_nextKey_18 : decode cX5_nextKey 18 = .ok (.iload_n 1, 1) := by decide +kernel
theorem dX5_nextKey_19 : decode cX5_nextKey 19 = .ok (.iconst 1, 1) := by decide +kernel
theorem dX5_nextKey_20 : decode cX5_nextKey 20 = .ok (.iadd, 1) := by decide +kernel
theorem dX5_nextKey_21 : decode cX5_nextKey 21 = .ok (.invokevirtual 182, 3) := by decide +kernel
theorem dX5_nextKey_24 : decode cX5_nextKey 24 = .ok (.invokevirtual 185, 3) := by decide +kernel
theorem dX5_nextKey_27 : decode cX5_nextKey 27 = .ok (.istore_n 3, 1) := by decide +kernel
theorem dX5_nextKey_28 : decode cX5_nextKey 28 = .ok (.iload_n 3, 1) := by decide +kernel
theorem dX5_nextKey_29 : decode cX5_nextKey 29 = .ok (.iconst (-1), 1) := by decide +kernel
theorem dX5_nextKey_30 : decode cX5_nextKey 30 = .ok (.if_icmp .ne 13, 3) := by decide +kernel
theorem dX5_nextKey_33 : decode cX5_nextKey 33 = .ok (.new 108, 3) := by decide +kernel
theorem dX5_nextKey_36 : decode cX5_nextKey 36 = .ok (.dup, 1) := by decide +kernel
theorem dX5_nextKey_37 : decode cX5_nextKey 37 = .ok (.ldc 188, 2) := by decide +kernel
theorem dX5_nextKey_39 : decode cX5_nextKey 39 = .ok (.invokespecial 112, 3) := by decide +kernel
theorem dX5_nextKey_42 : decode cX5_nextKey 42 = .ok (.athrow, 1) := by decide +kernel
theorem dX5_nextKey_43 : decode cX5_nextKey 43 = .ok (.iload_n 3, 1) := by decide +kernel
theorem dX5_nextKey_44 : decode cX5_nextKey 44 = .ok (.ireturn, 1) := by decide +kernel
theorem dX5_keyBefore_0 : decode cX5_keyBefore 0 = .ok (.iload_n 1, 1) := by decide +kernel
theorem dX5_keyBefore_1 : decode cX5_keyBefore 1 = .ok (.invokestatic 44, 3) := by decide +kernel
theorem dX5_keyBefore_4 : decode cX5_keyBefore 4 = .ok (.aload_n 0, 1) := by decide +kernel
theorem dX5_keyBefore_5 : decode cX5_keyBefore 5 = .ok (.getfield 40, 3) := by decide +kernel
theorem dX5_keyBefore_8 : decode cX5_keyBefore 8 = .ok (.aload_n 0, 1) := by decide +kernel
theorem dX5_keyBefore_9 : decode cX5_keyBefore 9 = .ok (.getfield 12, 3) := by decide +kernel
theorem dX5_keyBefore_12 : decode cX5_keyBefore 12 = .ok (.invokevirtual 129, 3) := by decide +kernel
theorem dX5_keyBefore_15 : decode cX5_keyBefore 15 = .ok (.astore_n 2, 1) := by decide +kernel
theorem dX5_keyBefore_16 : decode cX5_keyBefore 16 = .ok (.aload_n 2, 1) := by decide +kernel
theorem dX5_keyBefore_17 : decode cX5_keyBefore 17 = .ok (.aload_n 2, 1) := by decide +kernel
theorem dX5_keyBefore_18 : decode cX5_keyBefore 18 = .ok (.iload_n 1, 1) := by decide +kernel
theorem dX5_keyBefore_19 : decode cX5_keyBefore 19 = .ok (.invokevirtual 182, 3) := by decide +kernel
theorem dX5_keyBefore_22 : decode cX5_keyBefore 22 = .ok (.iconst 1, 1) := by decide +kernel
theorem dX5_keyBefore_23 : decode cX5_keyBefore 23 = .ok (.isub, 1) := by decide +kernel
theorem dX5_keyBefore_24 : decode cX5_keyBefore 24 = .ok (.invokevirtual 185, 3) := by decide +kernel
theorem dX5_keyBefore_27 : decode cX5_keyBefore 27 = .ok (.istore_n 3, 1) := by decide +kernel
theorem dX5_keyBefore_28 : decode cX5_keyBefore 28 = .ok (.iload_n 3, 1) := by decide +kernel
theorem dX5_keyBefore_29 : decode cX5_keyBefore 29 = .ok (.iconst (-1), 1) := by decide +kernel
theorem dX5_keyBefore_30 : decode cX5_keyBefore 30 = .ok (.if_icmp .ne 13, 3) := by decide +kernel
theorem dX5_keyBefore_33 : decode cX5_keyBefore 33 = .ok (.new 108, 3) := by decide +kernel
theorem dX5_keyBefore_36 : decode cX5_keyBefore 36 = .ok (.dup, 1) := by decide +kernel
theorem dX5_keyBefore_37 : decode cX5_keyBefore 37 = .ok (.ldc 190, 2) := by decide +kernel
theorem dX5_keyBefore_39 : decode cX5_keyBefore 39 = .ok (.invokespecial 112, 3) := by decide +kernel
theorem dX5_keyBefore_42 : decode cX5_keyBefore 42 = .ok (.athrow, 1) := by decide +kernel
theorem dX5_keyBefore_43 : decode cX5_keyBefore 43 = .ok (.iload_n 3, 1) := by decide +kernel
theorem dX5_keyBefore_44 : decode cX5_keyBefore 44 = .ok (.ireturn, 1) := by decide +kernel
theorem dX5_found_0 : decode cX5_found 0 = .ok (.aload_n 0, 1) := by decide +kernel
theorem dX5_found_1 : decode cX5_found 1 = .ok (.getfield 40, 3) := by decide +kernel
theorem dX5_found_4 : decode cX5_found 4 = .ok (.aload_n 0, 1) := by decide +kernel
theorem dX5_found_5 : decode cX5_found 5 = .ok (.getfield 12, 3) := by decide +kernel
theorem dX5_found_8 : decode cX5_found 8 = .ok (.invokevirtual 129, 3) := by decide +kernel
theorem dX5_found_11 : decode cX5_found 11 = .ok (.getfield 133, 3) := by decide +kernel
theorem dX5_found_14 : decode cX5_found 14 = .ok (.ireturn, 1) := by decide +kernel
theorem dX5_keyAt_0 : decode cX5_keyAt 0 = .ok (.aload_n 0, 1) := by decide +kernel
theorem dX5_keyAt_1 : decode cX5_keyAt 1 = .ok (.getfield 40, 3) := by decide +kernel
theorem dX5_keyAt_4 : decode cX5_keyAt 4 = .ok (.aload_n 0, 1) := by decide +kernel
theorem dX5_keyAt_5 : decode cX5_keyAt 5 = .ok (.getfield 12, 3) := by decide +kernel
theorem dX5_keyAt_8 : decode cX5_keyAt 8 = .ok (.invokevirtual 129, 3) := by decide +kernel
theorem dX5_keyAt_11 : decode cX5_keyAt 11 = .ok (.iload_n 1, 1) := by decide +kernel
theorem dX5_keyAt_12 : decode cX5_keyAt 12 = .ok (.invokevirtual 185, 3) := by decide +kernel
theorem dX5_keyAt_15 : decode cX5_keyAt 15 = .ok (.istore_n 2, 1) := by decide +kernel
theorem dX5_keyAt_16 : decode cX5_keyAt 16 = .ok (.iload_n 2, 1) := by decide +kernel
theorem dX5_keyAt_17 : decode cX5_keyAt 17 = .ok (.iconst (-1), 1) := by decide +kernel
theorem dX5_keyAt_18 : decode cX5_keyAt 18 = .ok (.if_icmp .ne 13, 3) := by decide +kernel
theorem dX5_keyAt_21 : decode cX5_keyAt 21 = .ok (.new 192, 3) := by decide +kernel
theorem dX5_keyAt_24 : decode cX5_keyAt 24 = .ok (.dup, 1) := by decide +kernel
theorem dX5_keyAt_25 : decode cX5_keyAt 25 = .ok (.ldc 194, 2) := by decide +kernel
theorem dX5_keyAt_27 : decode cX5_keyAt 27 = .ok (.invokespecial 196, 3) := by decide +kernel
theorem dX5_keyAt_30 : decode cX5_keyAt 30 = .ok (.athrow, 1) := by decide +kernel
theorem dX5_keyAt_31 : decode cX5_keyAt 31 = .ok (.iload_n 2, 1) := by decide +kernel
theorem dX5_keyAt_32 : decode cX5_keyAt 32 = .ok (.ireturn, 1) := by decide +kernel
theorem dX5_runs_0 : decode cX5_runs 0 = .ok (.aload_n 0, 1) := by decide +kernel
theorem dX5_runs_1 : decode cX5_runs 1 = .ok (.getfield 12, 3) := by decide +kernel
theorem dX5_runs_4 : decode cX5_runs 4 = .ok (.getfield 197, 3) := by decide +kernel
theorem dX5_runs_7 : decode cX5_runs 7 = .ok (.ireturn, 1) := by decide +kernel
theorem dX5_sizeOf_0 : decode cX5_sizeOf 0 = .ok (.aload_n 0, 1) := by decide +kernel
theorem dX5_sizeOf_1 : decode cX5_sizeOf 1 = .ok (.getfield 12, 3) := by decide +kernel
theorem dX5_sizeOf_4 : decode cX5_sizeOf 4 = .ok (.iload_n 1, 1) := by decide +kernel
theorem dX5_sizeOf_5 : decode cX5_sizeOf 5 = .ok (.invokevirtual 200, 3) := by decide +kernel
theorem dX5_sizeOf_8 : decode cX5_sizeOf 8 = .ok (.astore_n 2, 1) := by decide +kernel
theorem dX5_sizeOf_9 : decode cX5_sizeOf 9 = .ok (.aload_n 2, 1) := by decide +kernel
theorem dX5_sizeOf_10 : decode cX5_sizeOf 10 = .ok (.ifnonnull 13, 3) := by decide +kernel
theorem dX5_sizeOf_13 : decode cX5_sizeOf 13 = .ok (.new 192, 3) := by decide +kernel
theorem dX5_sizeOf_16 : decode cX5_sizeOf 16 = .ok (.dup, 1) := by decide +kernel
theorem dX5_sizeOf_17 : decode cX5_sizeOf 17 = .ok (.ldc 204, 2) := by decide +kernel
theorem dX5_sizeOf_19 : decode cX5_sizeOf 19 = .ok (.invokespecial 196, 3) := by decide +kernel
theorem dX5_sizeOf_22 : decode cX5_sizeOf 22 = .ok (.athrow, 1) := by decide +kernel
theorem dX5_sizeOf_23 : decode cX5_sizeOf 23 = .ok (.aload_n 2, 1) := by decide +kernel
theorem dX5_sizeOf_24 : decode cX5_sizeOf 24 = .ok (.getfield 133, 3) := by decide +kernel
theorem dX5_sizeOf_27 : decode cX5_sizeOf 27 = .ok (.ireturn, 1) := by decide +kernel
theorem dX5_keyIn_0 : decode cX5_keyIn 0 = .ok (.aload_n 0, 1) := by decide +kernel
theorem dX5_keyIn_1 : decode cX5_keyIn 1 = .ok (.getfield 12, 3) := by decide +kernel
theorem dX5_keyIn_4 : decode cX5_keyIn 4 = .ok (.iload_n 1, 1) := by decide +kernel
theorem dX5_keyIn_5 : decode cX5_keyIn 5 = .ok (.invokevirtual 200, 3) := by decide +kernel
theorem dX5_keyIn_8 : decode cX5_keyIn 8 = .ok (.astore_n 3, 1) := by decide +kernel
theorem dX5_keyIn_9 : decode cX5_keyIn 9 = .ok (.aload_n 3, 1) := by decide +kernel
theorem dX5_keyIn_10 : decode cX5_keyIn 10 = .ok (.ifnull 11, 3) := by decide +kernel
theorem dX5_keyIn_13 : decode cX5_keyIn 13 = .ok (.aload_n 3, 1) := by decide +kernel
theorem dX5_keyIn_14 : decode cX5_keyIn 14 = .ok (.iload_n 2, 1) := by decide +kernel
theorem dX5_keyIn_15 : decode cX5_keyIn 15 = .ok (.invokevirtual 206, 3) := by decide +kernel
theorem dX5_keyIn_18 : decode cX5_keyIn 18 = .ok (.ifCond .ne 13, 3) := by decide +kernel
theorem dX5_keyIn_21 : decode cX5_keyIn 21 = .ok (.new 192, 3) := by decide +kernel
theorem dX5_keyIn_24 : decode cX5_keyIn 24 = .ok (.dup, 1) := by decide +kernel
theorem dX5_keyIn_25 : decode cX5_keyIn 25 = .ok (.ldc 209, 2) := by decide +kernel
theorem dX5_keyIn_27 : decode cX5_keyIn 27 = .ok (.invokespecial 196, 3) := by decide +kernel
theorem dX5_keyIn_30 : decode cX5_keyIn 30 = .ok (.athrow, 1) := by decide +kernel
theorem dX5_keyIn_31 : decode cX5_keyIn 31 = .ok (.aload_n 3, 1) := by decide +kernel
theorem dX5_keyIn_32 : decode cX5_keyIn 32 = .ok (.iload_n 2, 1) := by decide +kernel
theorem dX5_keyIn_33 : decode cX5_keyIn 33 = .ok (.invokevirtual 185, 3) := by decide +kernel
theorem dX5_keyIn_36 : decode cX5_keyIn 36 = .ok (.ireturn, 1) := by decide +kernel
theorem dX5_isGoneIn_0 : decode cX5_isGoneIn 0 = .ok (.aload_n 0, 1) := by decide +kernel
theorem dX5_isGoneIn_1 : decode cX5_isGoneIn 1 = .ok (.getfield 12, 3) := by decide +kernel
theorem dX5_isGoneIn_4 : decode cX5_isGoneIn 4 = .ok (.iload_n 1, 1) := by decide +kernel
theorem dX5_isGoneIn_5 : decode cX5_isGoneIn 5 = .ok (.invokevirtual 200, 3) := by decide +kernel
theorem dX5_isGoneIn_8 : decode cX5_isGoneIn 8 = .ok (.astore_n 3, 1) := by decide +kernel
theorem dX5_isGoneIn_9 : decode cX5_isGoneIn 9 = .ok (.aload_n 3, 1) := by decide +kernel
theorem dX5_isGoneIn_10 : decode cX5_isGoneIn 10 = .ok (.ifnull 11, 3) := by decide +kernel
theorem dX5_isGoneIn_13 : decode cX5_isGoneIn 13 = .ok (.aload_n 3, 1) := by decide +kernel
theorem dX5_isGoneIn_14 : decode cX5_isGoneIn 14 = .ok (.iload_n 2, 1) := by decide +kernel
theorem dX5_isGoneIn_15 : decode cX5_isGoneIn 15 = .ok (.invokevirtual 206, 3) := by decide +kernel
theorem dX5_isGoneIn_18 : decode cX5_isGoneIn 18 = .ok (.ifCond .ne 13, 3) := by decide +kernel
theorem dX5_isGoneIn_21 : decode cX5_isGoneIn 21 = .ok (.new 192, 3) := by decide +kernel
theorem dX5_isGoneIn_24 : decode cX5_isGoneIn 24 = .ok (.dup, 1) := by decide +kernel
theorem dX5_isGoneIn_25 : decode cX5_isGoneIn 25 = .ok (.ldc 209, 2) := by decide +kernel
theorem dX5_isGoneIn_27 : decode cX5_isGoneIn 27 = .ok (.invokespecial 196, 3) := by decide +kernel
theorem dX5_isGoneIn_30 : decode cX5_isGoneIn 30 = .ok (.athrow, 1) := by decide +kernel
theorem dX5_isGoneIn_31 : decode cX5_isGoneIn 31 = .ok (.aload_n 3, 1) := by decide +kernel
theorem dX5_isGoneIn_32 : decode cX5_isGoneIn 32 = .ok (.iload_n 2, 1) := by decide +kernel
theorem dX5_isGoneIn_33 : decode cX5_isGoneIn 33 = .ok (.invokevirtual 211, 3) := by decide +kernel
theorem dX5_isGoneIn_36 : decode cX5_isGoneIn 36 = .ok (.iconst (-1), 1) := by decide +kernel
theorem dX5_isGoneIn_37 : decode cX5_isGoneIn 37 = .ok (.if_icmp .ne 7, 3) := by decide +kernel
theorem dX5_isGoneIn_40 : decode cX5_isGoneIn 40 = .ok (.iconst 1, 1) := by decide +kernel
theorem dX5_isGoneIn_41 : decode cX5_isGoneIn 41 = .ok (.goto 4, 3) := by decide +kernel
theorem dX5_isGoneIn_44 : decode cX5_isGoneIn 44 = .ok (.iconst 0, 1) := by decide +kernel
theorem dX5_isGoneIn_45 : decode cX5_isGoneIn 45 = .ok (.ireturn, 1) := by decide +kernel
theorem dX5_runOf_0 : decode cX5_runOf 0 = .ok (.iload_n 1, 1) := by decide +kernel
theorem dX5_runOf_1 : decode cX5_runOf 1 = .ok (.invokestatic 44, 3) := by decide +kernel
theorem dX5_runOf_4 : decode cX5_runOf 4 = .ok (.aload_n 0, 1) := by decide +kernel
theorem dX5_runOf_5 : decode cX5_runOf 5 = .ok (.getfield 12, 3) := by decide +kernel
theorem dX5_runOf_8 : decode cX5_runOf 8 = .ok (.iload_n 1, 1) := by decide +kernel
theorem dX5_runOf_9 : decode cX5_runOf 9 = .ok (.invokevirtual 214, 3) := by decide +kernel
theorem dX5_runOf_12 : decode cX5_runOf 12 = .ok (.istore_n 2, 1) := by decide +kernel
theorem dX5_runOf_13 : decode cX5_runOf 13 = .ok (.iload_n 2, 1) := by decide +kernel
theorem dX5_runOf_14 : decode cX5_runOf 14 = .ok (.iconst (-1), 1) := by decide +kernel
theorem dX5_runOf_15 : decode cX5_runOf 15 = .ok (.if_icmp .ne 13, 3) := by decide +kernel
theorem dX5_runOf_18 : decode cX5_runOf 18 = .ok (.new 108, 3) := by decide +kernel
theorem dX5_runOf_21 : decode cX5_runOf 21 = .ok (.dup, 1) := by decide +kernel
theorem dX5_runOf_22 : decode cX5_runOf 22 = .ok (.ldc 217, 2) := by decide +kernel
theorem dX5_runOf_24 : decode cX5_runOf 24 = .ok (.invokespecial 112, 3) := by decide +kernel
theorem dX5_runOf_27 : decode cX5_runOf 27 = .ok (.athrow, 1) := by decide +kernel
theorem dX5_runOf_28 : decode cX5_runOf 28 = .ok (.iload_n 2, 1) := by decide +kernel
theorem dX5_runOf_29 : decode cX5_runOf 29 = .ok (.ireturn, 1) := by decide +kernel
theorem dX5_entries_0 : decode cX5_entries 0 = .ok (.aload_n 0, 1) := by decide +kernel
theorem dX5_entries_1 : decode cX5_entries 1 = .ok (.getfield 12, 3) := by decide +kernel
theorem dX5_entries_4 : decode cX5_entries 4 = .ok (.getfield 219, 3) := by decide +kernel
theorem dX5_entries_7 : decode cX5_entries 7 = .ok (.getfield 223, 3) := by decide +kernel
theorem dX5_entries_10 : decode cX5_entries 10 = .ok (.getfield 133, 3) := by decide +kernel
theorem dX5_entries_13 : decode cX5_entries 13 = .ok (.ireturn, 1) := by decide +kernel
theorem dX5_leaves_0 : decode cX5_leaves 0 = .ok (.aload_n 0, 1) := by decide +kernel
theorem dX5_leaves_1 : decode cX5_leaves 1 = .ok (.getfield 12, 3) := by decide +kernel
theorem dX5_leaves_4 : decode cX5_leaves 4 = .ok (.getfield 219, 3) := by decide +kernel
theorem dX5_leaves_7 : decode cX5_leaves 7 = .ok (.getfield 229, 3) := by decide +kernel
theorem dX5_leaves_10 : decode cX5_leaves 10 = .ok (.ireturn, 1) := by decide +kernel
theorem dX5_entriesOf_0 : decode cX5_entriesOf 0 = .ok (.aload_n 0, 1) := by decide +kernel
theorem dX5_entriesOf_1 : decode cX5_entriesOf 1 = .ok (.iload_n 1, 1) := by decide +kernel
theorem dX5_entriesOf_2 : decode cX5_entriesOf 2 = .ok (.invokevirtual 232, 3) := by decide +kernel
theorem dX5_entriesOf_5 : decode cX5_entriesOf 5 = .ok (.aload_n 0, 1) := by decide +kernel
theorem dX5_entriesOf_6 : decode cX5_entriesOf 6 = .ok (.getfield 12, 3) := by decide +kernel
theorem dX5_entriesOf_9 : decode cX5_entriesOf 9 = .ok (.getfield 219, 3) := by decide +kernel
theorem dX5_entriesOf_12 : decode cX5_entriesOf 12 = .ok (.iload_n 1, 1) := by decide +kernel
theorem dX5_entriesOf_13 : decode cX5_entriesOf 13 = .ok (.invokevirtual 235, 3) := by decide +kernel
theorem dX5_entriesOf_16 : decode cX5_entriesOf 16 = .ok (.ireturn, 1) := by decide +kernel
theorem dX5_leafKey_0 : decode cX5_leafKey 0 = .ok (.aload_n 0, 1) := by decide +kernel
theorem dX5_leafKey_1 : decode cX5_leafKey 1 = .ok (.iload_n 1, 1) := by decide +kernel
theorem dX5_leafKey_2 : decode cX5_leafKey 2 = .ok (.invokevirtual 232, 3) := by decide +kernel
theorem dX5_leafKey_5 : decode cX5_leafKey 5 = .ok (.aload_n 0, 1) := by decide +kernel
theorem dX5_leafKey_6 : decode cX5_leafKey 6 = .ok (.getfield 12, 3) := by decide +kernel
theorem dX5_leafKey_9 : decode cX5_leafKey 9 = .ok (.getfield 219, 3) := by decide +kernel
theorem dX5_leafKey_12 : decode cX5_leafKey 12 = .ok (.iload_n 1, 1) := by decide +kernel
theorem dX5_leafKey_13 : decode cX5_leafKey 13 = .ok (.iload_n 2, 1) := by decide +kernel
theorem dX5_leafKey_14 : decode cX5_leafKey 14 = .ok (.invokevirtual 238, 3) := by decide +kernel
theorem dX5_leafKey_17 : decode cX5_leafKey 17 = .ok (.istore_n 3, 1) := by decide +kernel
theorem dX5_leafKey_18 : decode cX5_leafKey 18 = .ok (.iload_n 3, 1) := by decide +kernel
theorem dX5_leafKey_19 : decode cX5_leafKey 19 = .ok (.iconst (-1), 1) := by decide +kernel
theorem dX5_leafKey_20 : decode cX5_leafKey 20 = .ok (.if_icmp .ne 13, 3) := by decide +kernel
theorem dX5_leafKey_23 : decode cX5_leafKey 23 = .ok (.new 192, 3) := by decide +kernel
theorem dX5_leafKey_26 : decode cX5_leafKey 26 = .ok (.dup, 1) := by decide +kernel
theorem dX5_leafKey_27 : decode cX5_leafKey 27 = .ok (.ldc 241, 2) := by decide +kernel
theorem dX5_leafKey_29 : decode cX5_leafKey 29 = .ok (.invokespecial 196, 3) := by decide +kernel
theorem dX5_leafKey_32 : decode cX5_leafKey 32 = .ok (.athrow, 1) := by decide +kernel
theorem dX5_leafKey_33 : decode cX5_leafKey 33 = .ok (.aload_n 0, 1) := by decide +kernel
theorem dX5_leafKey_34 : decode cX5_leafKey 34 = .ok (.getfield 12, 3) := by decide +kernel
theorem dX5_leafKey_37 : decode cX5_leafKey 37 = .ok (.getfield 219, 3) := by decide +kernel
theorem dX5_leafKey_40 : decode cX5_leafKey 40 = .ok (.getfield 223, 3) := by decide +kernel
theorem dX5_leafKey_43 : decode cX5_leafKey 43 = .ok (.iload_n 3, 1) := by decide +kernel
theorem dX5_leafKey_44 : decode cX5_leafKey 44 = .ok (.invokevirtual 185, 3) := by decide +kernel
theorem dX5_leafKey_47 : decode cX5_leafKey 47 = .ok (.ireturn, 1) := by decide +kernel
theorem dX5_overflowOf_0 : decode cX5_overflowOf 0 = .ok (.aload_n 0, 1) := by decide +kernel
theorem dX5_overflowOf_1 : decode cX5_overflowOf 1 = .ok (.iload_n 1, 1) := by decide +kernel
theorem dX5_overflowOf_2 : decode cX5_overflowOf 2 = .ok (.invokevirtual 232, 3) := by decide +kernel
theorem dX5_overflowOf_5 : decode cX5_overflowOf 5 = .ok (.aload_n 0, 1) := by decide +kernel
theorem dX5_overflowOf_6 : decode cX5_overflowOf 6 = .ok (.getfield 12, 3) := by decide +kernel
theorem dX5_overflowOf_9 : decode cX5_overflowOf 9 = .ok (.getfield 219, 3) := by decide +kernel
theorem dX5_overflowOf_12 : decode cX5_overflowOf 12 = .ok (.iload_n 1, 1) := by decide +kernel
theorem dX5_overflowOf_13 : decode cX5_overflowOf 13 = .ok (.invokevirtual 243, 3) := by decide +kernel
theorem dX5_overflowOf_16 : decode cX5_overflowOf 16 = .ok (.ireturn, 1) := by decide +kernel
theorem dX5_overflowLeaves_0 : decode cX5_overflowLeaves 0 = .ok (.aload_n 0, 1) := by decide +kernel
theorem dX5_overflowLeaves_1 : decode cX5_overflowLeaves 1 = .ok (.iload_n 1, 1) := by decide +kernel
theorem dX5_overflowLeaves_2 : decode cX5_overflowLeaves 2 = .ok (.invokevirtual 232, 3) := by decide +kernel
theorem dX5_overflowLeaves_5 : decode cX5_overflowLeaves 5 = .ok (.aload_n 0, 1) := by decide +kernel
theorem dX5_overflowLeaves_6 : decode cX5_overflowLeaves 6 = .ok (.getfield 12, 3) := by decide +kernel
theorem dX5_overflowLeaves_9 : decode cX5_overflowLeaves 9 = .ok (.getfield 219, 3) := by decide +kernel
theorem dX5_overflowLeaves_12 : decode cX5_overflowLeaves 12 = .ok (.iload_n 1, 1) := by decide +kernel
theorem dX5_overflowLeaves_13 : decode cX5_overflowLeaves 13 = .ok (.invokevirtual 246, 3) := by decide +kernel
theorem dX5_overflowLeaves_16 : decode cX5_overflowLeaves 16 = .ok (.ireturn, 1) := by decide +kernel
theorem dX5_levels_0 : decode cX5_levels 0 = .ok (.aload_n 0, 1) := by decide +kernel
theorem dX5_levels_1 : decode cX5_levels 1 = .ok (.getfield 12, 3) := by decide +kernel
theorem dX5_levels_4 : decode cX5_levels 4 = .ok (.getfield 219, 3) := by decide +kernel
theorem dX5_levels_7 : decode cX5_levels 7 = .ok (.invokevirtual 249, 3) := by decide +kernel
theorem dX5_levels_10 : decode cX5_levels 10 = .ok (.ireturn, 1) := by decide +kernel
theorem dX5_nodesAt_0 : decode cX5_nodesAt 0 = .ok (.aload_n 0, 1) := by decide +kernel
theorem dX5_nodesAt_1 : decode cX5_nodesAt 1 = .ok (.iload_n 1, 1) := by decide +kernel
theorem dX5_nodesAt_2 : decode cX5_nodesAt 2 = .ok (.invokevirtual 252, 3) := by decide +kernel
theorem dX5_nodesAt_5 : decode cX5_nodesAt 5 = .ok (.aload_n 0, 1) := by decide +kernel
theorem dX5_nodesAt_6 : decode cX5_nodesAt 6 = .ok (.getfield 12, 3) := by decide +kernel
theorem dX5_nodesAt_9 : decode cX5_nodesAt 9 = .ok (.getfield 219, 3) := by decide +kernel
theorem dX5_nodesAt_12 : decode cX5_nodesAt 12 = .ok (.iload_n 1, 1) := by decide +kernel
theorem dX5_nodesAt_13 : decode cX5_nodesAt 13 = .ok (.invokevirtual 255, 3) := by decide +kernel
theorem dX5_nodesAt_16 : decode cX5_nodesAt 16 = .ok (.ireturn, 1) := by decide +kernel
theorem dX5_childrenOf_0 : decode cX5_childrenOf 0 = .ok (.aload_n 0, 1) := by decide +kernel
theorem dX5_childrenOf_1 : decode cX5_childrenOf 1 = .ok (.iload_n 1, 1) := by decide +kernel
theorem dX5_childrenOf_2 : decode cX5_childrenOf 2 = .ok (.invokevirtual 252, 3) := by decide +kernel
theorem dX5_childrenOf_5 : decode cX5_childrenOf 5 = .ok (.aload_n 0, 1) := by decide +kernel
theorem dX5_childrenOf_6 : decode cX5_childrenOf 6 = .ok (.iload_n 1, 1) := by decide +kernel
theorem dX5_childrenOf_7 : decode cX5_childrenOf 7 = .ok (.iload_n 2, 1) := by decide +kernel
theorem dX5_childrenOf_8 : decode cX5_childrenOf 8 = .ok (.invokevirtual 258, 3) := by decide +kernel
theorem dX5_childrenOf_11 : decode cX5_childrenOf 11 = .ok (.aload_n 0, 1) := by decide +kernel
theorem dX5_childrenOf_12 : decode cX5_childrenOf 12 = .ok (.getfield 12, 3) := by decide +kernel
theorem dX5_childrenOf_15 : decode cX5_childrenOf 15 = .ok (.getfield 219, 3) := by decide +kernel
theorem dX5_childrenOf_18 : decode cX5_childrenOf 18 = .ok (.iload_n 1, 1) := by decide +kernel
theorem dX5_childrenOf_19 : decode cX5_childrenOf 19 = .ok (.iload_n 2, 1) := by decide +kernel
theorem dX5_childrenOf_20 : decode cX5_childrenOf 20 = .ok (.invokevirtual 261, 3) := by decide +kernel
theorem dX5_childrenOf_23 : decode cX5_childrenOf 23 = .ok (.ireturn, 1) := by decide +kernel
theorem dX5_boundOf_0 : decode cX5_boundOf 0 = .ok (.aload_n 0, 1) := by decide +kernel
theorem dX5_boundOf_1 : decode cX5_boundOf 1 = .ok (.iload_n 1, 1) := by decide +kernel
theorem dX5_boundOf_2 : decode cX5_boundOf 2 = .ok (.invokevirtual 252, 3) := by decide +kernel
theorem dX5_boundOf_5 : decode cX5_boundOf 5 = .ok (.aload_n 0, 1) := by decide +kernel
theorem dX5_boundOf_6 : decode cX5_boundOf 6 = .ok (.iload_n 1, 1) := by decide +kernel
theorem dX5_boundOf_7 : decode cX5_boundOf 7 = .ok (.iload_n 2, 1) := by decide +kernel
theorem dX5_boundOf_8 : decode cX5_boundOf 8 = .ok (.invokevirtual 258, 3) := by decide +kernel
theorem dX5_boundOf_11 : decode cX5_boundOf 11 = .ok (.aload_n 0, 1) := by decide +kernel
theorem dX5_boundOf_12 : decode cX5_boundOf 12 = .ok (.getfield 12, 3) := by decide +kernel
theorem dX5_boundOf_15 : decode cX5_boundOf 15 = .ok (.getfield 219, 3) := by decide +kernel
theorem dX5_boundOf_18 : decode cX5_boundOf 18 = .ok (.iload_n 1, 1) := by decide +kernel
theorem dX5_boundOf_19 : decode cX5_boundOf 19 = .ok (.iload_n 2, 1) := by decide +kernel
theorem dX5_boundOf_20 : decode cX5_boundOf 20 = .ok (.invokevirtual 264, 3) := by decide +kernel
theorem dX5_boundOf_23 : decode cX5_boundOf 23 = .ok (.ireturn, 1) := by decide +kernel
theorem dX5_leafFor_0 : decode cX5_leafFor 0 = .ok (.iload_n 1, 1) := by decide +kernel
theorem dX5_leafFor_1 : decode cX5_leafFor 1 = .ok (.invokestatic 44, 3) := by decide +kernel
theorem dX5_leafFor_4 : decode cX5_leafFor 4 = .ok (.aload_n 0, 1) := by decide +kernel
theorem dX5_leafFor_5 : decode cX5_leafFor 5 = .ok (.getfield 12, 3) := by decide +kernel
theorem dX5_leafFor_8 : decode cX5_leafFor 8 = .ok (.getfield 219, 3) := by decide +kernel
theorem dX5_leafFor_11 : decode cX5_leafFor 11 = .ok (.iload_n 1, 1) := by decide +kernel
theorem dX5_leafFor_12 : decode cX5_leafFor 12 = .ok (.invokevirtual 267, 3) := by decide +kernel
theorem dX5_leafFor_15 : decode cX5_leafFor 15 = .ok (.istore_n 2, 1) := by decide +kernel
theorem dX5_leafFor_16 : decode cX5_leafFor 16 = .ok (.iload_n 2, 1) := by decide +kernel
theorem dX5_leafFor_17 : decode cX5_leafFor 17 = .ok (.iconst (-1), 1) := by decide +kernel
theorem dX5_leafFor_18 : decode cX5_leafFor 18 = .ok (.if_icmp .ne 14, 3) := by decide +kernel
theorem dX5_leafFor_21 : decode cX5_leafFor 21 = .ok (.new 108, 3) := by decide +kernel
theorem dX5_leafFor_24 : decode cX5_leafFor 24 = .ok (.dup, 1) := by decide +kernel
theorem dX5_leafFor_25 : decode cX5_leafFor 25 = .ok (.ldc_w 270, 3) := by decide +kernel
theorem dX5_leafFor_28 : decode cX5_leafFor 28 = .ok (.invokespecial 112, 3) := by decide +kernel
theorem dX5_leafFor_31 : decode cX5_leafFor 31 = .ok (.athrow, 1) := by decide +kernel
theorem dX5_leafFor_32 : decode cX5_leafFor 32 = .ok (.iload_n 2, 1) := by decide +kernel
theorem dX5_leafFor_33 : decode cX5_leafFor 33 = .ok (.ireturn, 1) := by decide +kernel
theorem dX5_builds_0 : decode cX5_builds 0 = .ok (.aload_n 0, 1) := by decide +kernel
theorem dX5_builds_1 : decode cX5_builds 1 = .ok (.getfield 12, 3) := by decide +kernel
theorem dX5_builds_4 : decode cX5_builds 4 = .ok (.getfield 272, 3) := by decide +kernel
theorem dX5_builds_7 : decode cX5_builds 7 = .ok (.ireturn, 1) := by decide +kernel
theorem dX5_written_0 : decode cX5_written 0 = .ok (.aload_n 0, 1) := by decide +kernel
theorem dX5_written_1 : decode cX5_written 1 = .ok (.getfield 12, 3) := by decide +kernel
theorem dX5_written_4 : decode cX5_written 4 = .ok (.getfield 275, 3) := by decide +kernel
theorem dX5_written_7 : decode cX5_written 7 = .ok (.ireturn, 1) := by decide +kernel
theorem dX5_told_0 : decode cX5_told 0 = .ok (.aload_n 0, 1) := by decide +kernel
theorem dX5_told_1 : decode cX5_told 1 = .ok (.getfield 12, 3) := by decide +kernel
theorem dX5_told_4 : decode cX5_told 4 = .ok (.invokevirtual 278, 3) := by decide +kernel
theorem dX5_told_7 : decode cX5_told 7 = .ok (.ireturn, 1) := by decide +kernel
theorem dX5_overflowShare_0 : decode cX5_overflowShare 0 = .ok (.aload_n 0, 1) := by decide +kernel
theorem dX5_overflowShare_1 : decode cX5_overflowShare 1 = .ok (.getfield 12, 3) := by decide +kernel
theorem dX5_overflowShare_4 : decode cX5_overflowShare 4 = .ok (.getfield 219, 3) := by decide +kernel
theorem dX5_overflowShare_7 : decode cX5_overflowShare 7 = .ok (.invokevirtual 281, 3) := by decide +kernel
theorem dX5_overflowShare_10 : decode cX5_overflowShare 10 = .ok (.dreturn, 1) := by decide +kernel
theorem dX5_meanPages_0 : decode cX5_meanPages 0 = .ok (.aload_n 0, 1) := by decide +kernel
theorem dX5_meanPages_1 : decode cX5_meanPages 1 = .ok (.aload_n 0, 1) := by decide +kernel
theorem dX5_meanPages_2 : decode cX5_meanPages 2 = .ok (.getfield 40, 3) := by decide +kernel
theorem dX5_meanPages_5 : decode cX5_meanPages 5 = .ok (.aload_n 0, 1) := by decide +kernel
theorem dX5_meanPages_6 : decode cX5_meanPages 6 = .ok (.getfield 12, 3) := by decide +kernel
theorem dX5_meanPages_9 : decode cX5_meanPages 9 = .ok (.invokevirtual 129, 3) := by decide +kernel
theorem dX5_meanPages_12 : decode cX5_meanPages 12 = .ok (.invokevirtual 285, 3) := by decide +kernel
theorem dX5_meanPages_15 : decode cX5_meanPages 15 = .ok (.dreturn, 1) := by decide +kernel
theorem dX5_worstPages_0 : decode cX5_worstPages 0 = .ok (.aload_n 0, 1) := by decide +kernel
theorem dX5_worstPages_1 : decode cX5_worstPages 1 = .ok (.aload_n 0, 1) := by decide +kernel
theorem dX5_worstPages_2 : decode cX5_worstPages 2 = .ok (.getfield 40, 3) := by decide +kernel
theorem dX5_worstPages_5 : decode cX5_worstPages 5 = .ok (.aload_n 0, 1) := by decide +kernel
theorem dX5_worstPages_6 : decode cX5_worstPages 6 = .ok (.getfield 12, 3) := by decide +kernel
theorem dX5_worstPages_9 : decode cX5_worstPages 9 = .ok (.invokevirtual 129, 3) := by decide +kernel
theorem dX5_worstPages_12 : decode cX5_worstPages 12 = .ok (.invokevirtual 289, 3) := by decide +kernel
theorem dX5_worstPages_15 : decode cX5_worstPages 15 = .ok (.ireturn, 1) := by decide +kernel
theorem dX5_leavesIfBuilt_0 : decode cX5_leavesIfBuilt 0 = .ok (.iload_n 1, 1) := by decide +kernel
theorem dX5_leavesIfBuilt_1 : decode cX5_leavesIfBuilt 1 = .ok (.invokestatic 71, 3) := by decide +kernel
theorem dX5_leavesIfBuilt_4 : decode cX5_leavesIfBuilt 4 = .ok (.aload_n 0, 1) := by decide +kernel
theorem dX5_leavesIfBuilt_5 : decode cX5_leavesIfBuilt 5 = .ok (.getfield 12, 3) := by decide +kernel
theorem dX5_leavesIfBuilt_8 : decode cX5_leavesIfBuilt 8 = .ok (.aload_n 0, 1) := by decide +kernel
theorem dX5_leavesIfBuilt_9 : decode cX5_leavesIfBuilt 9 = .ok (.getfield 40, 3) := by decide +kernel
theorem dX5_leavesIfBuilt_12 : decode cX5_leavesIfBuilt 12 = .ok (.aload_n 0, 1) := by decide +kernel
theorem dX5_leavesIfBuilt_13 : decode cX5_leavesIfBuilt 13 = .ok (.getfield 12, 3) := by decide +kernel
theorem dX5_leavesIfBuilt_16 : decode cX5_leavesIfBuilt 16 = .ok (.invokevirtual 129, 3) := by decide +kernel
theorem dX5_leavesIfBuilt_19 : decode cX5_leavesIfBuilt 19 = .ok (.getfield 133, 3) := by decide +kernel
theorem dX5_leavesIfBuilt_22 : decode cX5_leavesIfBuilt 22 = .ok (.iload_n 1, 1) := by decide +kernel
theorem dX5_leavesIfBuilt_23 : decode cX5_leavesIfBuilt 23 = .ok (.invokevirtual 293, 3) := by decide +kernel
theorem dX5_leavesIfBuilt_26 : decode cX5_leavesIfBuilt 26 = .ok (.ireturn, 1) := by decide +kernel
theorem dX5_levelsIfBuilt_0 : decode cX5_levelsIfBuilt 0 = .ok (.iload_n 1, 1) := by decide +kernel
theorem dX5_levelsIfBuilt_1 : decode cX5_levelsIfBuilt 1 = .ok (.invokestatic 71, 3) := by decide +kernel
theorem dX5_levelsIfBuilt_4 : decode cX5_levelsIfBuilt 4 = .ok (.aload_n 0, 1) := by decide +kernel
theorem dX5_levelsIfBuilt_5 : decode cX5_levelsIfBuilt 5 = .ok (.getfield 12, 3) := by decide +kernel
theorem dX5_levelsIfBuilt_8 : decode cX5_levelsIfBuilt 8 = .ok (.aload_n 0, 1) := by decide +kernel
theorem dX5_levelsIfBuilt_9 : decode cX5_levelsIfBuilt 9 = .ok (.getfield 40, 3) := by decide +kernel
theorem dX5_levelsIfBuilt_12 : decode cX5_levelsIfBuilt 12 = .ok (.aload_n 0, 1) := by decide +kernel
theorem dX5_levelsIfBuilt_13 : decode cX5_levelsIfBuilt 13 = .ok (.getfield 12, 3) := by decide +kernel
theorem dX5_levelsIfBuilt_16 : decode cX5_levelsIfBuilt 16 = .ok (.invokevirtual 129, 3) := by decide +kernel
theorem dX5_levelsIfBuilt_19 : decode cX5_levelsIfBuilt 19 = .ok (.getfield 133, 3) := by decide +kernel
theorem dX5_levelsIfBuilt_22 : decode cX5_levelsIfBuilt 22 = .ok (.iload_n 1, 1) := by decide +kernel
theorem dX5_levelsIfBuilt_23 : decode cX5_levelsIfBuilt 23 = .ok (.invokevirtual 296, 3) := by decide +kernel
theorem dX5_levelsIfBuilt_26 : decode cX5_levelsIfBuilt 26 = .ok (.ireturn, 1) := by decide +kernel
theorem dX5_digest_0 : decode cX5_digest 0 = .ok (.aload_n 0, 1) := by decide +kernel
theorem dX5_digest_1 : decode cX5_digest 1 = .ok (.getfield 40, 3) := by decide +kernel
theorem dX5_digest_4 : decode cX5_digest 4 = .ok (.aload_n 0, 1) := by decide +kernel
theorem dX5_digest_5 : decode cX5_digest 5 = .ok (.getfield 12, 3) := by decide +kernel
theorem dX5_digest_8 : decode cX5_digest 8 = .ok (.invokevirtual 129, 3) := by decide +kernel
theorem dX5_digest_11 : decode cX5_digest 11 = .ok (.astore_n 1, 1) := by decide +kernel
theorem dX5_digest_12 : decode cX5_digest 12 = .ok (.aload_n 0, 1) := by decide +kernel
theorem dX5_digest_13 : decode cX5_digest 13 = .ok (.ldc2_w 299, 3) := by decide +kernel
theorem dX5_digest_16 : decode cX5_digest 16 = .ok (.invokevirtual 301, 3) := by decide +kernel
theorem dX5_digest_19 : decode cX5_digest 19 = .ok (.lstore_n 2, 1) := by decide +kernel
theorem dX5_digest_20 : decode cX5_digest 20 = .ok (.aload_n 0, 1) := by decide +kernel
theorem dX5_digest_21 : decode cX5_digest 21 = .ok (.lload_n 2, 1) := by decide +kernel
theorem dX5_digest_22 : decode cX5_digest 22 = .ok (.invokevirtual 305, 3) := by decide +kernel
theorem dX5_digest_25 : decode cX5_digest 25 = .ok (.lstore_n 2, 1) := by decide +kernel
theorem dX5_digest_26 : decode cX5_digest 26 = .ok (.aload_n 0, 1) := by decide +kernel
theorem dX5_digest_27 : decode cX5_digest 27 = .ok (.lload_n 2, 1) := by decide +kernel
theorem dX5_digest_28 : decode cX5_digest 28 = .ok (.invokevirtual 308, 3) := by decide +kernel
theorem dX5_digest_31 : decode cX5_digest 31 = .ok (.lstore_n 2, 1) := by decide +kernel
theorem dX5_digest_32 : decode cX5_digest 32 = .ok (.aload_n 0, 1) := by decide +kernel
theorem dX5_digest_33 : decode cX5_digest 33 = .ok (.lload_n 2, 1) := by decide +kernel
theorem dX5_digest_34 : decode cX5_digest 34 = .ok (.aload_n 1, 1) := by decide +kernel
theorem dX5_digest_35 : decode cX5_digest 35 = .ok (.invokevirtual 311, 3) := by decide +kernel
theorem dX5_digest_38 : decode cX5_digest 38 = .ok (.lstore_n 2, 1) := by decide +kernel
theorem dX5_digest_39 : decode cX5_digest 39 = .ok (.aload_n 0, 1) := by decide +kernel
theorem dX5_digest_40 : decode cX5_digest 40 = .ok (.lload_n 2, 1) := by decide +kernel
theorem dX5_digest_41 : decode cX5_digest 41 = .ok (.aload_n 1, 1) := by decide +kernel
theorem dX5_digest_42 : decode cX5_digest 42 = .ok (.invokevirtual 315, 3) := by decide +kernel
theorem dX5_digest_45 : decode cX5_digest 45 = .ok (.lstore_n 2, 1) := by decide +kernel
theorem dX5_digest_46 : decode cX5_digest 46 = .ok (.aload_n 0, 1) := by decide +kernel
theorem dX5_digest_47 : decode cX5_digest 47 = .ok (.lload_n 2, 1) := by decide +kernel
theorem dX5_digest_48 : decode cX5_digest 48 = .ok (.aload_n 1, 1) := by decide +kernel
theorem dX5_digest_49 : decode cX5_digest 49 = .ok (.invokevirtual 318, 3) := by decide +kernel
theorem dX5_digest_52 : decode cX5_digest 52 = .ok (.lstore_n 2, 1) := by decide +kernel
theorem dX5_digest_53 : decode cX5_digest 53 = .ok (.aload_n 0, 1) := by decide +kernel
theorem dX5_digest_54 : decode cX5_digest 54 = .ok (.lload_n 2, 1) := by decide +kernel
theorem dX5_digest_55 : decode cX5_digest 55 = .ok (.invokevirtual 321, 3) := by decide +kernel
theorem dX5_digest_58 : decode cX5_digest 58 = .ok (.lreturn, 1) := by decide +kernel
theorem dX5_requireKey_0 : decode cX5_requireKey 0 = .ok (.iload_n 0, 1) := by decide +kernel
theorem dX5_requireKey_1 : decode cX5_requireKey 1 = .ok (.ifCond .lt 10, 3) := by decide +kernel
theorem dX5_requireKey_4 : decode cX5_requireKey 4 = .ok (.iload_n 0, 1) := by decide +kernel
theorem dX5_requireKey_5 : decode cX5_requireKey 5 = .ok (.sipush 9999, 3) := by decide +kernel
theorem dX5_requireKey_8 : decode cX5_requireKey 8 = .ok (.if_icmp .le 14, 3) := by decide +kernel
theorem dX5_requireKey_11 : decode cX5_requireKey 11 = .ok (.new 84, 3) := by decide +kernel
theorem dX5_requireKey_14 : decode cX5_requireKey 14 = .ok (.dup, 1) := by decide +kernel
theorem dX5_requireKey_15 : decode cX5_requireKey 15 = .ok (.ldc_w 324, 3) := by decide +kernel
theorem dX5_requireKey_18 : decode cX5_requireKey 18 = .ok (.invokespecial 88, 3) := by decide +kernel
theorem dX5_requireKey_21 : decode cX5_requireKey 21 = .ok (.athrow, 1) := by decide +kernel
theorem dX5_requireKey_22 : decode cX5_requireKey 22 = .ok (.return_, 1) := by decide +kernel
theorem dX5_requireValue_0 : decode cX5_requireValue 0 = .ok (.iload_n 0, 1) := by decide +kernel
theorem dX5_requireValue_1 : decode cX5_requireValue 1 = .ok (.ifCond .lt 9, 3) := by decide +kernel
theorem dX5_requireValue_4 : decode cX5_requireValue 4 = .ok (.iload_n 0, 1) := by decide +kernel
theorem dX5_requireValue_5 : decode cX5_requireValue 5 = .ok (.bipush 99, 2) := by decide +kernel
theorem dX5_requireValue_7 : decode cX5_requireValue 7 = .ok (.if_icmp .le 14, 3) := by decide +kernel
theorem dX5_requireValue_10 : decode cX5_requireValue 10 = .ok (.new 84, 3) := by decide +kernel
theorem dX5_requireValue_13 : decode cX5_requireValue 13 = .ok (.dup, 1) := by decide +kernel
theorem dX5_requireValue_14 : decode cX5_requireValue 14 = .ok (.ldc_w 326, 3) := by decide +kernel
theorem dX5_requireValue_17 : decode cX5_requireValue 17 = .ok (.invokespecial 88, 3) := by decide +kernel
theorem dX5_requireValue_20 : decode cX5_requireValue 20 = .ok (.athrow, 1) := by decide +kernel
theorem dX5_requireValue_21 : decode cX5_requireValue 21 = .ok (.return_, 1) := by decide +kernel
theorem dX5_requireFill_0 : decode cX5_requireFill 0 = .ok (.iload_n 0, 1) := by decide +kernel
theorem dX5_requireFill_1 : decode cX5_requireFill 1 = .ok (.bipush 50, 2) := by decide +kernel
theorem dX5_requireFill_3 : decode cX5_requireFill 3 = .ok (.if_icmp .lt 9, 3) := by decide +kernel
theorem dX5_requireFill_6 : decode cX5_requireFill 6 = .ok (.iload_n 0, 1) := by decide +kernel
theorem dX5_requireFill_7 : decode cX5_requireFill 7 = .ok (.bipush 100, 2) := by decide +kernel
theorem dX5_requireFill_9 : decode cX5_requireFill 9 = .ok (.if_icmp .le 14, 3) := by decide +kernel
theorem dX5_requireFill_12 : decode cX5_requireFill 12 = .ok (.new 84, 3) := by decide +kernel
theorem dX5_requireFill_15 : decode cX5_requireFill 15 = .ok (.dup, 1) := by decide +kernel
theorem dX5_requireFill_16 : decode cX5_requireFill 16 = .ok (.ldc_w 328, 3) := by decide +kernel
theorem dX5_requireFill_19 : decode cX5_requireFill 19 = .ok (.invokespecial 88, 3) := by decide +kernel
theorem dX5_requireFill_22 : decode cX5_requireFill 22 = .ok (.athrow, 1) := by decide +kernel
theorem dX5_requireFill_23 : decode cX5_requireFill 23 = .ok (.return_, 1) := by decide +kernel
theorem dX5_requireRange_0 : decode cX5_requireRange 0 = .ok (.iload_n 0, 1) := by decide +kernel
theorem dX5_requireRange_1 : decode cX5_requireRange 1 = .ok (.ifCond .lt 22, 3) := by decide +kernel
theorem dX5_requireRange_4 : decode cX5_requireRange 4 = .ok (.iload_n 0, 1) := by decide +kernel
theorem dX5_requireRange_5 : decode cX5_requireRange 5 = .ok (.sipush 9999, 3) := by decide +kernel
theorem dX5_requireRange_8 : decode cX5_requireRange 8 = .ok (.if_icmp .gt 15, 3) := by decide +kernel
theorem dX5_requireRange_11 : decode cX5_requireRange 11 = .ok (.iload_n 1, 1) := by decide +kernel
theorem dX5_requireRange_12 : decode cX5_requireRange 12 = .ok (.iload_n 0, 1) := by decide +kernel
theorem dX5_requireRange_13 : decode cX5_requireRange 13 = .ok (.if_icmp .lt 10, 3) := by decide +kernel
theorem dX5_requireRange_16 : decode cX5_requireRange 16 = .ok (.iload_n 1, 1) := by decide +kernel
theorem dX5_requireRange_17 : decode cX5_requireRange 17 = .ok (.sipush 9999, 3) := by decide +kernel
theorem dX5_requireRange_20 : decode cX5_requireRange 20 = .ok (.if_icmp .le 14, 3) := by decide +kernel
theorem dX5_requireRange_23 : decode cX5_requireRange 23 = .ok (.new 84, 3) := by decide +kernel
theorem dX5_requireRange_26 : decode cX5_requireRange 26 = .ok (.dup, 1) := by decide +kernel
theorem dX5_requireRange_27 : decode cX5_requireRange 27 = .ok (.ldc_w 330, 3) := by decide +kernel
theorem dX5_requireRange_30 : decode cX5_requireRange 30 = .ok (.invokespecial 88, 3) := by decide +kernel
theorem dX5_requireRange_33 : decode cX5_requireRange 33 = .ok (.athrow, 1) := by decide +kernel
theorem dX5_requireRange_34 : decode cX5_requireRange 34 = .ok (.return_, 1) := by decide +kernel
theorem dX5_requireSlot_0 : decode cX5_requireSlot 0 = .ok (.iload_n 0, 1) := by decide +kernel
theorem dX5_requireSlot_1 : decode cX5_requireSlot 1 = .ok (.ifCond .lt 8, 3) := by decide +kernel
theorem dX5_requireSlot_4 : decode cX5_requireSlot 4 = .ok (.iload_n 0, 1) := by decide +kernel
theorem dX5_requireSlot_5 : decode cX5_requireSlot 5 = .ok (.iconst 2, 1) := by decide +kernel
theorem dX5_requireSlot_6 : decode cX5_requireSlot 6 = .ok (.if_icmp .lt 14, 3) := by decide +kernel
theorem dX5_requireSlot_9 : decode cX5_requireSlot 9 = .ok (.new 84, 3) := by decide +kernel
theorem dX5_requireSlot_12 : decode cX5_requireSlot 12 = .ok (.dup, 1) := by decide +kernel
theorem dX5_requireSlot_13 : decode cX5_requireSlot 13 = .ok (.ldc_w 332, 3) := by decide +kernel
theorem dX5_requireSlot_16 : decode cX5_requireSlot 16 = .ok (.invokespecial 88, 3) := by decide +kernel
theorem dX5_requireSlot_19 : decode cX5_requireSlot 19 = .ok (.athrow, 1) := by decide +kernel
theorem dX5_requireSlot_20 : decode cX5_requireSlot 20 = .ok (.return_, 1) := by decide +kernel
theorem dX5_requireLeaf_0 : decode cX5_requireLeaf 0 = .ok (.iload_n 1, 1) := by decide +kernel
theorem dX5_requireLeaf_1 : decode cX5_requireLeaf 1 = .ok (.ifCond .lt 17, 3) := by decide +kernel
theorem dX5_requireLeaf_4 : decode cX5_requireLeaf 4 = .ok (.iload_n 1, 1) := by decide +kernel
theorem dX5_requireLeaf_5 : decode cX5_requireLeaf 5 = .ok (.aload_n 0, 1) := by decide +kernel
theorem dX5_requireLeaf_6 : decode cX5_requireLeaf 6 = .ok (.getfield 12, 3) := by decide +kernel
theorem dX5_requireLeaf_9 : decode cX5_requireLeaf 9 = .ok (.getfield 219, 3) := by decide +kernel
theorem dX5_requireLeaf_12 : decode cX5_requireLeaf 12 = .ok (.getfield 229, 3) := by decide +kernel
theorem dX5_requireLeaf_15 : decode cX5_requireLeaf 15 = .ok (.if_icmp .lt 14, 3) := by decide +kernel
theorem dX5_requireLeaf_18 : decode cX5_requireLeaf 18 = .ok (.new 192, 3) := by decide +kernel
theorem dX5_requireLeaf_21 : decode cX5_requireLeaf 21 = .ok (.dup, 1) := by decide +kernel
theorem dX5_requireLeaf_22 : decode cX5_requireLeaf 22 = .ok (.ldc_w 334, 3) := by decide +kernel
theorem dX5_requireLeaf_25 : decode cX5_requireLeaf 25 = .ok (.invokespecial 196, 3) := by decide +kernel
theorem dX5_requireLeaf_28 : decode cX5_requireLeaf 28 = .ok (.athrow, 1) := by decide +kernel
theorem dX5_requireLeaf_29 : decode cX5_requireLeaf 29 = .ok (.return_, 1) := by decide +kernel
theorem dX5_requireLevel_0 : decode cX5_requireLevel 0 = .ok (.iload_n 1, 1) := by decide +kernel
theorem dX5_requireLevel_1 : decode cX5_requireLevel 1 = .ok (.ifCond .lt 17, 3) := by decide +kernel
theorem dX5_requireLevel_4 : decode cX5_requireLevel 4 = .ok (.iload_n 1, 1) := by decide +kernel
theorem dX5_requireLevel_5 : decode cX5_requireLevel 5 = .ok (.aload_n 0, 1) := by decide +kernel
theorem dX5_requireLevel_6 : decode cX5_requireLevel 6 = .ok (.getfield 12, 3) := by decide +kernel
theorem dX5_requireLevel_9 : decode cX5_requireLevel 9 = .ok (.getfield 219, 3) := by decide +kernel
theorem dX5_requireLevel_12 : decode cX5_requireLevel 12 = .ok (.invokevirtual 249, 3) := by decide +kernel
theorem dX5_requireLevel_15 : decode cX5_requireLevel 15 = .ok (.if_icmp .lt 14, 3) := by decide +kernel
theorem dX5_requireLevel_18 : decode cX5_requireLevel 18 = .ok (.new 192, 3) := by decide +kernel
theorem dX5_requireLevel_21 : decode cX5_requireLevel 21 = .ok (.dup, 1) := by decide +kernel
theorem dX5_requireLevel_22 : decode cX5_requireLevel 22 = .ok (.ldc_w 336, 3) := by decide +kernel
theorem dX5_requireLevel_25 : decode cX5_requireLevel 25 = .ok (.invokespecial 196, 3) := by decide +kernel
theorem dX5_requireLevel_28 : decode cX5_requireLevel 28 = .ok (.athrow, 1) := by decide +kernel
theorem dX5_requireLevel_29 : decode cX5_requireLevel 29 = .ok (.return_, 1) := by decide +kernel
theorem dX5_requireNode_0 : decode cX5_requireNode 0 = .ok (.iload_n 2, 1) := by decide +kernel
theorem dX5_requireNode_1 : decode cX5_requireNode 1 = .ok (.ifCond .lt 18, 3) := by decide +kernel
theorem dX5_requireNode_4 : decode cX5_requireNode 4 = .ok (.iload_n 2, 1) := by decide +kernel
theorem dX5_requireNode_5 : decode cX5_requireNode 5 = .ok (.aload_n 0, 1) := by decide +kernel
theorem dX5_requireNode_6 : decode cX5_requireNode 6 = .ok (.getfield 12, 3) := by decide +kernel
theorem dX5_requireNode_9 : decode cX5_requireNode 9 = .ok (.getfield 219, 3) := by decide +kernel
theorem dX5_requireNode_12 : decode cX5_requireNode 12 = .ok (.iload_n 1, 1) := by decide +kernel
theorem dX5_requireNode_13 : decode cX5_requireNode 13 = .ok (.invokevirtual 255, 3) := by decide +kernel
theorem dX5_requireNode_16 : decode cX5_requireNode 16 = .ok (.if_icmp .lt 14, 3) := by decide +kernel
theorem dX5_requireNode_19 : decode cX5_requireNode 19 = .ok (.new 192, 3) := by decide +kernel
theorem dX5_requireNode_22 : decode cX5_requireNode 22 = .ok (.dup, 1) := by decide +kernel
theorem dX5_requireNode_23 : decode cX5_requireNode 23 = .ok (.ldc_w 338, 3) := by decide +kernel
theorem dX5_requireNode_26 : decode cX5_requireNode 26 = .ok (.invokespecial 196, 3) := by decide +kernel
theorem dX5_requireNode_29 : decode cX5_requireNode 29 = .ok (.athrow, 1) := by decide +kernel
theorem dX5_requireNode_30 : decode cX5_requireNode 30 = .ok (.return_, 1) := by decide +kernel
theorem dX5_saveUnlessRefused_0 : decode cX5_saveUnlessRefused 0 = .ok (.iload_n 1, 1) := by decide +kernel
theorem dX5_saveUnlessRefused_1 : decode cX5_saveUnlessRefused 1 = .ok (.iconst (-1), 1) := by decide +kernel
theorem dX5_saveUnlessRefused_2 : decode cX5_saveUnlessRefused 2 = .ok (.if_icmp .ne 14, 3) := by decide +kernel
theorem dX5_saveUnlessRefused_5 : decode cX5_saveUnlessRefused 5 = .ok (.new 108, 3) := by decide +kernel
theorem dX5_saveUnlessRefused_8 : decode cX5_saveUnlessRefused 8 = .ok (.dup, 1) := by decide +kernel
theorem dX5_saveUnlessRefused_9 : decode cX5_saveUnlessRefused 9 = .ok (.ldc_w 340, 3) := by decide +kernel
theorem dX5_saveUnlessRefused_12 : decode cX5_saveUnlessRefused 12 = .ok (.invokespecial 112, 3) := by decide +kernel
theorem dX5_saveUnlessRefused_15 : decode cX5_saveUnlessRefused 15 = .ok (.athrow, 1) := by decide +kernel
theorem dX5_saveUnlessRefused_16 : decode cX5_saveUnlessRefused 16 = .ok (.aload_n 0, 1) := by decide +kernel
theorem dX5_saveUnlessRefused_17 : decode cX5_saveUnlessRefused 17 = .ok (.invokevirtual 95, 3) := by decide +kernel
theorem dX5_saveUnlessRefused_20 : decode cX5_saveUnlessRefused 20 = .ok (.iload_n 1, 1) := by decide +kernel
theorem dX5_saveUnlessRefused_21 : decode cX5_saveUnlessRefused 21 = .ok (.ireturn, 1) := by decide +kernel
theorem dX5_saveSpare_0 : decode cX5_saveSpare 0 = .ok (.aload_n 0, 1) := by decide +kernel
theorem dX5_saveSpare_1 : decode cX5_saveSpare 1 = .ok (.getfield 157, 3) := by decide +kernel
theorem dX5_saveSpare_4 : decode cX5_saveSpare 4 = .ok (.aload_n 0, 1) := by decide +kernel
theorem dX5_saveSpare_5 : decode cX5_saveSpare 5 = .ok (.getfield 19, 3) := by decide +kernel
theorem dX5_saveSpare_8 : decode cX5_saveSpare 8 = .ok (.arraylength, 1) := by decide +kernel
theorem dX5_saveSpare_9 : decode cX5_saveSpare 9 = .ok (.if_icmp .lt 7, 3) := by decide +kernel
theorem dX5_saveSpare_12 : decode cX5_saveSpare 12 = .ok (.aload_n 0, 1) := by decide +kernel
theorem dX5_saveSpare_13 : decode cX5_saveSpare 13 = .ok (.invokevirtual 342, 3) := by decide +kernel
theorem dX5_saveSpare_16 : decode cX5_saveSpare 16 = .ok (.aload_n 0, 1) := by decide +kernel
theorem dX5_saveSpare_17 : decode cX5_saveSpare 17 = .ok (.getfield 157, 3) := by decide +kernel
theorem dX5_saveSpare_20 : decode cX5_saveSpare 20 = .ok (.ifCond .lt 15, 3) := by decide +kernel
theorem dX5_saveSpare_23 : decode cX5_saveSpare 23 = .ok (.aload_n 0, 1) := by decide +kernel
theorem dX5_saveSpare_24 : decode cX5_saveSpare 24 = .ok (.getfield 157, 3) := by decide +kernel
theorem dX5_saveSpare_27 : decode cX5_saveSpare 27 = .ok (.aload_n 0, 1) := by decide +kernel
theorem dX5_saveSpare_28 : decode cX5_saveSpare 28 = .ok (.getfield 19, 3) := by decide +kernel
theorem dX5_saveSpare_31 : decode cX5_saveSpare 31 = .ok (.arraylength, 1) := by decide +kernel
theorem dX5_saveSpare_32 : decode cX5_saveSpare 32 = .ok (.if_icmp .lt 4, 3) := by decide +kernel
theorem dX5_saveSpare_35 : decode cX5_saveSpare 35 = .ok (.return_, 1) := by decide +kernel
theorem dX5_saveSpare_36 : decode cX5_saveSpare 36 = .ok (.aload_n 0, 1) := by decide +kernel
theorem dX5_saveSpare_37 : decode cX5_saveSpare 37 = .ok (.getfield 19, 3) := by decide +kernel
theorem dX5_saveSpare_40 : decode cX5_saveSpare 40 = .ok (.aload_n 0, 1) := by decide +kernel
theorem dX5_saveSpare_41 : decode cX5_saveSpare 41 = .ok (.getfield 157, 3) := by decide +kernel
theorem dX5_saveSpare_44 : decode cX5_saveSpare 44 = .ok (.aaload, 1) := by decide +kernel
theorem dX5_saveSpare_45 : decode cX5_saveSpare 45 = .ok (.astore_n 1, 1) := by decide +kernel
theorem dX5_saveSpare_46 : decode cX5_saveSpare 46 = .ok (.aload_n 0, 1) := by decide +kernel
theorem dX5_saveSpare_47 : decode cX5_saveSpare 47 = .ok (.getfield 19, 3) := by decide +kernel
theorem dX5_saveSpare_50 : decode cX5_saveSpare 50 = .ok (.aload_n 0, 1) := by decide +kernel
theorem dX5_saveSpare_51 : decode cX5_saveSpare 51 = .ok (.getfield 157, 3) := by decide +kernel
theorem dX5_saveSpare_54 : decode cX5_saveSpare 54 = .ok (.aload_n 0, 1) := by decide +kernel
theorem dX5_saveSpare_55 : decode cX5_saveSpare 55 = .ok (.getfield 16, 3) := by decide +kernel
theorem dX5_saveSpare_58 : decode cX5_saveSpare 58 = .ok (.aastore, 1) := by decide +kernel
theorem dX5_saveSpare_59 : decode cX5_saveSpare 59 = .ok (.aload_n 0, 1) := by decide +kernel
theorem dX5_saveSpare_60 : decode cX5_saveSpare 60 = .ok (.dup, 1) := by decide +kernel
theorem dX5_saveSpare_61 : decode cX5_saveSpare 61 = .ok (.getfield 157, 3) := by decide +kernel
theorem dX5_saveSpare_64 : decode cX5_saveSpare 64 = .ok (.iconst 1, 1) := by decide +kernel
theorem dX5_saveSpare_65 : decode cX5_saveSpare 65 = .ok (.iadd, 1) := by decide +kernel
theorem dX5_saveSpare_66 : decode cX5_saveSpare 66 = .ok (.putfield 157, 3) := by decide +kernel
theorem dX5_saveSpare_69 : decode cX5_saveSpare 69 = .ok (.aload_n 0, 1) := by decide +kernel
theorem dX5_saveSpare_70 : decode cX5_saveSpare 70 = .ok (.aload_n 1, 1) := by decide +kernel
theorem dX5_saveSpare_71 : decode cX5_saveSpare 71 = .ok (.ifnonnull 13, 3) := by decide +kernel
theorem dX5_saveSpare_74 : decode cX5_saveSpare 74 = .ok (.new 9, 3) := by decide +kernel
theorem dX5_saveSpare_77 : decode cX5_saveSpare 77 = .ok (.dup, 1) := by decide +kernel
theorem dX5_saveSpare_78 : decode cX5_saveSpare 78 = .ok (.invokespecial 11, 3) := by decide +kernel
theorem dX5_saveSpare_81 : decode cX5_saveSpare 81 = .ok (.goto 4, 3) := by decide +kernel
theorem dX5_saveSpare_84 : decode cX5_saveSpare 84 = .ok (.aload_n 1, 1) := by decide +kernel
theorem dX5_saveSpare_85 : decode cX5_saveSpare 85 = .ok (.putfield 16, 3) := by decide +kernel
theorem dX5_saveSpare_88 : decode cX5_saveSpare 88 = .ok (.return_, 1) := by decide +kernel
theorem dX5_moveOldestBehind_0 : decode cX5_moveOldestBehind 0 = .ok (.aload_n 0, 1) := by decide +kernel
theorem dX5_moveOldestBehind_1 : decode cX5_moveOldestBehind 1 = .ok (.getfield 19, 3) := by decide +kernel
theorem dX5_moveOldestBehind_4 : decode cX5_moveOldestBehind 4 = .ok (.arraylength, 1) := by decide +kernel
theorem dX5_moveOldestBehind_5 : decode cX5_moveOldestBehind 5 = .ok (.ifCond .ne 4, 3) := by decide +kernel
theorem dX5_moveOldestBehind_8 : decode cX5_moveOldestBehind 8 = .ok (.return_, 1) := by decide +kernel
theorem dX5_moveOldestBehind_9 : decode cX5_moveOldestBehind 9 = .ok (.aload_n 0, 1) := by decide +kernel
theorem dX5_moveOldestBehind_10 : decode cX5_moveOldestBehind 10 = .ok (.getfield 19, 3) := by decide +kernel
theorem dX5_moveOldestBehind_13 : decode cX5_moveOldestBehind 13 = .ok (.iconst 0, 1) := by decide +kernel
theorem dX5_moveOldestBehind_14 : decode cX5_moveOldestBehind 14 = .ok (.aaload, 1) := by decide +kernel
theorem dX5_moveOldestBehind_15 : decode cX5_moveOldestBehind 15 = .ok (.astore_n 1, 1) := by decide +kernel
theorem dX5_moveOldestBehind_16 : decode cX5_moveOldestBehind 16 = .ok (.iconst 1, 1) := by decide +kernel
theorem dX5_moveOldestBehind_17 : decode cX5_moveOldestBehind 17 = .ok (.istore_n 2, 1) := by decide +kernel
theorem dX5_moveOldestBehind_18 : decode cX5_moveOldestBehind 18 = .ok (.iload_n 2, 1) := by decide +kernel
theorem dX5_moveOldestBehind_19 : decode cX5_moveOldestBehind 19 = .ok (.aload_n 0, 1) := by decide +kernel
theorem dX5_moveOldestBehind_20 : decode cX5_moveOldestBehind 20 = .ok (.getfield 19, 3) := by decide +kernel
theorem dX5_moveOldestBehind_23 : decode cX5_moveOldestBehind 23 = .ok (.arraylength, 1) := by decide +kernel
theorem dX5_moveOldestBehind_24 : decode cX5_moveOldestBehind 24 = .ok (.if_icmp .ge 23, 3) := by decide +kernel
theorem dX5_moveOldestBehind_27 : decode cX5_moveOldestBehind 27 = .ok (.aload_n 0, 1) := by decide +kernel
theorem dX5_moveOldestBehind_28 : decode cX5_moveOldestBehind 28 = .ok (.getfield 19, 3) := by decide +kernel
theorem dX5_moveOldestBehind_31 : decode cX5_moveOldestBehind 31 = .ok (.iload_n 2, 1) := by decide +kernel
theorem dX5_moveOldestBehind_32 : decode cX5_moveOldestBehind 32 = .ok (.iconst 1, 1) := by decide +kernel
theorem dX5_moveOldestBehind_33 : decode cX5_moveOldestBehind 33 = .ok (.isub, 1) := by decide +kernel
theorem dX5_moveOldestBehind_34 : decode cX5_moveOldestBehind 34 = .ok (.aload_n 0, 1) := by decide +kernel
theorem dX5_moveOldestBehind_35 : decode cX5_moveOldestBehind 35 = .ok (.getfield 19, 3) := by decide +kernel
theorem dX5_moveOldestBehind_38 : decode cX5_moveOldestBehind 38 = .ok (.iload_n 2, 1) := by decide +kernel
theorem dX5_moveOldestBehind_39 : decode cX5_moveOldestBehind 39 = .ok (.aaload, 1) := by decide +kernel
theorem dX5_moveOldestBehind_40 : decode cX5_moveOldestBehind 40 = .ok (.aastore, 1) := by decide +kernel
theorem dX5_moveOldestBehind_41 : decode cX5_moveOldestBehind 41 = .ok (.iinc 2 1, 3) := by decide +kernel
theorem dX5_moveOldestBehind_44 : decode cX5_moveOldestBehind 44 = .ok (.goto (-26), 3) := by decide +kernel
theorem dX5_moveOldestBehind_47 : decode cX5_moveOldestBehind 47 = .ok (.aload_n 0, 1) := by decide +kernel
theorem dX5_moveOldestBehind_48 : decode cX5_moveOldestBehind 48 = .ok (.getfield 19, 3) := by decide +kernel
theorem dX5_moveOldestBehind_51 : decode cX5_moveOldestBehind 51 = .ok (.aload_n 0, 1) := by decide +kernel
theorem dX5_moveOldestBehind_52 : decode cX5_moveOldestBehind 52 = .ok (.getfield 19, 3) := by decide +kernel
theorem dX5_moveOldestBehind_55 : decode cX5_moveOldestBehind 55 = .ok (.arraylength, 1) := by decide +kernel
theorem dX5_moveOldestBehind_56 : decode cX5_moveOldestBehind 56 = .ok (.iconst 1, 1) := by decide +kernel
theorem dX5_moveOldestBehind_57 : decode cX5_moveOldestBehind 57 = .ok (.isub, 1) := by decide +kernel
theorem dX5_moveOldestBehind_58 : decode cX5_moveOldestBehind 58 = .ok (.aload_n 1, 1) := by decide +kernel
theorem dX5_moveOldestBehind_59 : decode cX5_moveOldestBehind 59 = .ok (.aastore, 1) := by decide +kernel
theorem dX5_moveOldestBehind_60 : decode cX5_moveOldestBehind 60 = .ok (.aload_n 0, 1) := by decide +kernel
theorem dX5_moveOldestBehind_61 : decode cX5_moveOldestBehind 61 = .ok (.aload_n 0, 1) := by decide +kernel
theorem dX5_moveOldestBehind_62 : decode cX5_moveOldestBehind 62 = .ok (.getfield 19, 3) := by decide +kernel
theorem dX5_moveOldestBehind_65 : decode cX5_moveOldestBehind 65 = .ok (.arraylength, 1) := by decide +kernel
theorem dX5_moveOldestBehind_66 : decode cX5_moveOldestBehind 66 = .ok (.iconst 1, 1) := by decide +kernel
theorem dX5_moveOldestBehind_67 : decode cX5_moveOldestBehind 67 = .ok (.isub, 1) := by decide +kernel
theorem dX5_moveOldestBehind_68 : decode cX5_moveOldestBehind 68 = .ok (.putfield 157, 3) := by decide +kernel
theorem dX5_moveOldestBehind_71 : decode cX5_moveOldestBehind 71 = .ok (.return_, 1) := by decide +kernel
theorem dX5_latestSaved_0 : decode cX5_latestSaved 0 = .ok (.aload_n 0, 1) := by decide +kernel
theorem dX5_latestSaved_1 : decode cX5_latestSaved 1 = .ok (.getfield 157, 3) := by decide +kernel
theorem dX5_latestSaved_4 : decode cX5_latestSaved 4 = .ok (.iconst 1, 1) := by decide +kernel
theorem dX5_latestSaved_5 : decode cX5_latestSaved 5 = .ok (.isub, 1) := by decide +kernel
theorem dX5_latestSaved_6 : decode cX5_latestSaved 6 = .ok (.istore_n 1, 1) := by decide +kernel
theorem dX5_latestSaved_7 : decode cX5_latestSaved 7 = .ok (.iload_n 1, 1) := by decide +kernel
theorem dX5_latestSaved_8 : decode cX5_latestSaved 8 = .ok (.ifCond .lt 12, 3) := by decide +kernel
theorem dX5_latestSaved_11 : decode cX5_latestSaved 11 = .ok (.iload_n 1, 1) := by decide +kernel
theorem dX5_latestSaved_12 : decode cX5_latestSaved 12 = .ok (.aload_n 0, 1) := by decide +kernel
theorem dX5_latestSaved_13 : decode cX5_latestSaved 13 = .ok (.getfield 19, 3) := by decide +kernel
theorem dX5_latestSaved_16 : decode cX5_latestSaved 16 = .ok (.arraylength, 1) := by decide +kernel
theorem dX5_latestSaved_17 : decode cX5_latestSaved 17 = .ok (.if_icmp .lt 7, 3) := by decide +kernel
theorem dX5_latestSaved_20 : decode cX5_latestSaved 20 = .ok (.aconst_null, 1) := by decide +kernel
theorem dX5_latestSaved_21 : decode cX5_latestSaved 21 = .ok (.goto 9, 3) := by decide +kernel
theorem dX5_latestSaved_24 : decode cX5_latestSaved 24 = .ok (.aload_n 0, 1) := by decide +kernel
theorem dX5_latestSaved_25 : decode cX5_latestSaved 25 = .ok (.getfield 19, 3) := by decide +kernel
theorem dX5_latestSaved_28 : decode cX5_latestSaved 28 = .ok (.iload_n 1, 1) := by decide +kernel
theorem dX5_latestSaved_29 : decode cX5_latestSaved 29 = .ok (.aaload, 1) := by decide +kernel
theorem dX5_latestSaved_30 : decode cX5_latestSaved 30 = .ok (.areturn, 1) := by decide +kernel
theorem dX5_slotAt_0 : decode cX5_slotAt 0 = .ok (.iload_n 1, 1) := by decide +kernel
theorem dX5_slotAt_1 : decode cX5_slotAt 1 = .ok (.ifCond .lt 12, 3) := by decide +kernel
theorem dX5_slotAt_4 : decode cX5_slotAt 4 = .ok (.iload_n 1, 1) := by decide +kernel
theorem dX5_slotAt_5 : decode cX5_slotAt 5 = .ok (.aload_n 0, 1) := by decide +kernel
theorem dX5_slotAt_6 : decode cX5_slotAt 6 = .ok (.getfield 23, 3) := by decide +kernel
theorem dX5_slotAt_9 : decode cX5_slotAt 9 = .ok (.arraylength, 1) := by decide +kernel
theorem dX5_slotAt_10 : decode cX5_slotAt 10 = .ok (.if_icmp .lt 7, 3) := by decide +kernel
theorem dX5_slotAt_13 : decode cX5_slotAt 13 = .ok (.aconst_null, 1) := by decide +kernel
theorem dX5_slotAt_14 : decode cX5_slotAt 14 = .ok (.goto 9, 3) := by decide +kernel
theorem dX5_slotAt_17 : decode cX5_slotAt 17 = .ok (.aload_n 0, 1) := by decide +kernel
theorem dX5_slotAt_18 : decode cX5_slotAt 18 = .ok (.getfield 23, 3) := by decide +kernel
theorem dX5_slotAt_21 : decode cX5_slotAt 21 = .ok (.iload_n 1, 1) := by decide +kernel
theorem dX5_slotAt_22 : decode cX5_slotAt 22 = .ok (.aaload, 1) := by decide +kernel
theorem dX5_slotAt_23 : decode cX5_slotAt 23 = .ok (.areturn, 1) := by decide +kernel
theorem dX5_fillSlot_0 : decode cX5_fillSlot 0 = .ok (.iload_n 1, 1) := by decide +kernel
theorem dX5_fillSlot_1 : decode cX5_fillSlot 1 = .ok (.ifCond .lt 19, 3) := by decide +kernel
theorem dX5_fillSlot_4 : decode cX5_fillSlot 4 = .ok (.iload_n 1, 1) := by decide +kernel
theorem dX5_fillSlot_5 : decode cX5_fillSlot 5 = .ok (.aload_n 0, 1) := by decide +kernel
theorem dX5_fillSlot_6 : decode cX5_fillSlot 6 = .ok (.getfield 23, 3) := by decide +kernel
theorem dX5_fillSlot_9 : decode cX5_fillSlot 9 = .ok (.arraylength, 1) := by decide +kernel
theorem dX5_fillSlot_10 : decode cX5_fillSlot 10 = .ok (.if_icmp .ge 10, 3) := by decide +kernel
theorem dX5_fillSlot_13 : decode cX5_fillSlot 13 = .ok (.aload_n 0, 1) := by decide +kernel
theorem dX5_fillSlot_14 : decode cX5_fillSlot 14 = .ok (.getfield 23, 3) := by decide +kernel
theorem dX5_fillSlot_17 : decode cX5_fillSlot 17 = .ok (.iload_n 1, 1) := by decide +kernel
theorem dX5_fillSlot_18 : decode cX5_fillSlot 18 = .ok (.aload_n 2, 1) := by decide +kernel
theorem dX5_fillSlot_19 : decode cX5_fillSlot 19 = .ok (.aastore, 1) := by decide +kernel
theorem dX5_fillSlot_20 : decode cX5_fillSlot 20 = .ok (.return_, 1) := by decide +kernel
theorem dX5_copyNumbers_0 : decode cX5_copyNumbers 0 = .ok (.aload_n 0, 1) := by decide +kernel
theorem dX5_copyNumbers_1 : decode cX5_copyNumbers 1 = .ok (.arraylength, 1) := by decide +kernel
theorem dX5_copyNumbers_2 : decode cX5_copyNumbers 2 = .ok (.aload_n 1, 1) := by decide +kernel
theorem dX5_copyNumbers_3 : decode cX5_copyNumbers 3 = .ok (.arraylength, 1) := by decide +kernel
theorem dX5_copyNumbers_4 : decode cX5_copyNumbers 4 = .ok (.invokestatic 345, 3) := by decide +kernel
theorem dX5_copyNumbers_7 : decode cX5_copyNumbers 7 = .ok (.istore_n 3, 1) := by decide +kernel
theorem dX5_copyNumbers_8 : decode cX5_copyNumbers 8 = .ok (.iconst 0, 1) := by decide +kernel
theorem dX5_copyNumbers_9 : decode cX5_copyNumbers 9 = .ok (.iload_n 2, 1) := by decide +kernel
theorem dX5_copyNumbers_10 : decode cX5_copyNumbers 10 = .ok (.iload_n 3, 1) := by decide +kernel
theorem dX5_copyNumbers_11 : decode cX5_copyNumbers 11 = .ok (.invokestatic 345, 3) := by decide +kernel
theorem dX5_copyNumbers_14 : decode cX5_copyNumbers 14 = .ok (.invokestatic 350, 3) := by decide +kernel
theorem dX5_copyNumbers_17 : decode cX5_copyNumbers 17 = .ok (.istore 4, 2) := by decide +kernel
theorem dX5_copyNumbers_19 : decode cX5_copyNumbers 19 = .ok (.aload_n 0, 1) := by decide +kernel
theorem dX5_copyNumbers_20 : decode cX5_copyNumbers 20 = .ok (.iconst 0, 1) := by decide +kernel
theorem dX5_copyNumbers_21 : decode cX5_copyNumbers 21 = .ok (.aload_n 1, 1) := by decide +kernel
theorem dX5_copyNumbers_22 : decode cX5_copyNumbers 22 = .ok (.iconst 0, 1) := by decide +kernel
theorem dX5_copyNumbers_23 : decode cX5_copyNumbers 23 = .ok (.iload 4, 2) := by decide +kernel
theorem dX5_copyNumbers_25 : decode cX5_copyNumbers 25 = .ok (.invokestatic 353, 3) := by decide +kernel
theorem dX5_copyNumbers_28 : decode cX5_copyNumbers 28 = .ok (.iload 4, 2) := by decide +kernel
theorem dX5_copyNumbers_30 : decode cX5_copyNumbers 30 = .ok (.ireturn, 1) := by decide +kernel
theorem dX5_carryOutAll_0 : decode cX5_carryOutAll 0 = .ok (.aload_n 0, 1) := by decide +kernel
theorem dX5_carryOutAll_1 : decode cX5_carryOutAll 1 = .ok (.getfield 33, 3) := by decide +kernel
theorem dX5_carryOutAll_4 : decode cX5_carryOutAll 4 = .ok (.invokevirtual 359, 3) := by decide +kernel
theorem dX5_carryOutAll_7 : decode cX5_carryOutAll 7 = .ok (.iconst 0, 1) := by decide +kernel
theorem dX5_carryOutAll_8 : decode cX5_carryOutAll 8 = .ok (.istore_n 1, 1) := by decide +kernel
theorem dX5_carryOutAll_9 : decode cX5_carryOutAll 9 = .ok (.iload_n 1, 1) := by decide +kernel
theorem dX5_carryOutAll_10 : decode cX5_carryOutAll 10 = .ok (.aload_n 0, 1) := by decide +kernel
theorem dX5_carryOutAll_11 : decode cX5_carryOutAll 11 = .ok (.getfield 105, 3) := by decide +kernel
theorem dX5_carryOutAll_14 : decode cX5_carryOutAll 14 = .ok (.if_icmp .ge 52, 3) := by decide +kernel
theorem dX5_carryOutAll_17 : decode cX5_carryOutAll 17 = .ok (.iload_n 1, 1) := by decide +kernel
theorem dX5_carryOutAll_18 : decode cX5_carryOutAll 18 = .ok (.aload_n 0, 1) := by decide +kernel
theorem dX5_carryOutAll_19 : decode cX5_carryOutAll 19 = .ok (.getfield 26, 3) := by decide +kernel
theorem dX5_carryOutAll_22 : decode cX5_carryOutAll 22 = .ok (.arraylength, 1) := by decide +kernel
theorem dX5_carryOutAll_23 : decode cX5_carryOutAll 23 = .ok (.if_icmp .ge 43, 3) := by decide +kernel
theorem dX5_carryOutAll_26 : decode cX5_carryOutAll 26 = .ok (.aload_n 0, 1) := by decide +kernel
theorem dX5_carryOutAll_27 : decode cX5_carryOutAll 27 = .ok (.getfield 26, 3) := by decide +kernel
theorem dX5_carryOutAll_30 : decode cX5_carryOutAll 30 = .ok (.iload_n 1, 1) := by decide +kernel
theorem dX5_carryOutAll_31 : decode cX5_carryOutAll 31 = .ok (.iaload, 1) := by decide +kernel
theorem dX5_carryOutAll_32 : decode cX5_carryOutAll 32 = .ok (.bipush 59, 2) := by decide +kernel
theorem dX5_carryOutAll_34 : decode cX5_carryOutAll 34 = .ok (.if_icmp .ne 12, 3) := by decide +kernel
theorem dX5_carryOutAll_37 : decode cX5_carryOutAll 37 = .ok (.aload_n 0, 1) := by decide +kernel
theorem dX5_carryOutAll_38 : decode cX5_carryOutAll 38 = .ok (.invokevirtual 362, 3) := by decide +kernel
theorem dX5_carryOutAll_41 : decode cX5_carryOutAll 41 = .ok (.ifCond .ne 5, 3) := by decide +kernel
theorem dX5_carryOutAll_44 : decode cX5_carryOutAll 44 = .ok (.iconst 0, 1) := by decide +kernel
theorem dX5_carryOutAll_45 : decode cX5_carryOutAll 45 = .ok (.ireturn, 1) := by decide +kernel
theorem dX5_carryOutAll_46 : decode cX5_carryOutAll 46 = .ok (.aload_n 0, 1) := by decide +kernel
theorem dX5_carryOutAll_47 : decode cX5_carryOutAll 47 = .ok (.getfield 33, 3) := by decide +kernel
theorem dX5_carryOutAll_50 : decode cX5_carryOutAll 50 = .ok (.aload_n 0, 1) := by decide +kernel
theorem dX5_carryOutAll_51 : decode cX5_carryOutAll 51 = .ok (.getfield 26, 3) := by decide +kernel
theorem dX5_carryOutAll_54 : decode cX5_carryOutAll 54 = .ok (.iload_n 1, 1) := by decide +kernel
theorem dX5_carryOutAll_55 : decode cX5_carryOutAll 55 = .ok (.iaload, 1) := by decide +kernel
theorem dX5_carryOutAll_56 : decode cX5_carryOutAll 56 = .ok (.invokevirtual 365, 3) := by decide +kernel
theorem dX5_carryOutAll_59 : decode cX5_carryOutAll 59 = .ok (.pop, 1) := by decide +kernel
theorem dX5_carryOutAll_60 : decode cX5_carryOutAll 60 = .ok (.iinc 1 1, 3) := by decide +kernel
theorem dX5_carryOutAll_63 : decode cX5_carryOutAll 63 = .ok (.goto (-54), 3) := by decide +kernel
theorem dX5_carryOutAll_66 : decode cX5_carryOutAll 66 = .ok (.aload_n 0, 1) := by decide +kernel
theorem dX5_carryOutAll_67 : decode cX5_carryOutAll 67 = .ok (.invokevirtual 362, 3) := by decide +kernel
theorem dX5_carryOutAll_70 : decode cX5_carryOutAll 70 = .ok (.ireturn, 1) := by decide +kernel
theorem dX5_carryOut_0 : decode cX5_carryOut 0 = .ok (.aload_n 0, 1) := by decide +kernel
theorem dX5_carryOut_1 : decode cX5_carryOut 1 = .ok (.getfield 33, 3) := by decide +kernel
theorem dX5_carryOut_4 : decode cX5_carryOut 4 = .ok (.getfield 368, 3) := by decide +kernel
theorem dX5_carryOut_7 : decode cX5_carryOut 7 = .ok (.tableswitch 229 98 112 #[146, 129, 104, 205, 229, 229, 229, 174, 229, 229, 229, 229, 229, 229, 73], 73) := by decide +kernel
theorem dX5_carryOut_80 : decode cX5_carryOut 80 = .ok (.aload_n 0, 1) := by decide +kernel
theorem dX5_carryOut_81 : decode cX5_carryOut 81 = .ok (.getfield 12, 3) := by decide +kernel
theorem dX5_carryOut_84 : decode cX5_carryOut 84 = .ok (.aload_n 0, 1) := by decide +kernel
theorem dX5_carryOut_85 : decode cX5_carryOut 85 = .ok (.getfield 33, 3) := by decide +kernel
theorem dX5_carryOut_88 : decode cX5_carryOut 88 = .ok (.getfield 371, 3) := by decide +kernel
theorem dX5_carryOut_91 : decode cX5_carryOut 91 = .ok (.aload_n 0, 1) := by decide +kernel
theorem dX5_carryOut_92 : decode cX5_carryOut 92 = .ok (.getfield 33, 3) := by decide +kernel
theorem dX5_carryOut_95 : decode cX5_carryOut 95 = .ok (.getfield 374, 3) := by decide +kernel
theorem dX5_carryOut_98 : decode cX5_carryOut 98 = .ok (.invokevirtual 55, 3) := by decide +kernel
theorem dX5_carryOut_101 : decode cX5_carryOut 101 = .ok (.iconst (-1), 1) := by decide +kernel
theorem dX5_carryOut_102 : decode cX5_carryOut 102 = .ok (.if_icmp .eq 7, 3) := by decide +kernel
theorem dX5_carryOut_105 : decode cX5_carryOut 105 = .ok (.iconst 1, 1) := by decide +kernel
theorem dX5_carryOut_106 : decode cX5_carryOut 106 = .ok (.goto 4, 3) := by decide +kernel
theorem dX5_carryOut_109 : decode cX5_carryOut 109 = .ok (.iconst 0, 1) := by decide +kernel
theorem dX5_carryOut_110 : decode cX5_carryOut 110 = .ok (.ireturn, 1) := by decide +kernel
theorem dX5_carryOut_111 : decode cX5_carryOut 111 = .ok (.aload_n 0, 1) := by decide +kernel
theorem dX5_carryOut_112 : decode cX5_carryOut 112 = .ok (.getfield 12, 3) := by decide +kernel
theorem dX5_carryOut_115 : decode cX5_carryOut 115 = .ok (.aload_n 0, 1) := by decide +kernel
theorem dX5_carryOut_116 : decode cX5_carryOut 116 = .ok (.getfield 33, 3) := by decide +kernel
theorem dX5_carryOut_119 : decode cX5_carryOut 119 = .ok (.getfield 371, 3) := by decide +kernel
theorem dX5_carryOut_122 : decode cX5_carryOut 122 = .ok (.iconst (-1), 1) := by decide +kernel
theorem dX5_carryOut_123 : decode cX5_carryOut 123 = .ok (.invokevirtual 55, 3) := by decide +kernel
theorem dX5_carryOut_126 : decode cX5_carryOut 126 = .ok (.iconst (-1), 1) := by decide +kernel
theorem dX5_carryOut_127 : decode cX5_carryOut 127 = .ok (.if_icmp .eq 7, 3) := by decide +kernel
theorem dX5_carryOut_130 : decode cX5_carryOut 130 = .ok (.iconst 1, 1) := by decide +kernel
theorem dX5_carryOut_131 : decode cX5_carryOut 131 = .ok (.goto 4, 3) := by decide +kernel
theorem dX5_carryOut_134 : decode cX5_carryOut 134 = .ok (.iconst 0, 1) := by decide +kernel
theorem dX5_carryOut_135 : decode cX5_carryOut 135 = .ok (.ireturn, 1) := by decide +kernel
theorem dX5_carryOut_136 : decode cX5_carryOut 136 = .ok (.aload_n 0, 1) := by decide +kernel
theorem dX5_carryOut_137 : decode cX5_carryOut 137 = .ok (.getfield 12, 3) := by decide +kernel
theorem dX5_carryOut_140 : decode cX5_carryOut 140 = .ok (.invokevirtual 63, 3) := by decide +kernel
theorem dX5_carryOut_143 : decode cX5_carryOut 143 = .ok (.iconst (-1), 1) := by decide +kernel
theorem dX5_carryOut_144 : decode cX5_carryOut 144 = .ok (.if_icmp .eq 7, 3) := by decide +kernel
theorem dX5_carryOut_147 : decode cX5_carryOut 147 = .ok (.iconst 1, 1) := by decide +kernel
theorem dX5_carryOut_148 : decode cX5_carryOut 148 = .ok (.goto 4, 3) := by decide +kernel
theorem dX5_carryOut_151 : decode cX5_carryOut 151 = .ok (.iconst 0, 1) := by decide +kernel
theorem dX5_carryOut_152 : decode cX5_carryOut 152 = .ok (.ireturn, 1) := by decide +kernel
theorem dX5_carryOut_153 : decode cX5_carryOut 153 = .ok (.aload_n 0, 1) := by decide +kernel
theorem dX5_carryOut_154 : decode cX5_carryOut 154 = .ok (.getfield 12, 3) := by decide +kernel
theorem dX5_carryOut_157 : decode cX5_carryOut 157 = .ok (.aload_n 0, 1) := by decide +kernel
theorem dX5_carryOut_158 : decode cX5_carryOut 158 = .ok (.getfield 33, 3) := by decide +kernel
theorem dX5_carryOut_161 : decode cX5_carryOut 161 = .ok (.getfield 371, 3) := by decide +kernel
theorem dX5_carryOut_164 : decode cX5_carryOut 164 = .ok (.aload_n 0, 1) := by decide +kernel
theorem dX5_carryOut_165 : decode cX5_carryOut 165 = .ok (.getfield 40, 3) := by decide +kernel
theorem dX5_carryOut_168 : decode cX5_carryOut 168 = .ok (.invokevirtual 74, 3) := by decide +kernel
theorem dX5_carryOut_171 : decode cX5_carryOut 171 = .ok (.iconst (-1), 1) := by decide +kernel
theorem dX5_carryOut_172 : decode cX5_carryOut 172 = .ok (.if_icmp .eq 7, 3) := by decide +kernel
theorem dX5_carryOut_175 : decode cX5_carryOut 175 = .ok (.iconst 1, 1) := by decide +kernel
theorem dX5_carryOut_176 : decode cX5_carryOut 176 = .ok (.goto 4, 3) := by decide +kernel
theorem dX5_carryOut_179 : decode cX5_carryOut 179 = .ok (.iconst 0, 1) := by decide +kernel
theorem dX5_carryOut_180 : decode cX5_carryOut 180 = .ok (.ireturn, 1) := by decide +kernel
theorem dX5_carryOut_181 : decode cX5_carryOut 181 = .ok (.aload_n 0, 1) := by decide +kernel
theorem dX5_carryOut_182 : decode cX5_carryOut 182 = .ok (.getfield 12, 3) := by decide +kernel
theorem dX5_carryOut_185 : decode cX5_carryOut 185 = .ok (.aload_n 0, 1) := by decide +kernel
theorem dX5_carryOut_186 : decode cX5_carryOut 186 = .ok (.getfield 33, 3) := by decide +kernel
theorem dX5_carryOut_189 : decode cX5_carryOut 189 = .ok (.getfield 371, 3) := by decide +kernel
theorem dX5_carryOut_192 : decode cX5_carryOut 192 = .ok (.aload_n 0, 1) := by decide +kernel
theorem dX5_carryOut_193 : decode cX5_carryOut 193 = .ok (.getfield 33, 3) := by decide +kernel
theorem dX5_carryOut_196 : decode cX5_carryOut 196 = .ok (.getfield 374, 3) := by decide +kernel
theorem dX5_carryOut_199 : decode cX5_carryOut 199 = .ok (.invokevirtual 78, 3) := by decide +kernel
theorem dX5_carryOut_202 : decode cX5_carryOut 202 = .ok (.iconst (-1), 1) := by decide +kernel
theorem dX5_carryOut_203 : decode cX5_carryOut 203 = .ok (.if_icmp .eq 7, 3) := by decide +kernel
theorem dX5_carryOut_206 : decode cX5_carryOut 206 = .ok (.iconst 1, 1) := by decide +kernel
theorem dX5_carryOut_207 : decode cX5_carryOut 207 = .ok (.goto 4, 3) := by decide +kernel
theorem dX5_carryOut_210 : decode cX5_carryOut 210 = .ok (.iconst 0, 1) := by decide +kernel
theorem dX5_carryOut_211 : decode cX5_carryOut 211 = .ok (.ireturn, 1) := by decide +kernel
theorem dX5_carryOut_212 : decode cX5_carryOut 212 = .ok (.aload_n 0, 1) := by decide +kernel
theorem dX5_carryOut_213 : decode cX5_carryOut 213 = .ok (.getfield 12, 3) := by decide +kernel
theorem dX5_carryOut_216 : decode cX5_carryOut 216 = .ok (.aload_n 0, 1) := by decide +kernel
theorem dX5_carryOut_217 : decode cX5_carryOut 217 = .ok (.getfield 33, 3) := by decide +kernel
theorem dX5_carryOut_220 : decode cX5_carryOut 220 = .ok (.getfield 371, 3) := by decide +kernel
theorem dX5_carryOut_223 : decode cX5_carryOut 223 = .ok (.invokevirtual 81, 3) := by decide +kernel
theorem dX5_carryOut_226 : decode cX5_carryOut 226 = .ok (.iconst (-1), 1) := by decide +kernel
theorem dX5_carryOut_227 : decode cX5_carryOut 227 = .ok (.if_icmp .eq 7, 3) := by decide +kernel
theorem dX5_carryOut_230 : decode cX5_carryOut 230 = .ok (.iconst 1, 1) := by decide +kernel
theorem dX5_carryOut_231 : decode cX5_carryOut 231 = .ok (.goto 4, 3) := by decide +kernel
theorem dX5_carryOut_234 : decode cX5_carryOut 234 = .ok (.iconst 0, 1) := by decide +kernel
theorem dX5_carryOut_235 : decode cX5_carryOut 235 = .ok (.ireturn, 1) := by decide +kernel
theorem dX5_carryOut_236 : decode cX5_carryOut 236 = .ok (.iconst 0, 1) := by decide +kernel
theorem dX5_carryOut_237 : decode cX5_carryOut 237 = .ok (.ireturn, 1) := by decide +kernel
theorem dX5_meanPagesOf_0 : decode cX5_meanPagesOf 0 = .ok (.iconst 0, 1) := by decide +kernel
theorem dX5_meanPagesOf_1 : decode cX5_meanPagesOf 1 = .ok (.istore_n 2, 1) := by decide +kernel
theorem dX5_meanPagesOf_2 : decode cX5_meanPagesOf 2 = .ok (.iconst 0, 1) := by decide +kernel
theorem dX5_meanPagesOf_3 : decode cX5_meanPagesOf 3 = .ok (.istore_n 3, 1) := by decide +kernel
theorem dX5_meanPagesOf_4 : decode cX5_meanPagesOf 4 = .ok (.iload_n 3, 1) := by decide +kernel
theorem dX5_meanPagesOf_5 : decode cX5_meanPagesOf 5 = .ok (.aload_n 1, 1) := by decide +kernel
theorem dX5_meanPagesOf_6 : decode cX5_meanPagesOf 6 = .ok (.getfield 133, 3) := by decide +kernel
theorem dX5_meanPagesOf_9 : decode cX5_meanPagesOf 9 = .ok (.if_icmp .ge 24, 3) := by decide +kernel
theorem dX5_meanPagesOf_12 : decode cX5_meanPagesOf 12 = .ok (.iload_n 2, 1) := by decide +kernel
theorem dX5_meanPagesOf_13 : decode cX5_meanPagesOf 13 = .ok (.aload_n 0, 1) := by decide +kernel
theorem dX5_meanPagesOf_14 : decode cX5_meanPagesOf 14 = .ok (.getfield 12, 3) := by decide +kernel
theorem dX5_meanPagesOf_17 : decode cX5_meanPagesOf 17 = .ok (.aload_n 1, 1) := by decide +kernel
theorem dX5_meanPagesOf_18 : decode cX5_meanPagesOf 18 = .ok (.iload_n 3, 1) := by decide +kernel
theorem dX5_meanPagesOf_19 : decode cX5_meanPagesOf 19 = .ok (.invokevirtual 185, 3) := by decide +kernel
theorem dX5_meanPagesOf_22 : decode cX5_meanPagesOf 22 = .ok (.invokevirtual 169, 3) := by decide +kernel
theorem dX5_meanPagesOf_25 : decode cX5_meanPagesOf 25 = .ok (.iadd, 1) := by decide +kernel
theorem dX5_meanPagesOf_26 : decode cX5_meanPagesOf 26 = .ok (.istore_n 2, 1) := by decide +kernel
theorem dX5_meanPagesOf_27 : decode cX5_meanPagesOf 27 = .ok (.iinc 3 1, 3) := by decide +kernel
theorem dX5_meanPagesOf_30 : decode cX5_meanPagesOf 30 = .ok (.goto (-26), 3) := by decide +kernel
theorem dX5_meanPagesOf_33 : decode cX5_meanPagesOf 33 = .ok (.aload_n 1, 1) := by decide +kernel
theorem dX5_meanPagesOf_34 : decode cX5_meanPagesOf 34 = .ok (.getfield 133, 3) := by decide +kernel
theorem dX5_meanPagesOf_37 : decode cX5_meanPagesOf 37 = .ok (.ifCond .gt 7, 3) := by decide +kernel
theorem dX5_meanPagesOf_40 : decode cX5_meanPagesOf 40 = .ok (.dconst 0, 1) := by decide +kernel
theorem dX5_meanPagesOf_41 : decode cX5_meanPagesOf 41 = .ok (.goto 11, 3) := by decide +kernel
theorem dX5_meanPagesOf_44 : decode cX5_meanPagesOf 44 = .ok (.iload_n 2, 1) := by decide +kernel
theorem dX5_meanPagesOf_45 : decode cX5_meanPagesOf 45 = .ok (.i2d, 1) := by decide +kernel
theorem dX5_meanPagesOf_46 : decode cX5_meanPagesOf 46 = .ok (.aload_n 1, 1) := by decide +kernel
theorem dX5_meanPagesOf_47 : decode cX5_meanPagesOf 47 = .ok (.getfield 133, 3) := by decide +kernel
theorem dX5_meanPagesOf_50 : decode cX5_meanPagesOf 50 = .ok (.i2d, 1) := by decide +kernel
theorem dX5_meanPagesOf_51 : decode cX5_meanPagesOf 51 = .ok (.ddiv, 1) := by decide +kernel
theorem dX5_meanPagesOf_52 : decode cX5_meanPagesOf 52 = .ok (.dreturn, 1) := by decide +kernel
theorem dX5_mostPagesOf_0 : decode cX5_mostPagesOf 0 = .ok (.iconst 0, 1) := by decide +kernel
theorem dX5_mostPagesOf_1 : decode cX5_mostPagesOf 1 = .ok (.istore_n 2, 1) := by decide +kernel
theorem dX5_mostPagesOf_2 : decode cX5_mostPagesOf 2 = .ok (.iconst 0, 1) := by decide +kernel
theorem dX5_mostPagesOf_3 : decode cX5_mostPagesOf 3 = .ok (.istore_n 3, 1) := by decide +kernel
theorem dX5_mostPagesOf_4 : decode cX5_mostPagesOf 4 = .ok (.iload_n 3, 1) := by decide +kernel
theorem dX5_mostPagesOf_5 : decode cX5_mostPagesOf 5 = .ok (.aload_n 1, 1) := by decide +kernel
theorem dX5_mostPagesOf_6 : decode cX5_mostPagesOf 6 = .ok (.getfield 133, 3) := by decide +kernel
theorem dX5_mostPagesOf_9 : decode cX5_mostPagesOf 9 = .ok (.if_icmp .ge 26, 3) := by decide +kernel
theorem dX5_mostPagesOf_12 : decode cX5_mostPagesOf 12 = .ok (.iload_n 2, 1) := by decide +kernel
theorem dX5_mostPagesOf_13 : decode cX5_mostPagesOf 13 = .ok (.aload_n 0, 1) := by decide +kernel
theorem dX5_mostPagesOf_14 : decode cX5_mostPagesOf 14 = .ok (.getfield 12, 3) := by decide +kernel
theorem dX5_mostPagesOf_17 : decode cX5_mostPagesOf 17 = .ok (.aload_n 1, 1) := by decide +kernel
theorem dX5_mostPagesOf_18 : decode cX5_mostPagesOf 18 = .ok (.iload_n 3, 1) := by decide +kernel
theorem dX5_mostPagesOf_19 : decode cX5_mostPagesOf 19 = .ok (.invokevirtual 185, 3) := by decide +kernel
theorem dX5_mostPagesOf_22 : decode cX5_mostPagesOf 22 = .ok (.invokevirtual 169, 3) := by decide +kernel
theorem dX5_mostPagesOf_25 : decode cX5_mostPagesOf 25 = .ok (.invokestatic 350, 3) := by decide +kernel
theorem dX5_mostPagesOf_28 : decode cX5_mostPagesOf 28 = .ok (.istore_n 2, 1) := by decide +kernel
theorem dX5_mostPagesOf_29 : decode cX5_mostPagesOf 29 = .ok (.iinc 3 1, 3) := by decide +kernel
theorem dX5_mostPagesOf_32 : decode cX5_mostPagesOf 32 = .ok (.goto (-28), 3) := by decide +kernel
theorem dX5_mostPagesOf_35 : decode cX5_mostPagesOf 35 = .ok (.iload_n 2, 1) := by decide +kernel
theorem dX5_mostPagesOf_36 : decode cX5_mostPagesOf 36 = .ok (.ireturn, 1) := by decide +kernel
theorem dX5_mix_0 : decode cX5_mix 0 = .ok (.ldc2_w 377, 3) := by decide +kernel
theorem dX5_mix_3 : decode cX5_mix 3 = .ok (.lload_n 0, 1) := by decide +kernel
theorem dX5_mix_4 : decode cX5_mix 4 = .ok (.lmul, 1) := by decide +kernel
theorem dX5_mix_5 : decode cX5_mix 5 = .ok (.lload_n 2, 1) := by decide +kernel
theorem dX5_mix_6 : decode cX5_mix 6 = .ok (.ladd, 1) := by decide +kernel
theorem dX5_mix_7 : decode cX5_mix 7 = .ok (.lreturn, 1) := by decide +kernel
theorem dX5_mixFlag_0 : decode cX5_mixFlag 0 = .ok (.lload_n 0, 1) := by decide +kernel
theorem dX5_mixFlag_1 : decode cX5_mixFlag 1 = .ok (.iload_n 2, 1) := by decide +kernel
theorem dX5_mixFlag_2 : decode cX5_mixFlag 2 = .ok (.ifCond .eq 7, 3) := by decide +kernel
theorem dX5_mixFlag_5 : decode cX5_mixFlag 5 = .ok (.lconst 1, 1) := by decide +kernel
theorem dX5_mixFlag_6 : decode cX5_mixFlag 6 = .ok (.goto 4, 3) := by decide +kernel
theorem dX5_mixFlag_9 : decode cX5_mixFlag 9 = .ok (.lconst 0, 1) := by decide +kernel
theorem dX5_mixFlag_10 : decode cX5_mixFlag 10 = .ok (.invokestatic 379, 3) := by decide +kernel
theorem dX5_mixFlag_13 : decode cX5_mixFlag 13 = .ok (.lreturn, 1) := by decide +kernel
theorem dX5_hashOfRuns_0 : decode cX5_hashOfRuns 0 = .ok (.lload_n 1, 1) := by decide +kernel
theorem dX5_hashOfRuns_1 : decode cX5_hashOfRuns 1 = .ok (.aload_n 0, 1) := by decide +kernel
theorem dX5_hashOfRuns_2 : decode cX5_hashOfRuns 2 = .ok (.getfield 12, 3) := by decide +kernel
theorem dX5_hashOfRuns_5 : decode cX5_hashOfRuns 5 = .ok (.getfield 197, 3) := by decide +kernel
theorem dX5_hashOfRuns_8 : decode cX5_hashOfRuns 8 = .ok (.i2l, 1) := by decide +kernel
theorem dX5_hashOfRuns_9 : decode cX5_hashOfRuns 9 = .ok (.invokestatic 379, 3) := by decide +kernel
theorem dX5_hashOfRuns_12 : decode cX5_hashOfRuns 12 = .ok (.lstore_n 3, 1) := by decide +kernel
theorem dX5_hashOfRuns_13 : decode cX5_hashOfRuns 13 = .ok (.iconst 0, 1) := by decide +kernel
theorem dX5_hashOfRuns_14 : decode cX5_hashOfRuns 14 = .ok (.istore 5, 2) := by decide +kernel
theorem dX5_hashOfRuns_16 : decode cX5_hashOfRuns 16 = .ok (.iload 5, 2) := by decide +kernel
theorem dX5_hashOfRuns_18 : decode cX5_hashOfRuns 18 = .ok (.aload_n 0, 1) := by decide +kernel
theorem dX5_hashOfRuns_19 : decode cX5_hashOfRuns 19 = .ok (.getfield 12, 3) := by decide +kernel
theorem dX5_hashOfRuns_22 : decode cX5_hashOfRuns 22 = .ok (.getfield 197, 3) := by decide +kernel
theorem dX5_hashOfRuns_25 : decode cX5_hashOfRuns 25 = .ok (.if_icmp .gt 92, 3) := by decide +kernel
theorem dX5_hashOfRuns_28 : decode cX5_hashOfRuns 28 = .ok (.aload_n 0, 1) := by decide +kernel
theorem dX5_hashOfRuns_29 : decode cX5_hashOfRuns 29 = .ok (.getfield 12, 3) := by decide +kernel
theorem dX5_hashOfRuns_32 : decode cX5_hashOfRuns 32 = .ok (.iload 5, 2) := by decide +kernel
theorem dX5_hashOfRuns_34 : decode cX5_hashOfRuns 34 = .ok (.invokevirtual 200, 3) := by decide +kernel
theorem dX5_hashOfRuns_37 : decode cX5_hashOfRuns 37 = .ok (.astore 6, 2) := by decide +kernel
theorem dX5_hashOfRuns_39 : decode cX5_hashOfRuns 39 = .ok (.aload 6, 2) := by decide +kernel
theorem dX5_hashOfRuns_41 : decode cX5_hashOfRuns 41 = .ok (.ifnonnull 6, 3) := by decide +kernel
theorem dX5_hashOfRuns_44 : decode cX5_hashOfRuns 44 = .ok (.goto 67, 3) := by decide +kernel
theorem dX5_hashOfRuns_47 : decode cX5_hashOfRuns 47 = .ok (.lload_n 3, 1) := by decide +kernel
theorem dX5_hashOfRuns_48 : decode cX5_hashOfRuns 48 = .ok (.aload 6, 2) := by decide +kernel
theorem dX5_hashOfRuns_50 : decode cX5_hashOfRuns 50 = .ok (.getfield 133, 3) := by decide +kernel
theorem dX5_hashOfRuns_53 : decode cX5_hashOfRuns 53 = .ok (.i2l, 1) := by decide +kernel
theorem dX5_hashOfRuns_54 : decode cX5_hashOfRuns 54 = .ok (.invokestatic 379, 3) := by decide +kernel
theorem dX5_hashOfRuns_57 : decode cX5_hashOfRuns 57 = .ok (.lstore_n 3, 1) := by decide +kernel
theorem dX5_hashOfRuns_58 : decode cX5_hashOfRuns 58 = .ok (.iconst 0, 1) := by decide +kernel
theorem dX5_hashOfRuns_59 : decode cX5_hashOfRuns 59 = .ok (.istore 7, 2) := by decide +kernel
theorem dX5_hashOfRuns_61 : decode cX5_hashOfRuns 61 = .ok (.iload 7, 2) := by decide +kernel
theorem dX5_hashOfRuns_63 : decode cX5_hashOfRuns 63 = .ok (.aload 6, 2) := by decide +kernel
theorem dX5_hashOfRuns_65 : decode cX5_hashOfRuns 65 = .ok (.getfield 133, 3) := by decide +kernel
theorem dX5_hashOfRuns_68 : decode cX5_hashOfRuns 68 = .ok (.if_icmp .ge 43, 3) := by decide +kernel
theorem dX5_hashOfRuns_71 : decode cX5_hashOfRuns 71 = .ok (.lload_n 3, 1) := by decide +kernel
theorem dX5_hashOfRuns_72 : decode cX5_hashOfRuns 72 = .ok (.aload 6, 2) := by decide +kernel
theorem dX5_hashOfRuns_74 : decode cX5_hashOfRuns 74 = .ok (.iload 7, 2) := by decide +kernel
theorem dX5_hashOfRuns_76 : decode cX5_hashOfRuns 76 = .ok (.invokevirtual 185, 3) := by decide +kernel
theorem dX5_hashOfRuns_79 : decode cX5_hashOfRuns 79 = .ok (.i2l, 1) := by decide +kernel
theorem dX5_hashOfRuns_80 : decode cX5_hashOfRuns 80 = .ok (.invokestatic 379, 3) := by decide +kernel
theorem dX5_hashOfRuns_83 : decode cX5_hashOfRuns 83 = .ok (.lstore_n 3, 1) := by decide +kernel
theorem dX5_hashOfRuns_84 : decode cX5_hashOfRuns 84 = .ok (.lload_n 3, 1) := by decide +kernel
theorem dX5_hashOfRuns_85 : decode cX5_hashOfRuns 85 = .ok (.aload 6, 2) := by decide +kernel
theorem dX5_hashOfRuns_87 : decode cX5_hashOfRuns 87 = .ok (.iload 7, 2) := by decide +kernel
theorem dX5_hashOfRuns_89 : decode cX5_hashOfRuns 89 = .ok (.invokevirtual 211, 3) := by decide +kernel
theorem dX5_hashOfRuns_92 : decode cX5_hashOfRuns 92 = .ok (.iconst (-1), 1) := by decide +kernel
theorem dX5_hashOfRuns_93 : decode cX5_hashOfRuns 93 = .ok (.if_icmp .ne 7, 3) := by decide +kernel
theorem dX5_hashOfRuns_96 : decode cX5_hashOfRuns 96 = .ok (.iconst 1, 1) := by decide +kernel
theorem dX5_hashOfRuns_97 : decode cX5_hashOfRuns 97 = .ok (.goto 4, 3) := by decide +kernel
theorem dX5_hashOfRuns_100 : decode cX5_hashOfRuns 100 = .ok (.iconst 0, 1) := by decide +kernel
theorem dX5_hashOfRuns_101 : decode cX5_hashOfRuns 101 = .ok (.invokestatic 383, 3) := by decide +kernel
theorem dX5_hashOfRuns_104 : decode cX5_hashOfRuns 104 = .ok (.lstore_n 3, 1) := by decide +kernel
theorem dX5_hashOfRuns_105 : decode cX5_hashOfRuns 105 = .ok (.iinc 7 1, 3) := by decide +kernel
theorem dX5_hashOfRuns_108 : decode cX5_hashOfRuns 108 = .ok (.goto (-47), 3) := by decide +kernel
theorem dX5_hashOfRuns_111 : decode cX5_hashOfRuns 111 = .ok (.iinc 5 1, 3) := by decide +kernel
theorem dX5_hashOfRuns_114 : decode cX5_hashOfRuns 114 = .ok (.goto (-98), 3) := by decide +kernel
theorem dX5_hashOfRuns_117 : decode cX5_hashOfRuns 117 = .ok (.lload_n 3, 1) := by decide +kernel
theorem dX5_hashOfRuns_118 : decode cX5_hashOfRuns 118 = .ok (.lreturn, 1) := by decide +kernel
theorem dX5_hashOfLeaves_0 : decode cX5_hashOfLeaves 0 = .ok (.aload_n 0, 1) := by decide +kernel
theorem dX5_hashOfLeaves_1 : decode cX5_hashOfLeaves 1 = .ok (.getfield 12, 3) := by decide +kernel
theorem dX5_hashOfLeaves_4 : decode cX5_hashOfLeaves 4 = .ok (.getfield 219, 3) := by decide +kernel
theorem dX5_hashOfLeaves_7 : decode cX5_hashOfLeaves 7 = .ok (.astore_n 3, 1) := by decide +kernel
theorem dX5_hashOfLeaves_8 : decode cX5_hashOfLeaves 8 = .ok (.lload_n 1, 1) := by decide +kernel
theorem dX5_hashOfLeaves_9 : decode cX5_hashOfLeaves 9 = .ok (.aload_n 3, 1) := by decide +kernel
theorem dX5_hashOfLeaves_10 : decode cX5_hashOfLeaves 10 = .ok (.getfield 223, 3) := by decide +kernel
theorem dX5_hashOfLeaves_13 : decode cX5_hashOfLeaves 13 = .ok (.getfield 133, 3) := by decide +kernel
theorem dX5_hashOfLeaves_16 : decode cX5_hashOfLeaves 16 = .ok (.i2l, 1) := by decide +kernel
theorem dX5_hashOfLeaves_17 : decode cX5_hashOfLeaves 17 = .ok (.invokestatic 379, 3) := by decide +kernel
theorem dX5_hashOfLeaves_20 : decode cX5_hashOfLeaves 20 = .ok (.lstore 4, 2) := by decide +kernel
theorem dX5_hashOfLeaves_22 : decode cX5_hashOfLeaves 22 = .ok (.lload 4, 2) := by decide +kernel
theorem dX5_hashOfLeaves_24 : decode cX5_hashOfLeaves 24 = .ok (.aload_n 3, 1) := by decide +kernel
theorem dX5_hashOfLeaves_25 : decode cX5_hashOfLeaves 25 = .ok (.getfield 229, 3) := by decide +kernel
theorem dX5_hashOfLeaves_28 : decode cX5_hashOfLeaves 28 = .ok (.i2l, 1) := by decide +kernel
theorem dX5_hashOfLeaves_29 : decode cX5_hashOfLeaves 29 = .ok (.invokestatic 379, 3) := by decide +kernel
theorem dX5_hashOfLeaves_32 : decode cX5_hashOfLeaves 32 = .ok (.lstore 4, 2) := by decide +kernel
theorem dX5_hashOfLeaves_34 : decode cX5_hashOfLeaves 34 = .ok (.iconst 0, 1) := by decide +kernel
theorem dX5_hashOfLeaves_35 : decode cX5_hashOfLeaves 35 = .ok (.istore 6, 2) := by decide +kernel
theorem dX5_hashOfLeaves_37 : decode cX5_hashOfLeaves 37 = .ok (.iload 6, 2) := by decide +kernel
theorem dX5_hashOfLeaves_39 : decode cX5_hashOfLeaves 39 = .ok (.aload_n 3, 1) := by decide +kernel
theorem dX5_hashOfLeaves_40 : decode cX5_hashOfLeaves 40 = .ok (.getfield 229, 3) := by decide +kernel
theorem dX5_hashOfLeaves_43 : decode cX5_hashOfLeaves 43 = .ok (.if_icmp .ge 125, 3) := by decide +kernel
theorem dX5_hashOfLeaves_46 : decode cX5_hashOfLeaves 46 = .ok (.lload 4, 2) := by decide +kernel
theorem dX5_hashOfLeaves_48 : decode cX5_hashOfLeaves 48 = .ok (.aload_n 3, 1) := by decide +kernel
theorem dX5_hashOfLeaves_49 : decode cX5_hashOfLeaves 49 = .ok (.iload 6, 2) := by decide +kernel
theorem dX5_hashOfLeaves_51 : decode cX5_hashOfLeaves 51 = .ok (.invokevirtual 235, 3) := by decide +kernel
theorem dX5_hashOfLeaves_54 : decode cX5_hashOfLeaves 54 = .ok (.i2l, 1) := by decide +kernel
theorem dX5_hashOfLeaves_55 : decode cX5_hashOfLeaves 55 = .ok (.invokestatic 379, 3) := by decide +kernel
theorem dX5_hashOfLeaves_58 : decode cX5_hashOfLeaves 58 = .ok (.lstore 4, 2) := by decide +kernel
theorem dX5_hashOfLeaves_60 : decode cX5_hashOfLeaves 60 = .ok (.aload_n 3, 1) := by decide +kernel
theorem dX5_hashOfLeaves_61 : decode cX5_hashOfLeaves 61 = .ok (.iload 6, 2) := by decide +kernel
theorem dX5_hashOfLeaves_63 : decode cX5_hashOfLeaves 63 = .ok (.iconst 1, 1) := by decide +kernel
theorem dX5_hashOfLeaves_64 : decode cX5_hashOfLeaves 64 = .ok (.iadd, 1) := by decide +kernel
theorem dX5_hashOfLeaves_65 : decode cX5_hashOfLeaves 65 = .ok (.invokevirtual 387, 3) := by decide +kernel
theorem dX5_hashOfLeaves_68 : decode cX5_hashOfLeaves 68 = .ok (.istore 7, 2) := by decide +kernel
theorem dX5_hashOfLeaves_70 : decode cX5_hashOfLeaves 70 = .ok (.aload_n 3, 1) := by decide +kernel
theorem dX5_hashOfLeaves_71 : decode cX5_hashOfLeaves 71 = .ok (.iload 6, 2) := by decide +kernel
theorem dX5_hashOfLeaves_73 : decode cX5_hashOfLeaves 73 = .ok (.invokevirtual 387, 3) := by decide +kernel
theorem dX5_hashOfLeaves_76 : decode cX5_hashOfLeaves 76 = .ok (.istore 8, 2) := by decide +kernel
theorem dX5_hashOfLeaves_78 : decode cX5_hashOfLeaves 78 = .ok (.iload 8, 2) := by decide +kernel
theorem dX5_hashOfLeaves_80 : decode cX5_hashOfLeaves 80 = .ok (.iload 7, 2) := by decide +kernel
theorem dX5_hashOfLeaves_82 : decode cX5_hashOfLeaves 82 = .ok (.if_icmp .ge 52, 3) := by decide +kernel
theorem dX5_hashOfLeaves_85 : decode cX5_hashOfLeaves 85 = .ok (.aload_n 3, 1) := by decide +kernel
theorem dX5_hashOfLeaves_86 : decode cX5_hashOfLeaves 86 = .ok (.iload 8, 2) := by decide +kernel
theorem dX5_hashOfLeaves_88 : decode cX5_hashOfLeaves 88 = .ok (.invokevirtual 390, 3) := by decide +kernel
theorem dX5_hashOfLeaves_91 : decode cX5_hashOfLeaves 91 = .ok (.ifCond .ne 37, 3) := by decide +kernel
theorem dX5_hashOfLeaves_94 : decode cX5_hashOfLeaves 94 = .ok (.lload 4, 2) := by decide +kernel
theorem dX5_hashOfLeaves_96 : decode cX5_hashOfLeaves 96 = .ok (.aload_n 3, 1) := by decide +kernel
theorem dX5_hashOfLeaves_97 : decode cX5_hashOfLeaves 97 = .ok (.getfield 223, 3) := by decide +kernel
theorem dX5_hashOfLeaves_100 : decode cX5_hashOfLeaves 100 = .ok (.iload 8, 2) := by decide +kernel
theorem dX5_hashOfLeaves_102 : decode cX5_hashOfLeaves 102 = .ok (.invokevirtual 185, 3) := by decide +kernel
theorem dX5_hashOfLeaves_105 : decode cX5_hashOfLeaves 105 = .ok (.i2l, 1) := by decide +kernel
theorem dX5_hashOfLeaves_106 : decode cX5_hashOfLeaves 106 = .ok (.invokestatic 379, 3) := by decide +kernel
theorem dX5_hashOfLeaves_109 : decode cX5_hashOfLeaves 109 = .ok (.lstore 4, 2) := by decide +kernel
theorem dX5_hashOfLeaves_111 : decode cX5_hashOfLeaves 111 = .ok (.lload 4, 2) := by decide +kernel
theorem dX5_hashOfLeaves_113 : decode cX5_hashOfLeaves 113 = .ok (.aload_n 3, 1) := by decide +kernel
theorem dX5_hashOfLeaves_114 : decode cX5_hashOfLeaves 114 = .ok (.getfield 223, 3) := by decide +kernel
theorem dX5_hashOfLeaves_117 : decode cX5_hashOfLeaves 117 = .ok (.iload 8, 2) := by decide +kernel
theorem dX5_hashOfLeaves_119 : decode cX5_hashOfLeaves 119 = .ok (.invokevirtual 211, 3) := by decide +kernel
theorem dX5_hashOfLeaves_122 : decode cX5_hashOfLeaves 122 = .ok (.i2l, 1) := by decide +kernel
theorem dX5_hashOfLeaves_123 : decode cX5_hashOfLeaves 123 = .ok (.invokestatic 379, 3) := by decide +kernel
theorem dX5_hashOfLeaves_126 : decode cX5_hashOfLeaves 126 = .ok (.lstore 4, 2) := by decide +kernel
theorem dX5_hashOfLeaves_128 : decode cX5_hashOfLeaves 128 = .ok (.iinc 8 1, 3) := by decide +kernel
theorem dX5_hashOfLeaves_131 : decode cX5_hashOfLeaves 131 = .ok (.goto (-53), 3) := by decide +kernel
theorem dX5_hashOfLeaves_134 : decode cX5_hashOfLeaves 134 = .ok (.lload 4, 2) := by decide +kernel
theorem dX5_hashOfLeaves_136 : decode cX5_hashOfLeaves 136 = .ok (.aload_n 3, 1) := by decide +kernel
theorem dX5_hashOfLeaves_137 : decode cX5_hashOfLeaves 137 = .ok (.iload 6, 2) := by decide +kernel
theorem dX5_hashOfLeaves_139 : decode cX5_hashOfLeaves 139 = .ok (.invokevirtual 243, 3) := by decide +kernel
theorem dX5_hashOfLeaves_142 : decode cX5_hashOfLeaves 142 = .ok (.i2l, 1) := by decide +kernel
theorem dX5_hashOfLeaves_143 : decode cX5_hashOfLeaves 143 = .ok (.invokestatic 379, 3) := by decide +kernel
theorem dX5_hashOfLeaves_146 : decode cX5_hashOfLeaves 146 = .ok (.lstore 4, 2) := by decide +kernel
theorem dX5_hashOfLeaves_148 : decode cX5_hashOfLeaves 148 = .ok (.lload 4, 2) := by decide +kernel
theorem dX5_hashOfLeaves_150 : decode cX5_hashOfLeaves 150 = .ok (.aload_n 3, 1) := by decide +kernel
theorem dX5_hashOfLeaves_151 : decode cX5_hashOfLeaves 151 = .ok (.iload 6, 2) := by decide +kernel
theorem dX5_hashOfLeaves_153 : decode cX5_hashOfLeaves 153 = .ok (.invokevirtual 246, 3) := by decide +kernel
theorem dX5_hashOfLeaves_156 : decode cX5_hashOfLeaves 156 = .ok (.i2l, 1) := by decide +kernel
theorem dX5_hashOfLeaves_157 : decode cX5_hashOfLeaves 157 = .ok (.invokestatic 379, 3) := by decide +kernel
theorem dX5_hashOfLeaves_160 : decode cX5_hashOfLeaves 160 = .ok (.lstore 4, 2) := by decide +kernel
theorem dX5_hashOfLeaves_162 : decode cX5_hashOfLeaves 162 = .ok (.iinc 6 1, 3) := by decide +kernel
theorem dX5_hashOfLeaves_165 : decode cX5_hashOfLeaves 165 = .ok (.goto (-128), 3) := by decide +kernel
theorem dX5_hashOfLeaves_168 : decode cX5_hashOfLeaves 168 = .ok (.lload 4, 2) := by decide +kernel
theorem dX5_hashOfLeaves_170 : decode cX5_hashOfLeaves 170 = .ok (.lreturn, 1) := by decide +kernel
theorem dX5_hashOfNodes_0 : decode cX5_hashOfNodes 0 = .ok (.aload_n 0, 1) := by decide +kernel
theorem dX5_hashOfNodes_1 : decode cX5_hashOfNodes 1 = .ok (.getfield 12, 3) := by decide +kernel
theorem dX5_hashOfNodes_4 : decode cX5_hashOfNodes 4 = .ok (.getfield 219, 3) := by decide +kernel
theorem dX5_hashOfNodes_7 : decode cX5_hashOfNodes 7 = .ok (.astore_n 3, 1) := by decide +kernel
theorem dX5_hashOfNodes_8 : decode cX5_hashOfNodes 8 = .ok (.aload_n 3, 1) := by decide +kernel
theorem dX5_hashOfNodes_9 : decode cX5_hashOfNodes 9 = .ok (.invokevirtual 249, 3) := by decide +kernel
theorem dX5_hashOfNodes_12 : decode cX5_hashOfNodes 12 = .ok (.istore 4, 2) := by decide +kernel
theorem dX5_hashOfNodes_14 : decode cX5_hashOfNodes 14 = .ok (.lload_n 1, 1) := by decide +kernel
theorem dX5_hashOfNodes_15 : decode cX5_hashOfNodes 15 = .ok (.iload 4, 2) := by decide +kernel
theorem dX5_hashOfNodes_17 : decode cX5_hashOfNodes 17 = .ok (.i2l, 1) := by decide +kernel
theorem dX5_hashOfNodes_18 : decode cX5_hashOfNodes 18 = .ok (.invokestatic 379, 3) := by decide +kernel
theorem dX5_hashOfNodes_21 : decode cX5_hashOfNodes 21 = .ok (.lstore 5, 2) := by decide +kernel
theorem dX5_hashOfNodes_23 : decode cX5_hashOfNodes 23 = .ok (.iconst 0, 1) := by decide +kernel
theorem dX5_hashOfNodes_24 : decode cX5_hashOfNodes 24 = .ok (.istore 7, 2) := by decide +kernel
theorem dX5_hashOfNodes_26 : decode cX5_hashOfNodes 26 = .ok (.iload 7, 2) := by decide +kernel
theorem dX5_hashOfNodes_28 : decode cX5_hashOfNodes 28 = .ok (.iload 4, 2) := by decide +kernel
theorem dX5_hashOfNodes_30 : decode cX5_hashOfNodes 30 = .ok (.if_icmp .ge 75, 3) := by decide +kernel
theorem dX5_hashOfNodes_33 : decode cX5_hashOfNodes 33 = .ok (.aload_n 3, 1) := by decide +kernel
theorem dX5_hashOfNodes_34 : decode cX5_hashOfNodes 34 = .ok (.iload 7, 2) := by decide +kernel
theorem dX5_hashOfNodes_36 : decode cX5_hashOfNodes 36 = .ok (.invokevirtual 255, 3) := by decide +kernel
theorem dX5_hashOfNodes_39 : decode cX5_hashOfNodes 39 = .ok (.istore 8, 2) := by decide +kernel
theorem dX5_hashOfNodes_41 : decode cX5_hashOfNodes 41 = .ok (.lload 5, 2) := by decide +kernel
theorem dX5_hashOfNodes_43 : decode cX5_hashOfNodes 43 = .ok (.iload 8, 2) := by decide +kernel
theorem dX5_hashOfNodes_45 : decode cX5_hashOfNodes 45 = .ok (.i2l, 1) := by decide +kernel
theorem dX5_hashOfNodes_46 : decode cX5_hashOfNodes 46 = .ok (.invokestatic 379, 3) := by decide +kernel
theorem dX5_hashOfNodes_49 : decode cX5_hashOfNodes 49 = .ok (.lstore 5, 2) := by decide +kernel
theorem dX5_hashOfNodes_51 : decode cX5_hashOfNodes 51 = .ok (.iconst 0, 1) := by decide +kernel
theorem dX5_hashOfNodes_52 : decode cX5_hashOfNodes 52 = .ok (.istore 9, 2) := by decide +kernel
theorem dX5_hashOfNodes_54 : decode cX5_hashOfNodes 54 = .ok (.iload 9, 2) := by decide +kernel
theorem dX5_hashOfNodes_56 : decode cX5_hashOfNodes 56 = .ok (.iload 8, 2) := by decide +kernel
theorem dX5_hashOfNodes_58 : decode cX5_hashOfNodes 58 = .ok (.if_icmp .ge 41, 3) := by decide +kernel
theorem dX5_hashOfNodes_61 : decode cX5_hashOfNodes 61 = .ok (.lload 5, 2) := by decide +kernel
theorem dX5_hashOfNodes_63 : decode cX5_hashOfNodes 63 = .ok (.aload_n 3, 1) := by decide +kernel
theorem dX5_hashOfNodes_64 : decode cX5_hashOfNodes 64 = .ok (.iload 7, 2) := by decide +kernel
theorem dX5_hashOfNodes_66 : decode cX5_hashOfNodes 66 = .ok (.iload 9, 2) := by decide +kernel
theorem dX5_hashOfNodes_68 : decode cX5_hashOfNodes 68 = .ok (.invokevirtual 261, 3) := by decide +kernel
theorem dX5_hashOfNodes_71 : decode cX5_hashOfNodes 71 = .ok (.i2l, 1) := by decide +kernel
theorem dX5_hashOfNodes_72 : decode cX5_hashOfNodes 72 = .ok (.invokestatic 379, 3) := by decide +kernel
theorem dX5_hashOfNodes_75 : decode cX5_hashOfNodes 75 = .ok (.lstore 5, 2) := by decide +kernel
theorem dX5_hashOfNodes_77 : decode cX5_hashOfNodes 77 = .ok (.lload 5, 2) := by decide +kernel
theorem dX5_hashOfNodes_79 : decode cX5_hashOfNodes 79 = .ok (.aload_n 3, 1) := by decide +kernel
theorem dX5_hashOfNodes_80 : decode cX5_hashOfNodes 80 = .ok (.iload 7, 2) := by decide +kernel
theorem dX5_hashOfNodes_82 : decode cX5_hashOfNodes 82 = .ok (.iload 9, 2) := by decide +kernel
theorem dX5_hashOfNodes_84 : decode cX5_hashOfNodes 84 = .ok (.invokevirtual 264, 3) := by decide +kernel
theorem dX5_hashOfNodes_87 : decode cX5_hashOfNodes 87 = .ok (.i2l, 1) := by decide +kernel
theorem dX5_hashOfNodes_88 : decode cX5_hashOfNodes 88 = .ok (.invokestatic 379, 3) := by decide +kernel
theorem dX5_hashOfNodes_91 : decode cX5_hashOfNodes 91 = .ok (.lstore 5, 2) := by decide +kernel
theorem dX5_hashOfNodes_93 : decode cX5_hashOfNodes 93 = .ok (.iinc 9 1, 3) := by decide +kernel
theorem dX5_hashOfNodes_96 : decode cX5_hashOfNodes 96 = .ok (.goto (-42), 3) := by decide +kernel
theorem dX5_hashOfNodes_99 : decode cX5_hashOfNodes 99 = .ok (.iinc 7 1, 3) := by decide +kernel
theorem dX5_hashOfNodes_102 : decode cX5_hashOfNodes 102 = .ok (.goto (-76), 3) := by decide +kernel
theorem dX5_hashOfNodes_105 : decode cX5_hashOfNodes 105 = .ok (.lload 5, 2) := by decide +kernel
theorem dX5_hashOfNodes_107 : decode cX5_hashOfNodes 107 = .ok (.lreturn, 1) := by decide +kernel
theorem dX5_hashOfFound_0 : decode cX5_hashOfFound 0 = .ok (.lload_n 1, 1) := by decide +kernel
theorem dX5_hashOfFound_1 : decode cX5_hashOfFound 1 = .ok (.aload_n 3, 1) := by decide +kernel
theorem dX5_hashOfFound_2 : decode cX5_hashOfFound 2 = .ok (.getfield 133, 3) := by decide +kernel
theorem dX5_hashOfFound_5 : decode cX5_hashOfFound 5 = .ok (.i2l, 1) := by decide +kernel
theorem dX5_hashOfFound_6 : decode cX5_hashOfFound 6 = .ok (.invokestatic 379, 3) := by decide +kernel
theorem dX5_hashOfFound_9 : decode cX5_hashOfFound 9 = .ok (.lstore 4, 2) := by decide +kernel
theorem dX5_hashOfFound_11 : decode cX5_hashOfFound 11 = .ok (.iconst 0, 1) := by decide +kernel
theorem dX5_hashOfFound_12 : decode cX5_hashOfFound 12 = .ok (.istore 6, 2) := by decide +kernel
theorem dX5_hashOfFound_14 : decode cX5_hashOfFound 14 = .ok (.iload 6, 2) := by decide +kernel
theorem dX5_hashOfFound_16 : decode cX5_hashOfFound 16 = .ok (.aload_n 3, 1) := by decide +kernel
theorem dX5_hashOfFound_17 : decode cX5_hashOfFound 17 = .ok (.getfield 133, 3) := by decide +kernel
theorem dX5_hashOfFound_20 : decode cX5_hashOfFound 20 = .ok (.if_icmp .ge 77, 3) := by decide +kernel
theorem dX5_hashOfFound_23 : decode cX5_hashOfFound 23 = .ok (.aload_n 3, 1) := by decide +kernel
theorem dX5_hashOfFound_24 : decode cX5_hashOfFound 24 = .ok (.iload 6, 2) := by decide +kernel
theorem dX5_hashOfFound_26 : decode cX5_hashOfFound 26 = .ok (.invokevirtual 185, 3) := by decide +kernel
theorem dX5_hashOfFound_29 : decode cX5_hashOfFound 29 = .ok (.istore 7, 2) := by decide +kernel
theorem dX5_hashOfFound_31 : decode cX5_hashOfFound 31 = .ok (.lload 4, 2) := by decide +kernel
theorem dX5_hashOfFound_33 : decode cX5_hashOfFound 33 = .ok (.iload 7, 2) := by decide +kernel
theorem dX5_hashOfFound_35 : decode cX5_hashOfFound 35 = .ok (.i2l, 1) := by decide +kernel
theorem dX5_hashOfFound_36 : decode cX5_hashOfFound 36 = .ok (.invokestatic 379, 3) := by decide +kernel
theorem dX5_hashOfFound_39 : decode cX5_hashOfFound 39 = .ok (.lstore 4, 2) := by decide +kernel
theorem dX5_hashOfFound_41 : decode cX5_hashOfFound 41 = .ok (.lload 4, 2) := by decide +kernel
theorem dX5_hashOfFound_43 : decode cX5_hashOfFound 43 = .ok (.aload_n 0, 1) := by decide +kernel
theorem dX5_hashOfFound_44 : decode cX5_hashOfFound 44 = .ok (.getfield 12, 3) := by decide +kernel
theorem dX5_hashOfFound_47 : decode cX5_hashOfFound 47 = .ok (.iload 7, 2) := by decide +kernel
theorem dX5_hashOfFound_49 : decode cX5_hashOfFound 49 = .ok (.invokevirtual 160, 3) := by decide +kernel
theorem dX5_hashOfFound_52 : decode cX5_hashOfFound 52 = .ok (.i2l, 1) := by decide +kernel
theorem dX5_hashOfFound_53 : decode cX5_hashOfFound 53 = .ok (.invokestatic 379, 3) := by decide +kernel
theorem dX5_hashOfFound_56 : decode cX5_hashOfFound 56 = .ok (.lstore 4, 2) := by decide +kernel
theorem dX5_hashOfFound_58 : decode cX5_hashOfFound 58 = .ok (.lload 4, 2) := by decide +kernel
theorem dX5_hashOfFound_60 : decode cX5_hashOfFound 60 = .ok (.aload_n 0, 1) := by decide +kernel
theorem dX5_hashOfFound_61 : decode cX5_hashOfFound 61 = .ok (.getfield 12, 3) := by decide +kernel
theorem dX5_hashOfFound_64 : decode cX5_hashOfFound 64 = .ok (.iload 7, 2) := by decide +kernel
theorem dX5_hashOfFound_66 : decode cX5_hashOfFound 66 = .ok (.invokevirtual 169, 3) := by decide +kernel
theorem dX5_hashOfFound_69 : decode cX5_hashOfFound 69 = .ok (.i2l, 1) := by decide +kernel
theorem dX5_hashOfFound_70 : decode cX5_hashOfFound 70 = .ok (.invokestatic 379, 3) := by decide +kernel
theorem dX5_hashOfFound_73 : decode cX5_hashOfFound 73 = .ok (.lstore 4, 2) := by decide +kernel
theorem dX5_hashOfFound_75 : decode cX5_hashOfFound 75 = .ok (.lload 4, 2) := by decide +kernel
theorem dX5_hashOfFound_77 : decode cX5_hashOfFound 77 = .ok (.aload_n 0, 1) := by decide +kernel
theorem dX5_hashOfFound_78 : decode cX5_hashOfFound 78 = .ok (.getfield 12, 3) := by decide +kernel
theorem dX5_hashOfFound_81 : decode cX5_hashOfFound 81 = .ok (.iload 7, 2) := by decide +kernel
theorem dX5_hashOfFound_83 : decode cX5_hashOfFound 83 = .ok (.invokevirtual 163, 3) := by decide +kernel
theorem dX5_hashOfFound_86 : decode cX5_hashOfFound 86 = .ok (.invokestatic 383, 3) := by decide +kernel
theorem dX5_hashOfFound_89 : decode cX5_hashOfFound 89 = .ok (.lstore 4, 2) := by decide +kernel
theorem dX5_hashOfFound_91 : decode cX5_hashOfFound 91 = .ok (.iinc 6 1, 3) := by decide +kernel
theorem dX5_hashOfFound_94 : decode cX5_hashOfFound 94 = .ok (.goto (-80), 3) := by decide +kernel
theorem dX5_hashOfFound_97 : decode cX5_hashOfFound 97 = .ok (.lload 4, 2) := by decide +kernel
theorem dX5_hashOfFound_99 : decode cX5_hashOfFound 99 = .ok (.lreturn, 1) := by decide +kernel
theorem dX5_hashOfCounts_0 : decode cX5_hashOfCounts 0 = .ok (.lload_n 1, 1) := by decide +kernel
theorem dX5_hashOfCounts_1 : decode cX5_hashOfCounts 1 = .ok (.aload_n 0, 1) := by decide +kernel
theorem dX5_hashOfCounts_2 : decode cX5_hashOfCounts 2 = .ok (.getfield 12, 3) := by decide +kernel
theorem dX5_hashOfCounts_5 : decode cX5_hashOfCounts 5 = .ok (.iconst 0, 1) := by decide +kernel
theorem dX5_hashOfCounts_6 : decode cX5_hashOfCounts 6 = .ok (.sipush 9999, 3) := by decide +kernel
theorem dX5_hashOfCounts_9 : decode cX5_hashOfCounts 9 = .ok (.invokevirtual 176, 3) := by decide +kernel
theorem dX5_hashOfCounts_12 : decode cX5_hashOfCounts 12 = .ok (.i2l, 1) := by decide +kernel
theorem dX5_hashOfCounts_13 : decode cX5_hashOfCounts 13 = .ok (.invokestatic 379, 3) := by decide +kernel
theorem dX5_hashOfCounts_16 : decode cX5_hashOfCounts 16 = .ok (.lstore 4, 2) := by decide +kernel
theorem dX5_hashOfCounts_18 : decode cX5_hashOfCounts 18 = .ok (.lload 4, 2) := by decide +kernel
theorem dX5_hashOfCounts_20 : decode cX5_hashOfCounts 20 = .ok (.aload_n 3, 1) := by decide +kernel
theorem dX5_hashOfCounts_21 : decode cX5_hashOfCounts 21 = .ok (.iconst 0, 1) := by decide +kernel
theorem dX5_hashOfCounts_22 : decode cX5_hashOfCounts 22 = .ok (.sipush 9999, 3) := by decide +kernel
theorem dX5_hashOfCounts_25 : decode cX5_hashOfCounts 25 = .ok (.invokevirtual 179, 3) := by decide +kernel
theorem dX5_hashOfCounts_28 : decode cX5_hashOfCounts 28 = .ok (.i2l, 1) := by decide +kernel
theorem dX5_hashOfCounts_29 : decode cX5_hashOfCounts 29 = .ok (.invokestatic 379, 3) := by decide +kernel
theorem dX5_hashOfCounts_32 : decode cX5_hashOfCounts 32 = .ok (.lstore 4, 2) := by decide +kernel
theorem dX5_hashOfCounts_34 : decode cX5_hashOfCounts 34 = .ok (.lload 4, 2) := by decide +kernel
theorem dX5_hashOfCounts_36 : decode cX5_hashOfCounts 36 = .ok (.aload_n 0, 1) := by decide +kernel
theorem dX5_hashOfCounts_37 : decode cX5_hashOfCounts 37 = .ok (.getfield 12, 3) := by decide +kernel
theorem dX5_hashOfCounts_40 : decode cX5_hashOfCounts 40 = .ok (.bipush 100, 2) := by decide +kernel
theorem dX5_hashOfCounts_42 : decode cX5_hashOfCounts 42 = .ok (.sipush 500, 3) := by decide +kernel
theorem dX5_hashOfCounts_45 : decode cX5_hashOfCounts 45 = .ok (.invokevirtual 176, 3) := by decide +kernel
theorem dX5_hashOfCounts_48 : decode cX5_hashOfCounts 48 = .ok (.i2l, 1) := by decide +kernel
theorem dX5_hashOfCounts_49 : decode cX5_hashOfCounts 49 = .ok (.invokestatic 379, 3) := by decide +kernel
theorem dX5_hashOfCounts_52 : decode cX5_hashOfCounts 52 = .ok (.lstore 4, 2) := by decide +kernel
theorem dX5_hashOfCounts_54 : decode cX5_hashOfCounts 54 = .ok (.lload 4, 2) := by decide +kernel
theorem dX5_hashOfCounts_56 : decode cX5_hashOfCounts 56 = .ok (.aload_n 3, 1) := by decide +kernel
theorem dX5_hashOfCounts_57 : decode cX5_hashOfCounts 57 = .ok (.bipush 100, 2) := by decide +kernel
theorem dX5_hashOfCounts_59 : decode cX5_hashOfCounts 59 = .ok (.sipush 500, 3) := by decide +kernel
theorem dX5_hashOfCounts_62 : decode cX5_hashOfCounts 62 = .ok (.invokevirtual 179, 3) := by decide +kernel
theorem dX5_hashOfCounts_65 : decode cX5_hashOfCounts 65 = .ok (.i2l, 1) := by decide +kernel
theorem dX5_hashOfCounts_66 : decode cX5_hashOfCounts 66 = .ok (.invokestatic 379, 3) := by decide +kernel
theorem dX5_hashOfCounts_69 : decode cX5_hashOfCounts 69 = .ok (.lreturn, 1) := by decide +kernel
theorem dX5_hashOfAccounts_0 : decode cX5_hashOfAccounts 0 = .ok (.lload_n 1, 1) := by decide +kernel
theorem dX5_hashOfAccounts_1 : decode cX5_hashOfAccounts 1 = .ok (.aload_n 0, 1) := by decide +kernel
theorem dX5_hashOfAccounts_2 : decode cX5_hashOfAccounts 2 = .ok (.getfield 12, 3) := by decide +kernel
theorem dX5_hashOfAccounts_5 : decode cX5_hashOfAccounts 5 = .ok (.getfield 272, 3) := by decide +kernel
theorem dX5_hashOfAccounts_8 : decode cX5_hashOfAccounts 8 = .ok (.i2l, 1) := by decide +kernel
theorem dX5_hashOfAccounts_9 : decode cX5_hashOfAccounts 9 = .ok (.invokestatic 379, 3) := by decide +kernel
theorem dX5_hashOfAccounts_12 : decode cX5_hashOfAccounts 12 = .ok (.lstore 4, 2) := by decide +kernel
theorem dX5_hashOfAccounts_14 : decode cX5_hashOfAccounts 14 = .ok (.lload 4, 2) := by decide +kernel
theorem dX5_hashOfAccounts_16 : decode cX5_hashOfAccounts 16 = .ok (.aload_n 0, 1) := by decide +kernel
theorem dX5_hashOfAccounts_17 : decode cX5_hashOfAccounts 17 = .ok (.getfield 12, 3) := by decide +kernel
theorem dX5_hashOfAccounts_20 : decode cX5_hashOfAccounts 20 = .ok (.getfield 275, 3) := by decide +kernel
theorem dX5_hashOfAccounts_23 : decode cX5_hashOfAccounts 23 = .ok (.i2l, 1) := by decide +kernel
theorem dX5_hashOfAccounts_24 : decode cX5_hashOfAccounts 24 = .ok (.invokestatic 379, 3) := by decide +kernel
theorem dX5_hashOfAccounts_27 : decode cX5_hashOfAccounts 27 = .ok (.lstore 4, 2) := by decide +kernel
theorem dX5_hashOfAccounts_29 : decode cX5_hashOfAccounts 29 = .ok (.lload 4, 2) := by decide +kernel
theorem dX5_hashOfAccounts_31 : decode cX5_hashOfAccounts 31 = .ok (.aload_n 0, 1) := by decide +kernel
theorem dX5_hashOfAccounts_32 : decode cX5_hashOfAccounts 32 = .ok (.getfield 12, 3) := by decide +kernel
theorem dX5_hashOfAccounts_35 : decode cX5_hashOfAccounts 35 = .ok (.invokevirtual 278, 3) := by decide +kernel
theorem dX5_hashOfAccounts_38 : decode cX5_hashOfAccounts 38 = .ok (.i2l, 1) := by decide +kernel
theorem dX5_hashOfAccounts_39 : decode cX5_hashOfAccounts 39 = .ok (.invokestatic 379, 3) := by decide +kernel
theorem dX5_hashOfAccounts_42 : decode cX5_hashOfAccounts 42 = .ok (.lstore 4, 2) := by decide +kernel
theorem dX5_hashOfAccounts_44 : decode cX5_hashOfAccounts 44 = .ok (.lload 4, 2) := by decide +kernel
theorem dX5_hashOfAccounts_46 : decode cX5_hashOfAccounts 46 = .ok (.aload_n 0, 1) := by decide +kernel
theorem dX5_hashOfAccounts_47 : decode cX5_hashOfAccounts 47 = .ok (.aload_n 3, 1) := by decide +kernel
theorem dX5_hashOfAccounts_48 : decode cX5_hashOfAccounts 48 = .ok (.invokevirtual 289, 3) := by decide +kernel
theorem dX5_hashOfAccounts_51 : decode cX5_hashOfAccounts 51 = .ok (.i2l, 1) := by decide +kernel
theorem dX5_hashOfAccounts_52 : decode cX5_hashOfAccounts 52 = .ok (.invokestatic 379, 3) := by decide +kernel
theorem dX5_hashOfAccounts_55 : decode cX5_hashOfAccounts 55 = .ok (.lstore 4, 2) := by decide +kernel
theorem dX5_hashOfAccounts_57 : decode cX5_hashOfAccounts 57 = .ok (.lload 4, 2) := by decide +kernel
theorem dX5_hashOfAccounts_59 : decode cX5_hashOfAccounts 59 = .ok (.aload_n 0, 1) := by decide +kernel
theorem dX5_hashOfAccounts_60 : decode cX5_hashOfAccounts 60 = .ok (.getfield 12, 3) := by decide +kernel
theorem dX5_hashOfAccounts_63 : decode cX5_hashOfAccounts 63 = .ok (.aload_n 3, 1) := by decide +kernel
theorem dX5_hashOfAccounts_64 : decode cX5_hashOfAccounts 64 = .ok (.getfield 133, 3) := by decide +kernel
theorem dX5_hashOfAccounts_67 : decode cX5_hashOfAccounts 67 = .ok (.bipush 50, 2) := by decide +kernel
theorem dX5_hashOfAccounts_69 : decode cX5_hashOfAccounts 69 = .ok (.invokevirtual 293, 3) := by decide +kernel
theorem dX5_hashOfAccounts_72 : decode cX5_hashOfAccounts 72 = .ok (.i2l, 1) := by decide +kernel
theorem dX5_hashOfAccounts_73 : decode cX5_hashOfAccounts 73 = .ok (.invokestatic 379, 3) := by decide +kernel
theorem dX5_hashOfAccounts_76 : decode cX5_hashOfAccounts 76 = .ok (.lstore 4, 2) := by decide +kernel
theorem dX5_hashOfAccounts_78 : decode cX5_hashOfAccounts 78 = .ok (.lload 4, 2) := by decide +kernel
theorem dX5_hashOfAccounts_80 : decode cX5_hashOfAccounts 80 = .ok (.aload_n 0, 1) := by decide +kernel
theorem dX5_hashOfAccounts_81 : decode cX5_hashOfAccounts 81 = .ok (.getfield 12, 3) := by decide +kernel
theorem dX5_hashOfAccounts_84 : decode cX5_hashOfAccounts 84 = .ok (.aload_n 3, 1) := by decide +kernel
theorem dX5_hashOfAccounts_85 : decode cX5_hashOfAccounts 85 = .ok (.getfield 133, 3) := by decide +kernel
theorem dX5_hashOfAccounts_88 : decode cX5_hashOfAccounts 88 = .ok (.bipush 50, 2) := by decide +kernel
theorem dX5_hashOfAccounts_90 : decode cX5_hashOfAccounts 90 = .ok (.invokevirtual 296, 3) := by decide +kernel
theorem dX5_hashOfAccounts_93 : decode cX5_hashOfAccounts 93 = .ok (.i2l, 1) := by decide +kernel
theorem dX5_hashOfAccounts_94 : decode cX5_hashOfAccounts 94 = .ok (.invokestatic 379, 3) := by decide +kernel
theorem dX5_hashOfAccounts_97 : decode cX5_hashOfAccounts 97 = .ok (.lstore 4, 2) := by decide +kernel
theorem dX5_hashOfAccounts_99 : decode cX5_hashOfAccounts 99 = .ok (.lload 4, 2) := by decide +kernel
theorem dX5_hashOfAccounts_101 : decode cX5_hashOfAccounts 101 = .ok (.aload_n 0, 1) := by decide +kernel
theorem dX5_hashOfAccounts_102 : decode cX5_hashOfAccounts 102 = .ok (.getfield 12, 3) := by decide +kernel
theorem dX5_hashOfAccounts_105 : decode cX5_hashOfAccounts 105 = .ok (.aload_n 3, 1) := by decide +kernel
theorem dX5_hashOfAccounts_106 : decode cX5_hashOfAccounts 106 = .ok (.getfield 133, 3) := by decide +kernel
theorem dX5_hashOfAccounts_109 : decode cX5_hashOfAccounts 109 = .ok (.bipush 100, 2) := by decide +kernel
theorem dX5_hashOfAccounts_111 : decode cX5_hashOfAccounts 111 = .ok (.invokevirtual 293, 3) := by decide +kernel
theorem dX5_hashOfAccounts_114 : decode cX5_hashOfAccounts 114 = .ok (.i2l, 1) := by decide +kernel
theorem dX5_hashOfAccounts_115 : decode cX5_hashOfAccounts 115 = .ok (.invokestatic 379, 3) := by decide +kernel
theorem dX5_hashOfAccounts_118 : decode cX5_hashOfAccounts 118 = .ok (.lstore 4, 2) := by decide +kernel
theorem dX5_hashOfAccounts_120 : decode cX5_hashOfAccounts 120 = .ok (.lload 4, 2) := by decide +kernel
theorem dX5_hashOfAccounts_122 : decode cX5_hashOfAccounts 122 = .ok (.aload_n 0, 1) := by decide +kernel
theorem dX5_hashOfAccounts_123 : decode cX5_hashOfAccounts 123 = .ok (.getfield 12, 3) := by decide +kernel
theorem dX5_hashOfAccounts_126 : decode cX5_hashOfAccounts 126 = .ok (.aload_n 3, 1) := by decide +kernel
theorem dX5_hashOfAccounts_127 : decode cX5_hashOfAccounts 127 = .ok (.getfield 133, 3) := by decide +kernel
theorem dX5_hashOfAccounts_130 : decode cX5_hashOfAccounts 130 = .ok (.bipush 100, 2) := by decide +kernel
theorem dX5_hashOfAccounts_132 : decode cX5_hashOfAccounts 132 = .ok (.invokevirtual 296, 3) := by decide +kernel
theorem dX5_hashOfAccounts_135 : decode cX5_hashOfAccounts 135 = .ok (.i2l, 1) := by decide +kernel
theorem dX5_hashOfAccounts_136 : decode cX5_hashOfAccounts 136 = .ok (.invokestatic 379, 3) := by decide +kernel
theorem dX5_hashOfAccounts_139 : decode cX5_hashOfAccounts 139 = .ok (.lstore 4, 2) := by decide +kernel
theorem dX5_hashOfAccounts_141 : decode cX5_hashOfAccounts 141 = .ok (.lload 4, 2) := by decide +kernel
theorem dX5_hashOfAccounts_143 : decode cX5_hashOfAccounts 143 = .ok (.aload_n 0, 1) := by decide +kernel
theorem dX5_hashOfAccounts_144 : decode cX5_hashOfAccounts 144 = .ok (.getfield 157, 3) := by decide +kernel
theorem dX5_hashOfAccounts_147 : decode cX5_hashOfAccounts 147 = .ok (.i2l, 1) := by decide +kernel
theorem dX5_hashOfAccounts_148 : decode cX5_hashOfAccounts 148 = .ok (.invokestatic 379, 3) := by decide +kernel
theorem dX5_hashOfAccounts_151 : decode cX5_hashOfAccounts 151 = .ok (.lstore 4, 2) := by decide +kernel
theorem dX5_hashOfAccounts_153 : decode cX5_hashOfAccounts 153 = .ok (.lload 4, 2) := by decide +kernel
theorem dX5_hashOfAccounts_155 : decode cX5_hashOfAccounts 155 = .ok (.aload_n 0, 1) := by decide +kernel
theorem dX5_hashOfAccounts_156 : decode cX5_hashOfAccounts 156 = .ok (.getfield 12, 3) := by decide +kernel
theorem dX5_hashOfAccounts_159 : decode cX5_hashOfAccounts 159 = .ok (.getfield 219, 3) := by decide +kernel
theorem dX5_hashOfAccounts_162 : decode cX5_hashOfAccounts 162 = .ok (.invokevirtual 281, 3) := by decide +kernel
theorem dX5_hashOfAccounts_165 : decode cX5_hashOfAccounts 165 = .ok (.invokestatic 393, 3) := by decide +kernel
theorem dX5_hashOfAccounts_168 : decode cX5_hashOfAccounts 168 = .ok (.invokestatic 379, 3) := by decide +kernel
theorem dX5_hashOfAccounts_171 : decode cX5_hashOfAccounts 171 = .ok (.lstore 4, 2) := by decide +kernel
theorem dX5_hashOfAccounts_173 : decode cX5_hashOfAccounts 173 = .ok (.lload 4, 2) := by decide +kernel
theorem dX5_hashOfAccounts_175 : decode cX5_hashOfAccounts 175 = .ok (.aload_n 0, 1) := by decide +kernel
theorem dX5_hashOfAccounts_176 : decode cX5_hashOfAccounts 176 = .ok (.aload_n 3, 1) := by decide +kernel
theorem dX5_hashOfAccounts_177 : decode cX5_hashOfAccounts 177 = .ok (.invokevirtual 285, 3) := by decide +kernel
theorem dX5_hashOfAccounts_180 : decode cX5_hashOfAccounts 180 = .ok (.invokestatic 393, 3) := by decide +kernel
theorem dX5_hashOfAccounts_183 : decode cX5_hashOfAccounts 183 = .ok (.invokestatic 379, 3) := by decide +kernel
theorem dX5_hashOfAccounts_186 : decode cX5_hashOfAccounts 186 = .ok (.lreturn, 1) := by decide +kernel
theorem dX5_hashOfTexts_0 : decode cX5_hashOfTexts 0 = .ok (.lload_n 1, 1) := by decide +kernel
theorem dX5_hashOfTexts_1 : decode cX5_hashOfTexts 1 = .ok (.lstore_n 3, 1) := by decide +kernel
theorem dX5_hashOfTexts_2 : decode cX5_hashOfTexts 2 = .ok (.iconst 0, 1) := by decide +kernel
theorem dX5_hashOfTexts_3 : decode cX5_hashOfTexts 3 = .ok (.istore 5, 2) := by decide +kernel
theorem dX5_hashOfTexts_5 : decode cX5_hashOfTexts 5 = .ok (.iload 5, 2) := by decide +kernel
theorem dX5_hashOfTexts_7 : decode cX5_hashOfTexts 7 = .ok (.iconst 2, 1) := by decide +kernel
theorem dX5_hashOfTexts_8 : decode cX5_hashOfTexts 8 = .ok (.if_icmp .ge 28, 3) := by decide +kernel
theorem dX5_hashOfTexts_11 : decode cX5_hashOfTexts 11 = .ok (.lload_n 3, 1) := by decide +kernel
theorem dX5_hashOfTexts_12 : decode cX5_hashOfTexts 12 = .ok (.aload_n 0, 1) := by decide +kernel
theorem dX5_hashOfTexts_13 : decode cX5_hashOfTexts 13 = .ok (.iload 5, 2) := by decide +kernel
theorem dX5_hashOfTexts_15 : decode cX5_hashOfTexts 15 = .ok (.invokevirtual 141, 3) := by decide +kernel
theorem dX5_hashOfTexts_18 : decode cX5_hashOfTexts 18 = .ok (.ifnull 7, 3) := by decide +kernel
theorem dX5_hashOfTexts_21 : decode cX5_hashOfTexts 21 = .ok (.iconst 1, 1) := by decide +kernel
theorem dX5_hashOfTexts_22 : decode cX5_hashOfTexts 22 = .ok (.goto 4, 3) := by decide +kernel
theorem dX5_hashOfTexts_25 : decode cX5_hashOfTexts 25 = .ok (.iconst 0, 1) := by decide +kernel
theorem dX5_hashOfTexts_26 : decode cX5_hashOfTexts 26 = .ok (.invokestatic 383, 3) := by decide +kernel
theorem dX5_hashOfTexts_29 : decode cX5_hashOfTexts 29 = .ok (.lstore_n 3, 1) := by decide +kernel
theorem dX5_hashOfTexts_30 : decode cX5_hashOfTexts 30 = .ok (.iinc 5 1, 3) := by decide +kernel
theorem dX5_hashOfTexts_33 : decode cX5_hashOfTexts 33 = .ok (.goto (-28), 3) := by decide +kernel
theorem dX5_hashOfTexts_36 : decode cX5_hashOfTexts 36 = .ok (.lload_n 3, 1) := by decide +kernel
theorem dX5_hashOfTexts_37 : decode cX5_hashOfTexts 37 = .ok (.aload_n 0, 1) := by decide +kernel
theorem dX5_hashOfTexts_38 : decode cX5_hashOfTexts 38 = .ok (.getfield 105, 3) := by decide +kernel
theorem dX5_hashOfTexts_41 : decode cX5_hashOfTexts 41 = .ok (.i2l, 1) := by decide +kernel
theorem dX5_hashOfTexts_42 : decode cX5_hashOfTexts 42 = .ok (.invokestatic 379, 3) := by decide +kernel
theorem dX5_hashOfTexts_45 : decode cX5_hashOfTexts 45 = .ok (.lstore_n 3, 1) := by decide +kernel
theorem dX5_hashOfTexts_46 : decode cX5_hashOfTexts 46 = .ok (.iconst 0, 1) := by decide +kernel
theorem dX5_hashOfTexts_47 : decode cX5_hashOfTexts 47 = .ok (.istore 5, 2) := by decide +kernel
theorem dX5_hashOfTexts_49 : decode cX5_hashOfTexts 49 = .ok (.iload 5, 2) := by decide +kernel
theorem dX5_hashOfTexts_51 : decode cX5_hashOfTexts 51 = .ok (.aload_n 0, 1) := by decide +kernel
theorem dX5_hashOfTexts_52 : decode cX5_hashOfTexts 52 = .ok (.getfield 105, 3) := by decide +kernel
theorem dX5_hashOfTexts_55 : decode cX5_hashOfTexts 55 = .ok (.if_icmp .ge 32, 3) := by decide +kernel
theorem dX5_hashOfTexts_58 : decode cX5_hashOfTexts 58 = .ok (.iload 5, 2) := by decide +kernel
theorem dX5_hashOfTexts_60 : decode cX5_hashOfTexts 60 = .ok (.aload_n 0, 1) := by decide +kernel
theorem dX5_hashOfTexts_61 : decode cX5_hashOfTexts 61 = .ok (.getfield 26, 3) := by decide +kernel
theorem dX5_hashOfTexts_64 : decode cX5_hashOfTexts 64 = .ok (.arraylength, 1) := by decide +kernel
theorem dX5_hashOfTexts_65 : decode cX5_hashOfTexts 65 = .ok (.if_icmp .ge 22, 3) := by decide +kernel
theorem dX5_hashOfTexts_68 : decode cX5_hashOfTexts 68 = .ok (.lload_n 3, 1) := by decide +kernel
theorem dX5_hashOfTexts_69 : decode cX5_hashOfTexts 69 = .ok (.aload_n 0, 1) := by decide +kernel
theorem dX5_hashOfTexts_70 : decode cX5_hashOfTexts 70 = .ok (.getfield 26, 3) := by decide +kernel
theorem dX5_hashOfTexts_73 : decode cX5_hashOfTexts 73 = .ok (.iload 5, 2) := by decide +kernel
theorem dX5_hashOfTexts_75 : decode cX5_hashOfTexts 75 = .ok (.iaload, 1) := by decide +kernel
theorem dX5_hashOfTexts_76 : decode cX5_hashOfTexts 76 = .ok (.i2l, 1) := by decide +kernel
theorem dX5_hashOfTexts_77 : decode cX5_hashOfTexts 77 = .ok (.invokestatic 379, 3) := by decide +kernel
theorem dX5_hashOfTexts_80 : decode cX5_hashOfTexts 80 = .ok (.lstore_n 3, 1) := by decide +kernel
theorem dX5_hashOfTexts_81 : decode cX5_hashOfTexts 81 = .ok (.iinc 5 1, 3) := by decide +kernel
theorem dX5_hashOfTexts_84 : decode cX5_hashOfTexts 84 = .ok (.goto (-35), 3) := by decide +kernel
theorem dX5_hashOfTexts_87 : decode cX5_hashOfTexts 87 = .ok (.lload_n 3, 1) := by decide +kernel
theorem dX5_hashOfTexts_88 : decode cX5_hashOfTexts 88 = .ok (.lreturn, 1) := by decide +kernel
theorem dX5_bitsOf_0 : decode cX5_bitsOf 0 = .ok (.dload_n 0, 1) := by decide +kernel
theorem dX5_bitsOf_1 : decode cX5_bitsOf 1 = .ok (.dconst 0, 1) := by decide +kernel
theorem dX5_bitsOf_2 : decode cX5_bitsOf 2 = .ok (.dcmp .l, 1) := by decide +kernel
theorem dX5_bitsOf_3 : decode cX5_bitsOf 3 = .ok (.ifCond .gt 5, 3) := by decide +kernel
theorem dX5_bitsOf_6 : decode cX5_bitsOf 6 = .ok (.lconst 0, 1) := by decide +kernel
theorem dX5_bitsOf_7 : decode cX5_bitsOf 7 = .ok (.lreturn, 1) := by decide +kernel
theorem dX5_bitsOf_8 : decode cX5_bitsOf 8 = .ok (.dload_n 0, 1) := by decide +kernel
theorem dX5_bitsOf_9 : decode cX5_bitsOf 9 = .ok (.dstore_n 2, 1) := by decide +kernel
theorem dX5_bitsOf_10 : decode cX5_bitsOf 10 = .ok (.ldc2_w 397, 3) := by decide +kernel
theorem dX5_bitsOf_13 : decode cX5_bitsOf 13 = .ok (.lstore 4, 2) := by decide +kernel
theorem dX5_bitsOf_15 : decode cX5_bitsOf 15 = .ok (.iconst 0, 1) := by decide +kernel
theorem dX5_bitsOf_16 : decode cX5_bitsOf 16 = .ok (.istore 6, 2) := by decide +kernel
theorem dX5_bitsOf_18 : decode cX5_bitsOf 18 = .ok (.iload 6, 2) := by decide +kernel
theorem dX5_bitsOf_20 : decode cX5_bitsOf 20 = .ok (.sipush 1023, 3) := by decide +kernel
theorem dX5_bitsOf_23 : decode cX5_bitsOf 23 = .ok (.if_icmp .ge 29, 3) := by decide +kernel
theorem dX5_bitsOf_26 : decode cX5_bitsOf 26 = .ok (.dload_n 2, 1) := by decide +kernel
theorem dX5_bitsOf_27 : decode cX5_bitsOf 27 = .ok (.ldc2_w 399, 3) := by decide +kernel
theorem dX5_bitsOf_30 : decode cX5_bitsOf 30 = .ok (.dcmp .l, 1) := by decide +kernel
theorem dX5_bitsOf_31 : decode cX5_bitsOf 31 = .ok (.ifCond .lt 21, 3) := by decide +kernel
theorem dX5_bitsOf_34 : decode cX5_bitsOf 34 = .ok (.dload_n 2, 1) := by decide +kernel
theorem dX5_bitsOf_35 : decode cX5_bitsOf 35 = .ok (.ldc2_w 401, 3) := by decide +kernel
theorem dX5_bitsOf_38 : decode cX5_bitsOf 38 = .ok (.dmul, 1) := by decide +kernel
theorem dX5_bitsOf_39 : decode cX5_bitsOf 39 = .ok (.dstore_n 2, 1) := by decide +kernel
theorem dX5_bitsOf_40 : decode cX5_bitsOf 40 = .ok (.lload 4, 2) := by decide +kernel
theorem dX5_bitsOf_42 : decode cX5_bitsOf 42 = .ok (.lconst 1, 1) := by decide +kernel
theorem dX5_bitsOf_43 : decode cX5_bitsOf 43 = .ok (.ladd, 1) := by decide +kernel
theorem dX5_bitsOf_44 : decode cX5_bitsOf 44 = .ok (.lstore 4, 2) := by decide +kernel
theorem dX5_bitsOf_46 : decode cX5_bitsOf 46 = .ok (.iinc 6 1, 3) := by decide +kernel
theorem dX5_bitsOf_49 : decode cX5_bitsOf 49 = .ok (.goto (-31), 3) := by decide +kernel
theorem dX5_bitsOf_52 : decode cX5_bitsOf 52 = .ok (.iconst 0, 1) := by decide +kernel
theorem dX5_bitsOf_53 : decode cX5_bitsOf 53 = .ok (.istore 6, 2) := by decide +kernel
theorem dX5_bitsOf_55 : decode cX5_bitsOf 55 = .ok (.iload 6, 2) := by decide +kernel
theorem dX5_bitsOf_57 : decode cX5_bitsOf 57 = .ok (.sipush 1022, 3) := by decide +kernel
theorem dX5_bitsOf_60 : decode cX5_bitsOf 60 = .ok (.if_icmp .ge 27, 3) := by decide +kernel
theorem dX5_bitsOf_63 : decode cX5_bitsOf 63 = .ok (.dload_n 2, 1) := by decide +kernel
theorem dX5_bitsOf_64 : decode cX5_bitsOf 64 = .ok (.dconst 1, 1) := by decide +kernel
theorem dX5_bitsOf_65 : decode cX5_bitsOf 65 = .ok (.dcmp .g, 1) := by decide +kernel
theorem dX5_bitsOf_66 : decode cX5_bitsOf 66 = .ok (.ifCond .ge 21, 3) := by decide +kernel
theorem dX5_bitsOf_69 : decode cX5_bitsOf 69 = .ok (.dload_n 2, 1) := by decide +kernel
theorem dX5_bitsOf_70 : decode cX5_bitsOf 70 = .ok (.ldc2_w 399, 3) := by decide +kernel
theorem dX5_bitsOf_73 : decode cX5_bitsOf 73 = .ok (.dmul, 1) := by decide +kernel
theorem dX5_bitsOf_74 : decode cX5_bitsOf 74 = .ok (.dstore_n 2, 1) := by decide +kernel
theorem dX5_bitsOf_75 : decode cX5_bitsOf 75 = .ok (.lload 4, 2) := by decide +kernel
theorem dX5_bitsOf_77 : decode cX5_bitsOf 77 = .ok (.lconst 1, 1) := by decide +kernel
theorem dX5_bitsOf_78 : decode cX5_bitsOf 78 = .ok (.lsub, 1) := by decide +kernel
theorem dX5_bitsOf_79 : decode cX5_bitsOf 79 = .ok (.lstore 4, 2) := by decide +kernel
theorem dX5_bitsOf_81 : decode cX5_bitsOf 81 = .ok (.iinc 6 1, 3) := by decide +kernel
theorem dX5_bitsOf_84 : decode cX5_bitsOf 84 = .ok (.goto (-29), 3) := by decide +kernel
theorem dX5_bitsOf_87 : decode cX5_bitsOf 87 = .ok (.lload 4, 2) := by decide +kernel
theorem dX5_bitsOf_89 : decode cX5_bitsOf 89 = .ok (.bipush 52, 2) := by decide +kernel
theorem dX5_bitsOf_91 : decode cX5_bitsOf 91 = .ok (.lshl, 1) := by decide +kernel
theorem dX5_bitsOf_92 : decode cX5_bitsOf 92 = .ok (.dload_n 2, 1) := by decide +kernel
theorem dX5_bitsOf_93 : decode cX5_bitsOf 93 = .ok (.dconst 1, 1) := by decide +kernel
theorem dX5_bitsOf_94 : decode cX5_bitsOf 94 = .ok (.dsub, 1) := by decide +kernel
theorem dX5_bitsOf_95 : decode cX5_bitsOf 95 = .ok (.ldc2_w 403, 3) := by decide +kernel
theorem dX5_bitsOf_98 : decode cX5_bitsOf 98 = .ok (.dmul, 1) := by decide +kernel
theorem dX5_bitsOf_99 : decode cX5_bitsOf 99 = .ok (.d2l, 1) := by decide +kernel
theorem dX5_bitsOf_100 : decode cX5_bitsOf 100 = .ok (.ladd, 1) := by decide +kernel
theorem dX5_bitsOf_101 : decode cX5_bitsOf 101 = .ok (.lreturn, 1) := by decide +kernel
theorem dX6_init_0 : decode cX6_init 0 = .ok (.aload_n 0, 1) := by decide +kernel
theorem dX6_init_1 : decode cX6_init 1 = .ok (.invokespecial 1, 3) := by decide +kernel
theorem dX6_init_4 : decode cX6_init 4 = .ok (.aload_n 0, 1) := by decide +kernel
theorem dX6_init_5 : decode cX6_init 5 = .ok (.sipush 6696, 3) := by decide +kernel
theorem dX6_init_8 : decode cX6_init 8 = .ok (.newarray .int, 2) := by decide +kernel
theorem dX6_init_10 : decode cX6_init 10 = .ok (.putfield 7, 3) := by decide +kernel
theorem dX6_init_13 : decode cX6_init 13 = .ok (.aload_n 0, 1) := by decide +kernel
theorem dX6_init_14 : decode cX6_init 14 = .ok (.ldc 13, 2) := by decide +kernel
theorem dX6_init_16 : decode cX6_init 16 = .ok (.newarray .int, 2) := by decide +kernel
theorem dX6_init_18 : decode cX6_init 18 = .ok (.putfield 14, 3) := by decide +kernel
theorem dX6_init_21 : decode cX6_init 21 = .ok (.aload_n 0, 1) := by decide +kernel
theorem dX6_init_22 : decode cX6_init 22 = .ok (.sipush 13392, 3) := by decide +kernel
theorem dX6_init_25 : decode cX6_init 25 = .ok (.newarray .int, 2) := by decide +kernel
theorem dX6_init_27 : decode cX6_init 27 = .ok (.putfield 17, 3) := by decide +kernel
theorem dX6_init_30 : decode cX6_init 30 = .ok (.aload_n 0, 1) := by decide +kernel
theorem dX6_init_31 : decode cX6_init 31 = .ok (.iconst 2, 1) := by decide +kernel
theorem dX6_init_32 : decode cX6_init 32 = .ok (.newarray .int, 2) := by decide +kernel
theorem dX6_init_34 : decode cX6_init 34 = .ok (.putfield 20, 3) := by decide +kernel
theorem dX6_init_37 : decode cX6_init 37 = .ok (.aload_n 0, 1) := by decide +kernel
theorem dX6_init_38 : decode cX6_init 38 = .ok (.sipush 6696, 3) := by decide +kernel
theorem dX6_init_41 : decode cX6_init 41 = .ok (.newarray .int, 2) := by decide +kernel
theorem dX6_init_43 : decode cX6_init 43 = .ok (.putfield 23, 3) := by decide +kernel
theorem dX6_init_46 : decode cX6_init 46 = .ok (.aload_n 0, 1) := by decide +kernel
theorem dX6_init_47 : decode cX6_init 47 = .ok (.sipush 240, 3) := by decide +kernel
theorem dX6_init_50 : decode cX6_init 50 = .ok (.newarray .int, 2) := by decide +kernel
theorem dX6_init_52 : decode cX6_init 52 = .ok (.putfield 26, 3) := by decide +kernel
theorem dX6_init_55 : decode cX6_init 55 = .ok (.aload_n 0, 1) := by decide +kernel
theorem dX6_init_56 : decode cX6_init 56 = .ok (.sipush 1200, 3) := by decide +kernel
theorem dX6_init_59 : decode cX6_init 59 = .ok (.newarray .int, 2) := by decide +kernel
theorem dX6_init_61 : decode cX6_init 61 = .ok (.putfield 29, 3) := by decide +kernel
theorem dX6_init_64 : decode cX6_init 64 = .ok (.aload_n 0, 1) := by decide +kernel
theorem dX6_init_65 : decode cX6_init 65 = .ok (.bipush 60, 2) := by decide +kernel
theorem dX6_init_67 : decode cX6_init 67 = .ok (.newarray .int, 2) := by decide +kernel
theorem dX6_init_69 : decode cX6_init 69 = .ok (.putfield 32, 3) := by decide +kernel
theorem dX6_init_72 : decode cX6_init 72 = .ok (.aload_n 0, 1) := by decide +kernel
theorem dX6_init_73 : decode cX6_init 73 = .ok (.bipush 93, 2) := by decide +kernel
theorem dX6_init_75 : decode cX6_init 75 = .ok (.newarray .int, 2) := by decide +kernel
theorem dX6_init_77 : decode cX6_init 77 = .ok (.putfield 35, 3) := by decide +kernel
theorem dX6_init_80 : decode cX6_init 80 = .ok (.aload_n 0, 1) := by decide +kernel
theorem dX6_init_81 : decode cX6_init 81 = .ok (.getfield 7, 3) := by decide +kernel
theorem dX6_init_84 : decode cX6_init 84 = .ok (.iconst 0, 1) := by decide +kernel
theorem dX6_init_85 : decode cX6_init 85 = .ok (.iconst 4, 1) := by decide +kernel
theorem dX6_init_86 : decode cX6_init 86 = .ok (.iastore, 1) := by decide +kernel
theorem dX6_init_87 : decode cX6_init 87 = .ok (.aload_n 0, 1) := by decide +kernel
theorem dX6_init_88 : decode cX6_init 88 = .ok (.getfield 7, 3) := by decide +kernel
theorem dX6_init_91 : decode cX6_init 91 = .ok (.iconst 1, 1) := by decide +kernel
theorem dX6_init_92 : decode cX6_init 92 = .ok (.iconst 3, 1) := by decide +kernel
theorem dX6_init_93 : decode cX6_init 93 = .ok (.iastore, 1) := by decide +kernel
theorem dX6_init_94 : decode cX6_init 94 = .ok (.return_, 1) := by decide +kernel
theorem dX6_thrown_0 : decode cX6_thrown 0 = .ok (.aload_n 0, 1) := by decide +kernel
theorem dX6_thrown_1 : decode cX6_thrown 1 = .ok (.getfield 38, 3) := by decide +kernel
theorem dX6_thrown_4 : decode cX6_thrown 4 = .ok (.ireturn, 1) := by decide +kernel
theorem dX6_refuses_0 : decode cX6_refuses 0 = .ok (.aload_n 0, 1) := by decide +kernel
theorem dX6_refuses_1 : decode cX6_refuses 1 = .ok (.iload_n 1, 1) := by decide +kernel
theorem dX6_refuses_2 : decode cX6_refuses 2 = .ok (.putfield 38, 3) := by decide +kernel
theorem dX6_refuses_5 : decode cX6_refuses 5 = .ok (.iconst 0, 1) := by decide +kernel
theorem dX6_refuses_6 : decode cX6_refuses 6 = .ok (.ireturn, 1) := by decide +kernel
theorem dX6_in_0 : decode cX6_in 0 = .ok (.iload_n 0, 1) := by decide +kernel
theorem dX6_in_1 : decode cX6_in 1 = .ok (.iload_n 1, 1) := by decide +kernel
theorem dX6_in_2 : decode cX6_in 2 = .ok (.if_icmp .lt 12, 3) := by decide +kernel
theorem dX6_in_5 : decode cX6_in 5 = .ok (.iload_n 0, 1) := by decide +kernel
theorem dX6_in_6 : decode cX6_in 6 = .ok (.iload_n 2, 1) := by decide +kernel
theorem dX6_in_7 : decode cX6_in 7 = .ok (.if_icmp .gt 7, 3) := by decide +kernel
theorem dX6_in_10 : decode cX6_in 10 = .ok (.iconst 1, 1) := by decide +kernel
theorem dX6_in_11 : decode cX6_in 11 = .ok (.goto 4, 3) := by decide +kernel
theorem dX6_in_14 : decode cX6_in 14 = .ok (.iconst 0, 1) := by decide +kernel
theorem dX6_in_15 : decode cX6_in 15 = .ok (.ireturn, 1) := by decide +kernel
theorem dX6_lays_0 : decode cX6_lays 0 = .ok (.iconst 0, 1) := by decide +kernel
theorem dX6_lays_1 : decode cX6_lays 1 = .ok (.istore 4, 2) := by decide +kernel
theorem dX6_lays_3 : decode cX6_lays 3 = .ok (.iload 4, 2) := by decide +kernel
theorem dX6_lays_5 : decode cX6_lays 5 = .ok (.sipush 6696, 3) := by decide +kernel
theorem dX6_lays_8 : decode cX6_lays 8 = .ok (.if_icmp .ge 21, 3) := by decide +kernel
theorem dX6_lays_11 : decode cX6_lays 11 = .ok (.aload_n 2, 1) := by decide +kernel
theorem dX6_lays_12 : decode cX6_lays 12 = .ok (.iload_n 3, 1) := by decide +kernel
theorem dX6_lays_13 : decode cX6_lays 13 = .ok (.iload 4, 2) := by decide +kernel
theorem dX6_lays_15 : decode cX6_lays 15 = .ok (.iadd, 1) := by decide +kernel
theorem dX6_lays_16 : decode cX6_lays 16 = .ok (.aload_n 0, 1) := by decide +kernel
theorem dX6_lays_17 : decode cX6_lays 17 = .ok (.iload_n 1, 1) := by decide +kernel
theorem dX6_lays_18 : decode cX6_lays 18 = .ok (.iload 4, 2) := by decide +kernel
theorem dX6_lays_20 : decode cX6_lays 20 = .ok (.iadd, 1) := by decide +kernel
theorem dX6_lays_21 : decode cX6_lays 21 = .ok (.iaload, 1) := by decide +kernel
theorem dX6_lays_22 : decode cX6_lays 22 = .ok (.iastore, 1) := by decide +kernel
theorem dX6_lays_23 : decode cX6_lays 23 = .ok (.iinc 4 1, 3) := by decide +kernel
theorem dX6_lays_26 : decode cX6_lays 26 = .ok (.goto (-23), 3) := by decide +kernel
theorem dX6_lays_29 : decode cX6_lays 29 = .ok (.return_, 1) := by decide +kernel
theorem dX6_saves_0 : decode cX6_saves 0 = .ok (.aload_n 0, 1) := by decide +kernel
theorem dX6_saves_1 : decode cX6_saves 1 = .ok (.getfield 42, 3) := by decide +kernel
theorem dX6_saves_4 : decode cX6_saves 4 = .ok (.bipush 6, 2) := by decide +kernel
theorem dX6_saves_6 : decode cX6_saves 6 = .ok (.if_icmp .ne 43, 3) := by decide +kernel
theorem dX6_saves_9 : decode cX6_saves 9 = .ok (.iconst 0, 1) := by decide +kernel
theorem dX6_saves_10 : decode cX6_saves 10 = .ok (.istore_n 2, 1) := by decide +kernel
theorem dX6_saves_11 : decode cX6_saves 11 = .ok (.iload_n 2, 1) := by decide +kernel
theorem dX6_saves_12 : decode cX6_saves 12 = .ok (.ldc 45, 2) := by decide +kernel
theorem dX6_saves_14 : decode cX6_saves 14 = .ok (.if_icmp .ge 25, 3) := by decide +kernel
theorem dX6_saves_17 : decode cX6_saves 17 = .ok (.aload_n 0, 1) := by decide +kernel
theorem dX6_saves_18 : decode cX6_saves 18 = .ok (.getfield 14, 3) := by decide +kernel
theorem dX6_saves_21 : decode cX6_saves 21 = .ok (.iload_n 2, 1) := by decide +kernel
theorem dX6_saves_22 : decode cX6_saves 22 = .ok (.aload_n 0, 1) := by decide +kernel
theorem dX6_saves_23 : decode cX6_saves 23 = .ok (.getfield 14, 3) := by decide +kernel
theorem dX6_saves_26 : decode cX6_saves 26 = .ok (.iload_n 2, 1) := by decide +kernel
theorem dX6_saves_27 : decode cX6_saves 27 = .ok (.sipush 6696, 3) := by decide +kernel
theorem dX6_saves_30 : decode cX6_saves 30 = .ok (.iadd, 1) := by decide +kernel
theorem dX6_saves_31 : decode cX6_saves 31 = .ok (.iaload, 1) := by decide +kernel
theorem dX6_saves_32 : decode cX6_saves 32 = .ok (.iastore, 1) := by decide +kernel
theorem dX6_saves_33 : decode cX6_saves 33 = .ok (.iinc 2 1, 3) := by decide +kernel
theorem dX6_saves_36 : decode cX6_saves 36 = .ok (.goto (-25), 3) := by decide +kernel
theorem dX6_saves_39 : decode cX6_saves 39 = .ok (.aload_n 0, 1) := by decide +kernel
theorem dX6_saves_40 : decode cX6_saves 40 = .ok (.dup, 1) := by decide +kernel
theorem dX6_saves_41 : decode cX6_saves 41 = .ok (.getfield 42, 3) := by decide +kernel
theorem dX6_saves_44 : decode cX6_saves 44 = .ok (.iconst 1, 1) := by decide +kernel
theorem dX6_saves_45 : decode cX6_saves 45 = .ok (.isub, 1) := by decide +kernel
theorem dX6_saves_46 : decode cX6_saves 46 = .ok (.putfield 42, 3) := by decide +kernel
theorem dX6_saves_49 : decode cX6_saves 49 = .ok (.aload_n 1, 1) := by decide +kernel
theorem dX6_saves_50 : decode cX6_saves 50 = .ok (.iconst 0, 1) := by decide +kernel
theorem dX6_saves_51 : decode cX6_saves 51 = .ok (.aload_n 0, 1) := by decide +kernel
theorem dX6_saves_52 : decode cX6_saves 52 = .ok (.getfield 14, 3) := by decide +kernel
theorem dX6_saves_55 : decode cX6_saves 55 = .ok (.sipush 6696, 3) := by decide +kernel
theorem dX6_saves_58 : decode cX6_saves 58 = .ok (.aload_n 0, 1) := by decide +kernel
theorem dX6_saves_59 : decode cX6_saves 59 = .ok (.getfield 42, 3) := by decide +kernel
theorem dX6_saves_62 : decode cX6_saves 62 = .ok (.imul, 1) := by decide +kernel
theorem dX6_saves_63 : decode cX6_saves 63 = .ok (.invokestatic 46, 3) := by decide +kernel
theorem dX6_saves_66 : decode cX6_saves 66 = .ok (.aload_n 0, 1) := by decide +kernel
theorem dX6_saves_67 : decode cX6_saves 67 = .ok (.dup, 1) := by decide +kernel
theorem dX6_saves_68 : decode cX6_saves 68 = .ok (.getfield 42, 3) := by decide +kernel
theorem dX6_saves_71 : decode cX6_saves 71 = .ok (.iconst 1, 1) := by decide +kernel
theorem dX6_saves_72 : decode cX6_saves 72 = .ok (.iadd, 1) := by decide +kernel
theorem dX6_saves_73 : decode cX6_saves 73 = .ok (.putfield 42, 3) := by decide +kernel
theorem dX6_saves_76 : decode cX6_saves 76 = .ok (.return_, 1) := by decide +kernel
theorem dX6_isKey_0 : decode cX6_isKey 0 = .ok (.iload_n 0, 1) := by decide +kernel
theorem dX6_isKey_1 : decode cX6_isKey 1 = .ok (.iconst 0, 1) := by decide +kernel
theorem dX6_isKey_2 : decode cX6_isKey 2 = .ok (.sipush 9999, 3) := by decide +kernel
theorem dX6_isKey_5 : decode cX6_isKey 5 = .ok (.invokestatic 50, 3) := by decide +kernel
theorem dX6_isKey_8 : decode cX6_isKey 8 = .ok (.ireturn, 1) := by decide +kernel
theorem dX6_isValue_0 : decode cX6_isValue 0 = .ok (.iload_n 0, 1) := by decide +kernel
theorem dX6_isValue_1 : decode cX6_isValue 1 = .ok (.iconst 0, 1) := by decide +kernel
theorem dX6_isValue_2 : decode cX6_isValue 2 = .ok (.bipush 99, 2) := by decide +kernel
theorem dX6_isValue_4 : decode cX6_isValue 4 = .ok (.invokestatic 50, 3) := by decide +kernel
theorem dX6_isValue_7 : decode cX6_isValue 7 = .ok (.ireturn, 1) := by decide +kernel
theorem dX6_size_0 : decode cX6_size 0 = .ok (.aload_n 0, 1) := by decide +kernel
theorem dX6_size_1 : decode cX6_size 1 = .ok (.getfield 7, 3) := by decide +kernel
theorem dX6_size_4 : decode cX6_size 4 = .ok (.bipush 9, 2) := by decide +kernel
theorem dX6_size_6 : decode cX6_size 6 = .ok (.bipush 121, 2) := by decide +kernel
theorem dX6_size_8 : decode cX6_size 8 = .ok (.iload_n 1, 1) := by decide +kernel
theorem dX6_size_9 : decode cX6_size 9 = .ok (.imul, 1) := by decide +kernel
theorem dX6_size_10 : decode cX6_size 10 = .ok (.iadd, 1) := by decide +kernel
theorem dX6_size_11 : decode cX6_size 11 = .ok (.iaload, 1) := by decide +kernel
theorem dX6_size_12 : decode cX6_size 12 = .ok (.ireturn, 1) := by decide +kernel
theorem dX6_key_0 : decode cX6_key 0 = .ok (.aload_n 0, 1) := by decide +kernel
theorem dX6_key_1 : decode cX6_key 1 = .ok (.getfield 7, 3) := by decide +kernel
theorem dX6_key_4 : decode cX6_key 4 = .ok (.bipush 9, 2) := by decide +kernel
theorem dX6_key_6 : decode cX6_key 6 = .ok (.bipush 121, 2) := by decide +kernel
theorem dX6_key_8 : decode cX6_key 8 = .ok (.iload_n 1, 1) := by decide +kernel
theorem dX6_key_9 : decode cX6_key 9 = .ok (.imul, 1) := by decide +kernel
theorem dX6_key_10 : decode cX6_key 10 = .ok (.iadd, 1) := by decide +kernel
theorem dX6_key_11 : decode cX6_key 11 = .ok (.iconst 1, 1) := by decide +kernel
theorem dX6_key_12 : decode cX6_key 12 = .ok (.iadd, 1) := by decide +kernel
theorem dX6_key_13 : decode cX6_key 13 = .ok (.iconst 2, 1) := by decide +kernel
theorem dX6_key_14 : decode cX6_key 14 = .ok (.iload_n 2, 1) := by decide +kernel
theorem dX6_key_15 : decode cX6_key 15 = .ok (.imul, 1) := by decide +kernel
theorem dX6_key_16 : decode cX6_key 16 = .ok (.iadd, 1) := by decide +kernel
theorem dX6_key_17 : decode cX6_key 17 = .ok (.iaload, 1) := by decide +kernel
theorem dX6_key_18 : decode cX6_key 18 = .ok (.ireturn, 1) := by decide +kernel
theorem dX6_value_0 : decode cX6_value 0 = .ok (.aload_n 0, 1) := by decide +kernel
theorem dX6_value_1 : decode cX6_value 1 = .ok (.getfield 7, 3) := by decide +kernel
theorem dX6_value_4 : decode cX6_value 4 = .ok (.bipush 9, 2) := by decide +kernel
theorem dX6_value_6 : decode cX6_value 6 = .ok (.bipush 121, 2) := by decide +kernel
theorem dX6_value_8 : decode cX6_value 8 = .ok (.iload_n 1, 1) := by decide +kernel
theorem dX6_value_9 : decode cX6_value 9 = .ok (.imul, 1) := by decide +kernel
theorem dX6_value_10 : decode cX6_value 10 = .ok (.iadd, 1) := by decide +kernel
theorem dX6_value_11 : decode cX6_value 11 = .ok (.iconst 2, 1) := by decide +kernel
theorem dX6_value_12 : decode cX6_value 12 = .ok (.iadd, 1) := by decide +kernel
theorem dX6_value_13 : decode cX6_value 13 = .ok (.iconst 2, 1) := by decide +kernel
theorem dX6_value_14 : decode cX6_value 14 = .ok (.iload_n 2, 1) := by decide +kernel
theorem dX6_value_15 : decode cX6_value 15 = .ok (.imul, 1) := by decide +kernel
theorem dX6_value_16 : decode cX6_value 16 = .ok (.iadd, 1) := by decide +kernel
theorem dX6_value_17 : decode cX6_value 17 = .ok (.iaload, 1) := by decide +kernel
theorem dX6_value_18 : decode cX6_value 18 = .ok (.ireturn, 1) := by decide +kernel
theorem dX6_placeIn_0 : decode cX6_placeIn 0 = .ok (.iconst 0, 1) := by decide +kernel
theorem dX6_placeIn_1 : decode cX6_placeIn 1 = .ok (.istore_n 3, 1) := by decide +kernel
theorem dX6_placeIn_2 : decode cX6_placeIn 2 = .ok (.iload_n 3, 1) := by decide +kernel
theorem dX6_placeIn_3 : decode cX6_placeIn 3 = .ok (.aload_n 0, 1) := by decide +kernel
theorem dX6_placeIn_4 : decode cX6_placeIn 4 = .ok (.iload_n 1, 1) := by decide +kernel
theorem dX6_placeIn_5 : decode cX6_placeIn 5 = .ok (.invokevirtual 54, 3) := by decide +kernel
theorem dX6_placeIn_8 : decode cX6_placeIn 8 = .ok (.if_icmp .ge 21, 3) := by decide +kernel
theorem dX6_placeIn_11 : decode cX6_placeIn 11 = .ok (.aload_n 0, 1) := by decide +kernel
theorem dX6_placeIn_12 : decode cX6_placeIn 12 = .ok (.iload_n 1, 1) := by decide +kernel
theorem dX6_placeIn_13 : decode cX6_placeIn 13 = .ok (.iload_n 3, 1) := by decide +kernel
theorem dX6_placeIn_14 : decode cX6_placeIn 14 = .ok (.invokevirtual 58, 3) := by decide +kernel
theorem dX6_placeIn_17 : decode cX6_placeIn 17 = .ok (.iload_n 2, 1) := by decide +kernel
theorem dX6_placeIn_18 : decode cX6_placeIn 18 = .ok (.if_icmp .ne 5, 3) := by decide +kernel
theorem dX6_placeIn_21 : decode cX6_placeIn 21 = .ok (.iload_n 3, 1) := by decide +kernel
theorem dX6_placeIn_22 : decode cX6_placeIn 22 = .ok (.ireturn, 1) := by decide +kernel
theorem dX6_placeIn_23 : decode cX6_placeIn 23 = .ok (.iinc 3 1, 3) := by decide +kernel
theorem dX6_placeIn_26 : decode cX6_placeIn 26 = .ok (.goto (-24), 3) := by decide +kernel
theorem dX6_placeIn_29 : decode cX6_placeIn 29 = .ok (.iconst (-1), 1) := by decide +kernel
theorem dX6_placeIn_30 : decode cX6_placeIn 30 = .ok (.ireturn, 1) := by decide +kernel
theorem dX6_runWith_0 : decode cX6_runWith 0 = .ok (.iconst 0, 1) := by decide +kernel
theorem dX6_runWith_1 : decode cX6_runWith 1 = .ok (.istore_n 2, 1) := by decide +kernel
theorem dX6_runWith_2 : decode cX6_runWith 2 = .ok (.iload_n 2, 1) := by decide +kernel
theorem dX6_runWith_3 : decode cX6_runWith 3 = .ok (.aload_n 0, 1) := by decide +kernel
theorem dX6_runWith_4 : decode cX6_runWith 4 = .ok (.getfield 7, 3) := by decide +kernel
theorem dX6_runWith_7 : decode cX6_runWith 7 = .ok (.bipush 6, 2) := by decide +kernel
theorem dX6_runWith_9 : decode cX6_runWith 9 = .ok (.iaload, 1) := by decide +kernel
theorem dX6_runWith_10 : decode cX6_runWith 10 = .ok (.if_icmp .gt 21, 3) := by decide +kernel
theorem dX6_runWith_13 : decode cX6_runWith 13 = .ok (.aload_n 0, 1) := by decide +kernel
theorem dX6_runWith_14 : decode cX6_runWith 14 = .ok (.iload_n 2, 1) := by decide +kernel
theorem dX6_runWith_15 : decode cX6_runWith 15 = .ok (.iload_n 1, 1) := by decide +kernel
theorem dX6_runWith_16 : decode cX6_runWith 16 = .ok (.invokevirtual 62, 3) := by decide +kernel
theorem dX6_runWith_19 : decode cX6_runWith 19 = .ok (.iconst (-1), 1) := by decide +kernel
theorem dX6_runWith_20 : decode cX6_runWith 20 = .ok (.if_icmp .eq 5, 3) := by decide +kernel
theorem dX6_runWith_23 : decode cX6_runWith 23 = .ok (.iload_n 2, 1) := by decide +kernel
theorem dX6_runWith_24 : decode cX6_runWith 24 = .ok (.ireturn, 1) := by decide +kernel
theorem dX6_runWith_25 : decode cX6_runWith 25 = .ok (.iinc 2 1, 3) := by decide +kernel
theorem dX6_runWith_28 : decode cX6_runWith 28 = .ok (.goto (-26), 3) := by decide +kernel
theorem dX6_runWith_31 : decode cX6_runWith 31 = .ok (.iconst (-1), 1) := by decide +kernel
theorem dX6_runWith_32 : decode cX6_runWith 32 = .ok (.ireturn, 1) := by decide +kernel
theorem dX6_writes_0 : decode cX6_writes 0 = .ok (.aload_n 0, 1) := by decide +kernel
theorem dX6_writes_1 : decode cX6_writes 1 = .ok (.iload_n 1, 1) := by decide +kernel
theorem dX6_writes_2 : decode cX6_writes 2 = .ok (.iload_n 2, 1) := by decide +kernel
theorem dX6_writes_3 : decode cX6_writes 3 = .ok (.invokevirtual 62, 3) := by decide +kernel
theorem dX6_writes_6 : decode cX6_writes 6 = .ok (.istore 4, 2) := by decide +kernel
theorem dX6_writes_8 : decode cX6_writes 8 = .ok (.bipush 9, 2) := by decide +kernel
theorem dX6_writes_10 : decode cX6_writes 10 = .ok (.bipush 121, 2) := by decide +kernel
theorem dX6_writes_12 : decode cX6_writes 12 = .ok (.iload_n 1, 1) := by decide +kernel
theorem dX6_writes_13 : decode cX6_writes 13 = .ok (.imul, 1) := by decide +kernel
theorem dX6_writes_14 : decode cX6_writes 14 = .ok (.iadd, 1) := by decide +kernel
theorem dX6_writes_15 : decode cX6_writes 15 = .ok (.istore 5, 2) := by decide +kernel
theorem dX6_writes_17 : decode cX6_writes 17 = .ok (.iload 4, 2) := by decide +kernel
theorem dX6_writes_19 : decode cX6_writes 19 = .ok (.iconst (-1), 1) := by decide +kernel
theorem dX6_writes_20 : decode cX6_writes 20 = .ok (.if_icmp .ne 106, 3) := by decide +kernel
theorem dX6_writes_23 : decode cX6_writes 23 = .ok (.aload_n 0, 1) := by decide +kernel
theorem dX6_writes_24 : decode cX6_writes 24 = .ok (.iload_n 1, 1) := by decide +kernel
theorem dX6_writes_25 : decode cX6_writes 25 = .ok (.invokevirtual 54, 3) := by decide +kernel
theorem dX6_writes_28 : decode cX6_writes 28 = .ok (.istore 4, 2) := by decide +kernel
theorem dX6_writes_30 : decode cX6_writes 30 = .ok (.iload 4, 2) := by decide +kernel
theorem dX6_writes_32 : decode cX6_writes 32 = .ok (.ifCond .le 68, 3) := by decide +kernel
theorem dX6_writes_35 : decode cX6_writes 35 = .ok (.aload_n 0, 1) := by decide +kernel
theorem dX6_writes_36 : decode cX6_writes 36 = .ok (.iload_n 1, 1) := by decide +kernel
theorem dX6_writes_37 : decode cX6_writes 37 = .ok (.iload 4, 2) := by decide +kernel
theorem dX6_writes_39 : decode cX6_writes 39 = .ok (.iconst 1, 1) := by decide +kernel
theorem dX6_writes_40 : decode cX6_writes 40 = .ok (.isub, 1) := by decide +kernel
theorem dX6_writes_41 : decode cX6_writes 41 = .ok (.invokevirtual 58, 3) := by decide +kernel
theorem dX6_writes_44 : decode cX6_writes 44 = .ok (.iload_n 2, 1) := by decide +kernel
theorem dX6_writes_45 : decode cX6_writes 45 = .ok (.if_icmp .le 55, 3) := by decide +kernel
theorem dX6_writes_48 : decode cX6_writes 48 = .ok (.aload_n 0, 1) := by decide +kernel
theorem dX6_writes_49 : decode cX6_writes 49 = .ok (.getfield 7, 3) := by decide +kernel
theorem dX6_writes_52 : decode cX6_writes 52 = .ok (.iload 5, 2) := by decide +kernel
theorem dX6_writes_54 : decode cX6_writes 54 = .ok (.iconst 1, 1) := by decide +kernel
theorem dX6_writes_55 : decode cX6_writes 55 = .ok (.iadd, 1) := by decide +kernel
theorem dX6_writes_56 : decode cX6_writes 56 = .ok (.iconst 2, 1) := by decide +kernel
theorem dX6_writes_57 : decode cX6_writes 57 = .ok (.iload 4, 2) := by decide +kernel
theorem dX6_writes_59 : decode cX6_writes 59 = .ok (.imul, 1) := by decide +kernel
theorem dX6_writes_60 : decode cX6_writes 60 = .ok (.iadd, 1) := by decide +kernel
theorem dX6_writes_61 : decode cX6_writes 61 = .ok (.aload_n 0, 1) := by decide +kernel
theorem dX6_writes_62 : decode cX6_writes 62 = .ok (.iload_n 1, 1) := by decide +kernel
theorem dX6_writes_63 : decode cX6_writes 63 = .ok (.iload 4, 2) := by decide +kernel
theorem dX6_writes_65 : decode cX6_writes 65 = .ok (.iconst 1, 1) := by decide +kernel
theorem dX6_writes_66 : decode cX6_writes 66 = .ok (.isub, 1) := by decide +kernel
theorem dX6_writes_67 : decode cX6_writes 67 = .ok (.invokevirtual 58, 3) := by decide +kernel
theorem dX6_writes_70 : decode cX6_writes 70 = .ok (.iastore, 1) := by decide +kernel
theorem dX6_writes_71 : decode cX6_writes 71 = .ok (.aload_n 0, 1) := by decide +kernel
theorem dX6_writes_72 : decode cX6_writes 72 = .ok (.getfield 7, 3) := by decide +kernel
theorem dX6_writes_75 : decode cX6_writes 75 = .ok (.iload 5, 2) := by decide +kernel
theorem dX6_writes_77 : decode cX6_writes 77 = .ok (.iconst 2, 1) := by decide +kernel
theorem dX6_writes_78 : decode cX6_writes 78 = .ok (.iadd, 1) := by decide +kernel
theorem dX6_writes_79 : decode cX6_writes 79 = .ok (.iconst 2, 1) := by decide +kernel
theorem dX6_writes_80 : decode cX6_writes 80 = .ok (.iload 4, 2) := by decide +kernel
theorem dX6_writes_82 : decode cX6_writes 82 = .ok (.imul, 1) := by decide +kernel
theorem dX6_writes_83 : decode cX6_writes 83 = .ok (.iadd, 1) := by decide +kernel
theorem dX6_writes_84 : decode cX6_writes 84 = .ok (.aload_n 0, 1) := by decide +kernel
theorem dX6_writes_85 : decode cX6_writes 85 = .ok (.iload_n 1, 1) := by decide +kernel
theorem dX6_writes_86 : decode cX6_writes 86 = .ok (.iload 4, 2) := by decide +kernel
theorem dX6_writes_88 : decode cX6_writes 88 = .ok (.iconst 1, 1) := by decide +kernel
theorem dX6_writes_89 : decode cX6_writes 89 = .ok (.isub, 1) := by decide +kernel
theorem dX6_writes_90 : decode cX6_writes 90 = .ok (.invokevirtual 65, 3) := by decide +kernel
theorem dX6_writes_93 : decode cX6_writes 93 = .ok (.iastore, 1) := by decide +kernel
theorem dX6_writes_94 : decode cX6_writes 94 = .ok (.iinc 4 (-1), 3) := by decide +kernel
theorem dX6_writes_97 : decode cX6_writes 97 = .ok (.goto (-67), 3) := by decide +kernel
theorem dX6_writes_100 : decode cX6_writes 100 = .ok (.aload_n 0, 1) := by decide +kernel
theorem dX6_writes_101 : decode cX6_writes 101 = .ok (.getfield 7, 3) := by decide +kernel
theorem dX6_writes_104 : decode cX6_writes 104 = .ok (.iload 5, 2) := by decide +kernel
theorem dX6_writes_106 : decode cX6_writes 106 = .ok (.dup2, 1) := by decide +kernel
theorem dX6_writes_107 : decode cX6_writes 107 = .ok (.iaload, 1) := by decide +kernel
theorem dX6_writes_108 : decode cX6_writes 108 = .ok (.iconst 1, 1) := by decide +kernel
theorem dX6_writes_109 : decode cX6_writes 109 = .ok (.iadd, 1) := by decide +kernel
theorem dX6_writes_110 : decode cX6_writes 110 = .ok (.iastore, 1) := by decide +kernel
theorem dX6_writes_111 : decode cX6_writes 111 = .ok (.aload_n 0, 1) := by decide +kernel
theorem dX6_writes_112 : decode cX6_writes 112 = .ok (.getfield 7, 3) := by decide +kernel
theorem dX6_writes_115 : decode cX6_writes 115 = .ok (.iload 5, 2) := by decide +kernel
theorem dX6_writes_117 : decode cX6_writes 117 = .ok (.iconst 1, 1) := by decide +kernel
theorem dX6_writes_118 : decode cX6_writes 118 = .ok (.iadd, 1) := by decide +kernel
theorem dX6_writes_119 : decode cX6_writes 119 = .ok (.iconst 2, 1) := by decide +kernel
theorem dX6_writes_120 : decode cX6_writes 120 = .ok (.iload 4, 2) := by decide +kernel
theorem dX6_writes_122 : decode cX6_writes 122 = .ok (.imul, 1) := by decide +kernel
theorem dX6_writes_123 : decode cX6_writes 123 = .ok (.iadd, 1) := by decide +kernel
theorem dX6_writes_124 : decode cX6_writes 124 = .ok (.iload_n 2, 1) := by decide +kernel
theorem dX6_writes_125 : decode cX6_writes 125 = .ok (.iastore, 1) := by decide +kernel
theorem dX6_writes_126 : decode cX6_writes 126 = .ok (.aload_n 0, 1) := by decide +kernel
theorem dX6_writes_127 : decode cX6_writes 127 = .ok (.getfield 7, 3) := by decide +kernel
theorem dX6_writes_130 : decode cX6_writes 130 = .ok (.iload 5, 2) := by decide +kernel
theorem dX6_writes_132 : decode cX6_writes 132 = .ok (.iconst 2, 1) := by decide +kernel
theorem dX6_writes_133 : decode cX6_writes 133 = .ok (.iadd, 1) := by decide +kernel
theorem dX6_writes_134 : decode cX6_writes 134 = .ok (.iconst 2, 1) := by decide +kernel
theorem dX6_writes_135 : decode cX6_writes 135 = .ok (.iload 4, 2) := by decide +kernel
theorem dX6_writes_137 : decode cX6_writes 137 = .ok (.imul, 1) := by decide +kernel
theorem dX6_writes_138 : decode cX6_writes 138 = .ok (.iadd, 1) := by decide +kernel
theorem dX6_writes_139 : decode cX6_writes 139 = .ok (.iload_n 3, 1) := by decide +kernel
theorem dX6_writes_140 : decode cX6_writes 140 = .ok (.iastore, 1) := by decide +kernel
theorem dX6_writes_141 : decode cX6_writes 141 = .ok (.return_, 1) := by decide +kernel
theorem dX6_canWrite_0 : decode cX6_canWrite 0 = .ok (.aload_n 0, 1) := by decide +kernel
theorem dX6_canWrite_1 : decode cX6_canWrite 1 = .ok (.iconst 0, 1) := by decide +kernel
theorem dX6_canWrite_2 : decode cX6_canWrite 2 = .ok (.iload_n 1, 1) := by decide +kernel
theorem dX6_canWrite_3 : decode cX6_canWrite 3 = .ok (.invokevirtual 62, 3) := by decide +kernel
theorem dX6_canWrite_6 : decode cX6_canWrite 6 = .ok (.iconst (-1), 1) := by decide +kernel
theorem dX6_canWrite_7 : decode cX6_canWrite 7 = .ok (.if_icmp .ne 13, 3) := by decide +kernel
theorem dX6_canWrite_10 : decode cX6_canWrite 10 = .ok (.aload_n 0, 1) := by decide +kernel
theorem dX6_canWrite_11 : decode cX6_canWrite 11 = .ok (.iconst 0, 1) := by decide +kernel
theorem dX6_canWrite_12 : decode cX6_canWrite 12 = .ok (.invokevirtual 54, 3) := by decide +kernel
theorem dX6_canWrite_15 : decode cX6_canWrite 15 = .ok (.bipush 12, 2) := by decide +kernel
theorem dX6_canWrite_17 : decode cX6_canWrite 17 = .ok (.if_icmp .ge 7, 3) := by decide +kernel
theorem dX6_canWrite_20 : decode cX6_canWrite 20 = .ok (.iconst 1, 1) := by decide +kernel
theorem dX6_canWrite_21 : decode cX6_canWrite 21 = .ok (.goto 4, 3) := by decide +kernel
theorem dX6_canWrite_24 : decode cX6_canWrite 24 = .ok (.iconst 0, 1) := by decide +kernel
theorem dX6_canWrite_25 : decode cX6_canWrite 25 = .ok (.ireturn, 1) := by decide +kernel
theorem dX6_tells_0 : decode cX6_tells 0 = .ok (.aload_n 0, 1) := by decide +kernel
theorem dX6_tells_1 : decode cX6_tells 1 = .ok (.iconst 0, 1) := by decide +kernel
theorem dX6_tells_2 : decode cX6_tells 2 = .ok (.iload_n 1, 1) := by decide +kernel
theorem dX6_tells_3 : decode cX6_tells 3 = .ok (.iload_n 2, 1) := by decide +kernel
theorem dX6_tells_4 : decode cX6_tells 4 = .ok (.invokevirtual 68, 3) := by decide +kernel
theorem dX6_tells_7 : decode cX6_tells 7 = .ok (.aload_n 0, 1) := by decide +kernel
theorem dX6_tells_8 : decode cX6_tells 8 = .ok (.iconst 0, 1) := by decide +kernel
theorem dX6_tells_9 : decode cX6_tells 9 = .ok (.invokevirtual 54, 3) := by decide +kernel
theorem dX6_tells_12 : decode cX6_tells 12 = .ok (.ireturn, 1) := by decide +kernel
theorem dX6_canClose_0 : decode cX6_canClose 0 = .ok (.aload_n 0, 1) := by decide +kernel
theorem dX6_canClose_1 : decode cX6_canClose 1 = .ok (.iconst 0, 1) := by decide +kernel
theorem dX6_canClose_2 : decode cX6_canClose 2 = .ok (.invokevirtual 54, 3) := by decide +kernel
theorem dX6_canClose_5 : decode cX6_canClose 5 = .ok (.ifCond .le 19, 3) := by decide +kernel
theorem dX6_canClose_8 : decode cX6_canClose 8 = .ok (.aload_n 0, 1) := by decide +kernel
theorem dX6_canClose_9 : decode cX6_canClose 9 = .ok (.getfield 7, 3) := by decide +kernel
theorem dX6_canClose_12 : decode cX6_canClose 12 = .ok (.bipush 6, 2) := by decide +kernel
theorem dX6_canClose_14 : decode cX6_canClose 14 = .ok (.iaload, 1) := by decide +kernel
theorem dX6_canClose_15 : decode cX6_canClose 15 = .ok (.bipush 6, 2) := by decide +kernel
theorem dX6_canClose_17 : decode cX6_canClose 17 = .ok (.if_icmp .ge 7, 3) := by decide +kernel
theorem dX6_canClose_20 : decode cX6_canClose 20 = .ok (.iconst 1, 1) := by decide +kernel
theorem dX6_canClose_21 : decode cX6_canClose 21 = .ok (.goto 4, 3) := by decide +kernel
theorem dX6_canClose_24 : decode cX6_canClose 24 = .ok (.iconst 0, 1) := by decide +kernel
theorem dX6_canClose_25 : decode cX6_canClose 25 = .ok (.ireturn, 1) := by decide +kernel
theorem dX6_closes_0 : decode cX6_closes 0 = .ok (.bipush 9, 2) := by decide +kernel
theorem dX6_closes_2 : decode cX6_closes 2 = .ok (.bipush 121, 2) := by decide +kernel
theorem dX6_closes_4 : decode cX6_closes 4 = .ok (.aload_n 0, 1) := by decide +kernel
theorem dX6_closes_5 : decode cX6_closes 5 = .ok (.getfield 7, 3) := by decide +kernel
theorem dX6_closes_8 : decode cX6_closes 8 = .ok (.bipush 6, 2) := by decide +kernel
theorem dX6_closes_10 : decode cX6_closes 10 = .ok (.iaload, 1) := by decide +kernel
theorem dX6_closes_11 : decode cX6_closes 11 = .ok (.iconst 1, 1) := by decide +kernel
theorem dX6_closes_12 : decode cX6_closes 12 = .ok (.iadd, 1) := by decide +kernel
theorem dX6_closes_13 : decode cX6_closes 13 = .ok (.imul, 1) := by decide +kernel
theorem dX6_closes_14 : decode cX6_closes 14 = .ok (.iadd, 1) := by decide +kernel
theorem dX6_closes_15 : decode cX6_closes 15 = .ok (.iconst 1, 1) := by decide +kernel
theorem dX6_closes_16 : decode cX6_closes 16 = .ok (.isub, 1) := by decide +kernel
theorem dX6_closes_17 : decode cX6_closes 17 = .ok (.istore_n 1, 1) := by decide +kernel
theorem dX6_closes_18 : decode cX6_closes 18 = .ok (.iload_n 1, 1) := by decide +kernel
theorem dX6_closes_19 : decode cX6_closes 19 = .ok (.bipush 9, 2) := by decide +kernel
theorem dX6_closes_21 : decode cX6_closes 21 = .ok (.if_icmp .lt 24, 3) := by decide +kernel
theorem dX6_closes_24 : decode cX6_closes 24 = .ok (.aload_n 0, 1) := by decide +kernel
theorem dX6_closes_25 : decode cX6_closes 25 = .ok (.getfield 7, 3) := by decide +kernel
theorem dX6_closes_28 : decode cX6_closes 28 = .ok (.iload_n 1, 1) := by decide +kernel
theorem dX6_closes_29 : decode cX6_closes 29 = .ok (.bipush 121, 2) := by decide +kernel
theorem dX6_closes_31 : decode cX6_closes 31 = .ok (.iadd, 1) := by decide +kernel
theorem dX6_closes_32 : decode cX6_closes 32 = .ok (.aload_n 0, 1) := by decide +kernel
theorem dX6_closes_33 : decode cX6_closes 33 = .ok (.getfield 7, 3) := by decide +kernel
theorem dX6_closes_36 : decode cX6_closes 36 = .ok (.iload_n 1, 1) := by decide +kernel
theorem dX6_closes_37 : decode cX6_closes 37 = .ok (.iaload, 1) := by decide +kernel
theorem dX6_closes_38 : decode cX6_closes 38 = .ok (.iastore, 1) := by decide +kernel
theorem dX6_closes_39 : decode cX6_closes 39 = .ok (.iinc 1 (-1), 3) := by decide +kernel
theorem dX6_closes_42 : decode cX6_closes 42 = .ok (.goto (-24), 3) := by decide +kernel
theorem dX6_closes_45 : decode cX6_closes 45 = .ok (.aload_n 0, 1) := by decide +kernel
theorem dX6_closes_46 : decode cX6_closes 46 = .ok (.getfield 7, 3) := by decide +kernel
theorem dX6_closes_49 : decode cX6_closes 49 = .ok (.bipush 9, 2) := by decide +kernel
theorem dX6_closes_51 : decode cX6_closes 51 = .ok (.iconst 0, 1) := by decide +kernel
theorem dX6_closes_52 : decode cX6_closes 52 = .ok (.iastore, 1) := by decide +kernel
theorem dX6_closes_53 : decode cX6_closes 53 = .ok (.aload_n 0, 1) := by decide +kernel
theorem dX6_closes_54 : decode cX6_closes 54 = .ok (.getfield 7, 3) := by decide +kernel
theorem dX6_closes_57 : decode cX6_closes 57 = .ok (.bipush 6, 2) := by decide +kernel
theorem dX6_closes_59 : decode cX6_closes 59 = .ok (.dup2, 1) := by decide +kernel
theorem dX6_closes_60 : decode cX6_closes 60 = .ok (.iaload, 1) := by decide +kernel
theorem dX6_closes_61 : decode cX6_closes 61 = .ok (.iconst 1, 1) := by decide +kernel
theorem dX6_closes_62 : decode cX6_closes 62 = .ok (.iadd, 1) := by decide +kernel
theorem dX6_closes_63 : decode cX6_closes 63 = .ok (.iastore, 1) := by decide +kernel
theorem dX6_closes_64 : decode cX6_closes 64 = .ok (.aload_n 0, 1) := by decide +kernel
theorem dX6_closes_65 : decode cX6_closes 65 = .ok (.getfield 7, 3) := by decide +kernel
theorem dX6_closes_68 : decode cX6_closes 68 = .ok (.bipush 6, 2) := by decide +kernel
theorem dX6_closes_70 : decode cX6_closes 70 = .ok (.iaload, 1) := by decide +kernel
theorem dX6_closes_71 : decode cX6_closes 71 = .ok (.ireturn, 1) := by decide +kernel
theorem dX6_together_0 : decode cX6_together 0 = .ok (.aload_n 0, 1) := by decide +kernel
theorem dX6_together_1 : decode cX6_together 1 = .ok (.getfield 7, 3) := by decide +kernel
theorem dX6_together_4 : decode cX6_together 4 = .ok (.bipush 6, 2) := by decide +kernel
theorem dX6_together_6 : decode cX6_together 6 = .ok (.iaload, 1) := by decide +kernel
theorem dX6_together_7 : decode cX6_together 7 = .ok (.istore_n 1, 1) := by decide +kernel
theorem dX6_together_8 : decode cX6_together 8 = .ok (.aload_n 0, 1) := by decide +kernel
theorem dX6_together_9 : decode cX6_together 9 = .ok (.iload_n 1, 1) := by decide +kernel
theorem dX6_together_10 : decode cX6_together 10 = .ok (.invokevirtual 54, 3) := by decide +kernel
theorem dX6_together_13 : decode cX6_together 13 = .ok (.istore_n 2, 1) := by decide +kernel
theorem dX6_together_14 : decode cX6_together 14 = .ok (.iconst 0, 1) := by decide +kernel
theorem dX6_together_15 : decode cX6_together 15 = .ok (.istore_n 3, 1) := by decide +kernel
theorem dX6_together_16 : decode cX6_together 16 = .ok (.iload_n 3, 1) := by decide +kernel
theorem dX6_together_17 : decode cX6_together 17 = .ok (.aload_n 0, 1) := by decide +kernel
theorem dX6_together_18 : decode cX6_together 18 = .ok (.iload_n 1, 1) := by decide +kernel
theorem dX6_together_19 : decode cX6_together 19 = .ok (.iconst 1, 1) := by decide +kernel
theorem dX6_together_20 : decode cX6_together 20 = .ok (.isub, 1) := by decide +kernel
theorem dX6_together_21 : decode cX6_together 21 = .ok (.invokevirtual 54, 3) := by decide +kernel
theorem dX6_together_24 : decode cX6_together 24 = .ok (.if_icmp .ge 34, 3) := by decide +kernel
theorem dX6_together_27 : decode cX6_together 27 = .ok (.iload_n 2, 1) := by decide +kernel
theorem dX6_together_28 : decode cX6_together 28 = .ok (.aload_n 0, 1) := by decide +kernel
theorem dX6_together_29 : decode cX6_together 29 = .ok (.iload_n 1, 1) := by decide +kernel
theorem dX6_together_30 : decode cX6_together 30 = .ok (.aload_n 0, 1) := by decide +kernel
theorem dX6_together_31 : decode cX6_together 31 = .ok (.iload_n 1, 1) := by decide +kernel
theorem dX6_together_32 : decode cX6_together 32 = .ok (.iconst 1, 1) := by decide +kernel
theorem dX6_together_33 : decode cX6_together 33 = .ok (.isub, 1) := by decide +kernel
theorem dX6_together_34 : decode cX6_together 34 = .ok (.iload_n 3, 1) := by decide +kernel
theorem dX6_together_35 : decode cX6_together 35 = .ok (.invokevirtual 58, 3) := by decide +kernel
theorem dX6_together_38 : decode cX6_together 38 = .ok (.invokevirtual 62, 3) := by decide +kernel
theorem dX6_together_41 : decode cX6_together 41 = .ok (.iconst (-1), 1) := by decide +kernel
theorem dX6_together_42 : decode cX6_together 42 = .ok (.if_icmp .ne 7, 3) := by decide +kernel
theorem dX6_together_45 : decode cX6_together 45 = .ok (.iconst 1, 1) := by decide +kernel
theorem dX6_together_46 : decode cX6_together 46 = .ok (.goto 4, 3) := by decide +kernel
theorem dX6_together_49 : decode cX6_together 49 = .ok (.iconst 0, 1) := by decide +kernel
theorem dX6_together_50 : decode cX6_together 50 = .ok (.iadd, 1) := by decide +kernel
theorem dX6_together_51 : decode cX6_together 51 = .ok (.istore_n 2, 1) := by decide +kernel
theorem dX6_together_52 : decode cX6_together 52 = .ok (.iinc 3 1, 3) := by decide +kernel
theorem dX6_together_55 : decode cX6_together 55 = .ok (.goto (-39), 3) := by decide +kernel
theorem dX6_together_58 : decode cX6_together 58 = .ok (.iload_n 2, 1) := by decide +kernel
theorem dX6_together_59 : decode cX6_together 59 = .ok (.ireturn, 1) := by decide +kernel
theorem dX6_merges_0 : decode cX6_merges 0 = .ok (.aload_n 0, 1) := by decide +kernel
theorem dX6_merges_1 : decode cX6_merges 1 = .ok (.getfield 7, 3) := by decide +kernel
theorem dX6_merges_4 : decode cX6_merges 4 = .ok (.bipush 6, 2) := by decide +kernel
theorem dX6_merges_6 : decode cX6_merges 6 = .ok (.iaload, 1) := by decide +kernel
theorem dX6_merges_7 : decode cX6_merges 7 = .ok (.istore_n 1, 1) := by decide +kernel
theorem dX6_merges_8 : decode cX6_merges 8 = .ok (.iconst 0, 1) := by decide +kernel
theorem dX6_merges_9 : decode cX6_merges 9 = .ok (.istore_n 2, 1) := by decide +kernel
theorem dX6_merges_10 : decode cX6_merges 10 = .ok (.iload_n 1, 1) := by decide +kernel
theorem dX6_merges_11 : decode cX6_merges 11 = .ok (.istore_n 3, 1) := by decide +kernel
theorem dX6_merges_12 : decode cX6_merges 12 = .ok (.iload_n 3, 1) := by decide +kernel
theorem dX6_merges_13 : decode cX6_merges 13 = .ok (.iload_n 1, 1) := by decide +kernel
theorem dX6_merges_14 : decode cX6_merges 14 = .ok (.iconst 1, 1) := by decide +kernel
theorem dX6_merges_15 : decode cX6_merges 15 = .ok (.isub, 1) := by decide +kernel
theorem dX6_merges_16 : decode cX6_merges 16 = .ok (.if_icmp .lt 63, 3) := by decide +kernel
theorem dX6_merges_19 : decode cX6_merges 19 = .ok (.iconst 0, 1) := by decide +kernel
theorem dX6_merges_20 : decode cX6_merges 20 = .ok (.istore 4, 2) := by decide +kernel
theorem dX6_merges_22 : decode cX6_merges 22 = .ok (.iload 4, 2) := by decide +kernel
theorem dX6_merges_24 : decode cX6_merges 24 = .ok (.aload_n 0, 1) := by decide +kernel
theorem dX6_merges_25 : decode cX6_merges 25 = .ok (.iload_n 3, 1) := by decide +kernel
theorem dX6_merges_26 : decode cX6_merges 26 = .ok (.invokevirtual 54, 3) := by decide +kernel
theorem dX6_merges_29 : decode cX6_merges 29 = .ok (.if_icmp .ge 44, 3) := by decide +kernel
theorem dX6_merges_32 : decode cX6_merges 32 = .ok (.aload_n 0, 1) := by decide +kernel
theorem dX6_merges_33 : decode cX6_merges 33 = .ok (.getfield 26, 3) := by decide +kernel
theorem dX6_merges_36 : decode cX6_merges 36 = .ok (.iconst 2, 1) := by decide +kernel
theorem dX6_merges_37 : decode cX6_merges 37 = .ok (.iload_n 2, 1) := by decide +kernel
theorem dX6_merges_38 : decode cX6_merges 38 = .ok (.imul, 1) := by decide +kernel
theorem dX6_merges_39 : decode cX6_merges 39 = .ok (.aload_n 0, 1) := by decide +kernel
theorem dX6_merges_40 : decode cX6_merges 40 = .ok (.iload_n 3, 1) := by decide +kernel
theorem dX6_merges_41 : decode cX6_merges 41 = .ok (.iload 4, 2) := by decide +kernel
theorem dX6_merges_43 : decode cX6_merges 43 = .ok (.invokevirtual 58, 3) := by decide +kernel
theorem dX6_merges_46 : decode cX6_merges 46 = .ok (.iastore, 1) := by decide +kernel
theorem dX6_merges_47 : decode cX6_merges 47 = .ok (.aload_n 0, 1) := by decide +kernel
theorem dX6_merges_48 : decode cX6_merges 48 = .ok (.getfield 26, 3) := by decide +kernel
theorem dX6_merges_51 : decode cX6_merges 51 = .ok (.iconst 2, 1) := by decide +kernel
theorem dX6_merges_52 : decode cX6_merges 52 = .ok (.iload_n 2, 1) := by decide +kernel
theorem dX6_merges_53 : decode cX6_merges 53 = .ok (.imul, 1) := by decide +kernel
theorem dX6_merges_54 : decode cX6_merges 54 = .ok (.iconst 1, 1) := by decide +kernel
theorem dX6_merges_55 : decode cX6_merges 55 = .ok (.iadd, 1) := by decide +kernel
theorem dX6_merges_56 : decode cX6_merges 56 = .ok (.aload_n 0, 1) := by decide +kernel
theorem dX6_merges_57 : decode cX6_merges 57 = .ok (.iload_n 3, 1) := by decide +kernel
theorem dX6_merges_58 : decode cX6_merges 58 = .ok (.iload 4, 2) := by decide +kernel
theorem dX6_merges_60 : decode cX6_merges 60 = .ok (.invokevirtual 65, 3) := by decide +kernel
theorem dX6_merges_63 : decode cX6_merges 63 = .ok (.iastore, 1) := by decide +kernel
theorem dX6_merges_64 : decode cX6_merges 64 = .ok (.iinc 2 1, 3) := by decide +kernel
theorem dX6_merges_67 : decode cX6_merges 67 = .ok (.iinc 4 1, 3) := by decide +kernel
theorem dX6_merges_70 : decode cX6_merges 70 = .ok (.goto (-48), 3) := by decide +kernel
theorem dX6_merges_73 : decode cX6_merges 73 = .ok (.iinc 3 (-1), 3) := by decide +kernel
theorem dX6_merges_76 : decode cX6_merges 76 = .ok (.goto (-64), 3) := by decide +kernel
theorem dX6_merges_79 : decode cX6_merges 79 = .ok (.aload_n 0, 1) := by decide +kernel
theorem dX6_merges_80 : decode cX6_merges 80 = .ok (.getfield 7, 3) := by decide +kernel
theorem dX6_merges_83 : decode cX6_merges 83 = .ok (.bipush 6, 2) := by decide +kernel
theorem dX6_merges_85 : decode cX6_merges 85 = .ok (.dup2, 1) := by decide +kernel
theorem dX6_merges_86 : decode cX6_merges 86 = .ok (.iaload, 1) := by decide +kernel
theorem dX6_merges_87 : decode cX6_merges 87 = .ok (.iconst 1, 1) := by decide +kernel
theorem dX6_merges_88 : decode cX6_merges 88 = .ok (.isub, 1) := by decide +kernel
theorem dX6_merges_89 : decode cX6_merges 89 = .ok (.iastore, 1) := by decide +kernel
theorem dX6_merges_90 : decode cX6_merges 90 = .ok (.aload_n 0, 1) := by decide +kernel
theorem dX6_merges_91 : decode cX6_merges 91 = .ok (.getfield 7, 3) := by decide +kernel
theorem dX6_merges_94 : decode cX6_merges 94 = .ok (.bipush 9, 2) := by decide +kernel
theorem dX6_merges_96 : decode cX6_merges 96 = .ok (.bipush 121, 2) := by decide +kernel
theorem dX6_merges_98 : decode cX6_merges 98 = .ok (.aload_n 0, 1) := by decide +kernel
theorem dX6_merges_99 : decode cX6_merges 99 = .ok (.getfield 7, 3) := by decide +kernel
theorem dX6_merges_102 : decode cX6_merges 102 = .ok (.bipush 6, 2) := by decide +kernel
theorem dX6_merges_104 : decode cX6_merges 104 = .ok (.iaload, 1) := by decide +kernel
theorem dX6_merges_105 : decode cX6_merges 105 = .ok (.imul, 1) := by decide +kernel
theorem dX6_merges_106 : decode cX6_merges 106 = .ok (.iadd, 1) := by decide +kernel
theorem dX6_merges_107 : decode cX6_merges 107 = .ok (.iconst 0, 1) := by decide +kernel
theorem dX6_merges_108 : decode cX6_merges 108 = .ok (.iastore, 1) := by decide +kernel
theorem dX6_merges_109 : decode cX6_merges 109 = .ok (.iconst 0, 1) := by decide +kernel
theorem dX6_merges_110 : decode cX6_merges 110 = .ok (.istore_n 3, 1) := by decide +kernel
theorem dX6_merges_111 : decode cX6_merges 111 = .ok (.iload_n 3, 1) := by decide +kernel
theorem dX6_merges_112 : decode cX6_merges 112 = .ok (.iload_n 2, 1) := by decide +kernel
theorem dX6_merges_113 : decode cX6_merges 113 = .ok (.if_icmp .ge 38, 3) := by decide +kernel
theorem dX6_merges_116 : decode cX6_merges 116 = .ok (.aload_n 0, 1) := by decide +kernel
theorem dX6_merges_117 : decode cX6_merges 117 = .ok (.aload_n 0, 1) := by decide +kernel
theorem dX6_merges_118 : decode cX6_merges 118 = .ok (.getfield 7, 3) := by decide +kernel
theorem dX6_merges_121 : decode cX6_merges 121 = .ok (.bipush 6, 2) := by decide +kernel
theorem dX6_merges_123 : decode cX6_merges 123 = .ok (.iaload, 1) := by decide +kernel
theorem dX6_merges_124 : decode cX6_merges 124 = .ok (.aload_n 0, 1) := by decide +kernel
theorem dX6_merges_125 : decode cX6_merges 125 = .ok (.getfield 26, 3) := by decide +kernel
theorem dX6_merges_128 : decode cX6_merges 128 = .ok (.iconst 2, 1) := by decide +kernel
theorem dX6_merges_129 : decode cX6_merges 129 = .ok (.iload_n 3, 1) := by decide +kernel
theorem dX6_merges_130 : decode cX6_merges 130 = .ok (.imul, 1) := by decide +kernel
theorem dX6_merges_131 : decode cX6_merges 131 = .ok (.iaload, 1) := by decide +kernel
theorem dX6_merges_132 : decode cX6_merges 132 = .ok (.aload_n 0, 1) := by decide +kernel
theorem dX6_merges_133 : decode cX6_merges 133 = .ok (.getfield 26, 3) := by decide +kernel
theorem dX6_merges_136 : decode cX6_merges 136 = .ok (.iconst 2, 1) := by decide +kernel
theorem dX6_merges_137 : decode cX6_merges 137 = .ok (.iload_n 3, 1) := by decide +kernel
theorem dX6_merges_138 : decode cX6_merges 138 = .ok (.imul, 1) := by decide +kernel
theorem dX6_merges_139 : decode cX6_merges 139 = .ok (.iconst 1, 1) := by decide +kernel
theorem dX6_merges_140 : decode cX6_merges 140 = .ok (.iadd, 1) := by decide +kernel
theorem dX6_merges_141 : decode cX6_merges 141 = .ok (.iaload, 1) := by decide +kernel
theorem dX6_merges_142 : decode cX6_merges 142 = .ok (.invokevirtual 68, 3) := by decide +kernel
theorem dX6_merges_145 : decode cX6_merges 145 = .ok (.iinc 3 1, 3) := by decide +kernel
theorem dX6_merges_148 : decode cX6_merges 148 = .ok (.goto (-37), 3) := by decide +kernel
theorem dX6_merges_151 : decode cX6_merges 151 = .ok (.aload_n 0, 1) := by decide +kernel
theorem dX6_merges_152 : decode cX6_merges 152 = .ok (.aload_n 0, 1) := by decide +kernel
theorem dX6_merges_153 : decode cX6_merges 153 = .ok (.getfield 7, 3) := by decide +kernel
theorem dX6_merges_156 : decode cX6_merges 156 = .ok (.bipush 6, 2) := by decide +kernel
theorem dX6_merges_158 : decode cX6_merges 158 = .ok (.iaload, 1) := by decide +kernel
theorem dX6_merges_159 : decode cX6_merges 159 = .ok (.invokevirtual 54, 3) := by decide +kernel
theorem dX6_merges_162 : decode cX6_merges 162 = .ok (.ireturn, 1) := by decide +kernel
theorem dX6_entry_0 : decode cX6_entry 0 = .ok (.aload_n 0, 1) := by decide +kernel
theorem dX6_entry_1 : decode cX6_entry 1 = .ok (.getfield 7, 3) := by decide +kernel
theorem dX6_entry_4 : decode cX6_entry 4 = .ok (.sipush 856, 3) := by decide +kernel
theorem dX6_entry_7 : decode cX6_entry 7 = .ok (.iconst 4, 1) := by decide +kernel
theorem dX6_entry_8 : decode cX6_entry 8 = .ok (.iload_n 1, 1) := by decide +kernel
theorem dX6_entry_9 : decode cX6_entry 9 = .ok (.imul, 1) := by decide +kernel
theorem dX6_entry_10 : decode cX6_entry 10 = .ok (.iadd, 1) := by decide +kernel
theorem dX6_entry_11 : decode cX6_entry 11 = .ok (.iload_n 2, 1) := by decide +kernel
theorem dX6_entry_12 : decode cX6_entry 12 = .ok (.iadd, 1) := by decide +kernel
theorem dX6_entry_13 : decode cX6_entry 13 = .ok (.iaload, 1) := by decide +kernel
theorem dX6_entry_14 : decode cX6_entry 14 = .ok (.ireturn, 1) := by decide +kernel
theorem dX6_entryOf_0 : decode cX6_entryOf 0 = .ok (.iconst 0, 1) := by decide +kernel
theorem dX6_entryOf_1 : decode cX6_entryOf 1 = .ok (.istore_n 2, 1) := by decide +kernel
theorem dX6_entryOf_2 : decode cX6_entryOf 2 = .ok (.iload_n 2, 1) := by decide +kernel
theorem dX6_entryOf_3 : decode cX6_entryOf 3 = .ok (.aload_n 0, 1) := by decide +kernel
theorem dX6_entryOf_4 : decode cX6_entryOf 4 = .ok (.getfield 7, 3) := by decide +kernel
theorem dX6_entryOf_7 : decode cX6_entryOf 7 = .ok (.bipush 7, 2) := by decide +kernel
theorem dX6_entryOf_9 : decode cX6_entryOf 9 = .ok (.iaload, 1) := by decide +kernel
theorem dX6_entryOf_10 : decode cX6_entryOf 10 = .ok (.if_icmp .ge 21, 3) := by decide +kernel
theorem dX6_entryOf_13 : decode cX6_entryOf 13 = .ok (.aload_n 0, 1) := by decide +kernel
theorem dX6_entryOf_14 : decode cX6_entryOf 14 = .ok (.iload_n 2, 1) := by decide +kernel
theorem dX6_entryOf_15 : decode cX6_entryOf 15 = .ok (.iconst 0, 1) := by decide +kernel
theorem dX6_entryOf_16 : decode cX6_entryOf 16 = .ok (.invokevirtual 72, 3) := by decide +kernel
theorem dX6_entryOf_19 : decode cX6_entryOf 19 = .ok (.iload_n 1, 1) := by decide +kernel
theorem dX6_entryOf_20 : decode cX6_entryOf 20 = .ok (.if_icmp .ne 5, 3) := by decide +kernel
theorem dX6_entryOf_23 : decode cX6_entryOf 23 = .ok (.iload_n 2, 1) := by decide +kernel
theorem dX6_entryOf_24 : decode cX6_entryOf 24 = .ok (.ireturn, 1) := by decide +kernel
theorem dX6_entryOf_25 : decode cX6_entryOf 25 = .ok (.iinc 2 1, 3) := by decide +kernel
theorem dX6_entryOf_28 : decode cX6_entryOf 28 = .ok (.goto (-26), 3) := by decide +kernel
theorem dX6_entryOf_31 : decode cX6_entryOf 31 = .ok (.iconst (-1), 1) := by decide +kernel
theorem dX6_entryOf_32 : decode cX6_entryOf 32 = .ok (.ireturn, 1) := by decide +kernel
theorem dX6_bound_0 : decode cX6_bound 0 = .ok (.aload_n 0, 1) := by decide +kernel
theorem dX6_bound_1 : decode cX6_bound 1 = .ok (.getfield 7, 3) := by decide +kernel
theorem dX6_bound_4 : decode cX6_bound 4 = .ok (.sipush 1496, 3) := by decide +kernel
theorem dX6_bound_7 : decode cX6_bound 7 = .ok (.iload_n 1, 1) := by decide +kernel
theorem dX6_bound_8 : decode cX6_bound 8 = .ok (.iadd, 1) := by decide +kernel
theorem dX6_bound_9 : decode cX6_bound 9 = .ok (.iaload, 1) := by decide +kernel
theorem dX6_bound_10 : decode cX6_bound 10 = .ok (.ireturn, 1) := by decide +kernel
theorem dX6_leafOf_0 : decode cX6_leafOf 0 = .ok (.iconst 0, 1) := by decide +kernel
theorem dX6_leafOf_1 : decode cX6_leafOf 1 = .ok (.istore_n 2, 1) := by decide +kernel
theorem dX6_leafOf_2 : decode cX6_leafOf 2 = .ok (.aload_n 0, 1) := by decide +kernel
theorem dX6_leafOf_3 : decode cX6_leafOf 3 = .ok (.getfield 7, 3) := by decide +kernel
theorem dX6_leafOf_6 : decode cX6_leafOf 6 = .ok (.bipush 8, 2) := by decide +kernel
theorem dX6_leafOf_8 : decode cX6_leafOf 8 = .ok (.iaload, 1) := by decide +kernel
theorem dX6_leafOf_9 : decode cX6_leafOf 9 = .ok (.iconst 1, 1) := by decide +kernel
theorem dX6_leafOf_10 : decode cX6_leafOf 10 = .ok (.isub, 1) := by decide +kernel
theorem dX6_leafOf_11 : decode cX6_leafOf 11 = .ok (.istore_n 3, 1) := by decide +kernel
theorem dX6_leafOf_12 : decode cX6_leafOf 12 = .ok (.iload_n 2, 1) := by decide +kernel
theorem dX6_leafOf_13 : decode cX6_leafOf 13 = .ok (.iload_n 3, 1) := by decide +kernel
theorem dX6_leafOf_14 : decode cX6_leafOf 14 = .ok (.if_icmp .ge 58, 3) := by decide +kernel
theorem dX6_leafOf_17 : decode cX6_leafOf 17 = .ok (.iload_n 2, 1) := by decide +kernel
theorem dX6_leafOf_18 : decode cX6_leafOf 18 = .ok (.iload_n 3, 1) := by decide +kernel
theorem dX6_leafOf_19 : decode cX6_leafOf 19 = .ok (.iadd, 1) := by decide +kernel
theorem dX6_leafOf_20 : decode cX6_leafOf 20 = .ok (.iconst 1, 1) := by decide +kernel
theorem dX6_leafOf_21 : decode cX6_leafOf 21 = .ok (.iadd, 1) := by decide +kernel
theorem dX6_leafOf_22 : decode cX6_leafOf 22 = .ok (.iconst 2, 1) := by decide +kernel
theorem dX6_leafOf_23 : decode cX6_leafOf 23 = .ok (.idiv, 1) := by decide +kernel
theorem dX6_leafOf_24 : decode cX6_leafOf 24 = .ok (.istore 4, 2) := by decide +kernel
theorem dX6_leafOf_26 : decode cX6_leafOf 26 = .ok (.aload_n 0, 1) := by decide +kernel
theorem dX6_leafOf_27 : decode cX6_leafOf 27 = .ok (.iload 4, 2) := by decide +kernel
theorem dX6_leafOf_29 : decode cX6_leafOf 29 = .ok (.invokevirtual 75, 3) := by decide +kernel
theorem dX6_leafOf_32 : decode cX6_leafOf 32 = .ok (.iload_n 1, 1) := by decide +kernel
theorem dX6_leafOf_33 : decode cX6_leafOf 33 = .ok (.if_icmp .gt 7, 3) := by decide +kernel
theorem dX6_leafOf_36 : decode cX6_leafOf 36 = .ok (.iconst 1, 1) := by decide +kernel
theorem dX6_leafOf_37 : decode cX6_leafOf 37 = .ok (.goto 4, 3) := by decide +kernel
theorem dX6_leafOf_40 : decode cX6_leafOf 40 = .ok (.iconst 0, 1) := by decide +kernel
theorem dX6_leafOf_41 : decode cX6_leafOf 41 = .ok (.istore 5, 2) := by decide +kernel
theorem dX6_leafOf_43 : decode cX6_leafOf 43 = .ok (.iload 5, 2) := by decide +kernel
theorem dX6_leafOf_45 : decode cX6_leafOf 45 = .ok (.ifCond .eq 8, 3) := by decide +kernel
theorem dX6_leafOf_48 : decode cX6_leafOf 48 = .ok (.iload 4, 2) := by decide +kernel
theorem dX6_leafOf_50 : decode cX6_leafOf 50 = .ok (.goto 4, 3) := by decide +kernel
theorem dX6_leafOf_53 : decode cX6_leafOf 53 = .ok (.iload_n 2, 1) := by decide +kernel
theorem dX6_leafOf_54 : decode cX6_leafOf 54 = .ok (.istore_n 2, 1) := by decide +kernel
theorem dX6_leafOf_55 : decode cX6_leafOf 55 = .ok (.iload 5, 2) := by decide +kernel
theorem dX6_leafOf_57 : decode cX6_leafOf 57 = .ok (.ifCond .eq 7, 3) := by decide +kernel
theorem dX6_leafOf_60 : decode cX6_leafOf 60 = .ok (.iload_n 3, 1) := by decide +kernel
theorem dX6_leafOf_61 : decode cX6_leafOf 61 = .ok (.goto 7, 3) := by decide +kernel
theorem dX6_leafOf_64 : decode cX6_leafOf 64 = .ok (.iload 4, 2) := by decide +kernel
theorem dX6_leafOf_66 : decode cX6_leafOf 66 = .ok (.iconst 1, 1) := by decide +kernel
theorem dX6_leafOf_67 : decode cX6_leafOf 67 = .ok (.isub, 1) := by decide +kernel
theorem dX6_leafOf_68 : decode cX6_leafOf 68 = .ok (.istore_n 3, 1) := by decide +kernel
theorem dX6_leafOf_69 : decode cX6_leafOf 69 = .ok (.goto (-57), 3) := by decide +kernel
theorem dX6_leafOf_72 : decode cX6_leafOf 72 = .ok (.iload_n 2, 1) := by decide +kernel
theorem dX6_leafOf_73 : decode cX6_leafOf 73 = .ok (.ireturn, 1) := by decide +kernel
theorem dX6_own_0 : decode cX6_own 0 = .ok (.iconst 0, 1) := by decide +kernel
theorem dX6_own_1 : decode cX6_own 1 = .ok (.istore_n 2, 1) := by decide +kernel
theorem dX6_own_2 : decode cX6_own 2 = .ok (.iconst 0, 1) := by decide +kernel
theorem dX6_own_3 : decode cX6_own 3 = .ok (.istore_n 3, 1) := by decide +kernel
theorem dX6_own_4 : decode cX6_own 4 = .ok (.iload_n 3, 1) := by decide +kernel
theorem dX6_own_5 : decode cX6_own 5 = .ok (.aload_n 0, 1) := by decide +kernel
theorem dX6_own_6 : decode cX6_own 6 = .ok (.getfield 7, 3) := by decide +kernel
theorem dX6_own_9 : decode cX6_own 9 = .ok (.bipush 7, 2) := by decide +kernel
theorem dX6_own_11 : decode cX6_own 11 = .ok (.iaload, 1) := by decide +kernel
theorem dX6_own_12 : decode cX6_own 12 = .ok (.if_icmp .ge 36, 3) := by decide +kernel
theorem dX6_own_15 : decode cX6_own 15 = .ok (.iload_n 2, 1) := by decide +kernel
theorem dX6_own_16 : decode cX6_own 16 = .ok (.aload_n 0, 1) := by decide +kernel
theorem dX6_own_17 : decode cX6_own 17 = .ok (.iload_n 3, 1) := by decide +kernel
theorem dX6_own_18 : decode cX6_own 18 = .ok (.iconst 2, 1) := by decide +kernel
theorem dX6_own_19 : decode cX6_own 19 = .ok (.invokevirtual 72, 3) := by decide +kernel
theorem dX6_own_22 : decode cX6_own 22 = .ok (.iload_n 1, 1) := by decide +kernel
theorem dX6_own_23 : decode cX6_own 23 = .ok (.if_icmp .ne 16, 3) := by decide +kernel
theorem dX6_own_26 : decode cX6_own 26 = .ok (.aload_n 0, 1) := by decide +kernel
theorem dX6_own_27 : decode cX6_own 27 = .ok (.iload_n 3, 1) := by decide +kernel
theorem dX6_own_28 : decode cX6_own 28 = .ok (.iconst 3, 1) := by decide +kernel
theorem dX6_own_29 : decode cX6_own 29 = .ok (.invokevirtual 72, 3) := by decide +kernel
theorem dX6_own_32 : decode cX6_own 32 = .ok (.ifCond .ne 7, 3) := by decide +kernel
theorem dX6_own_35 : decode cX6_own 35 = .ok (.iconst 1, 1) := by decide +kernel
theorem dX6_own_36 : decode cX6_own 36 = .ok (.goto 4, 3) := by decide +kernel
theorem dX6_own_39 : decode cX6_own 39 = .ok (.iconst 0, 1) := by decide +kernel
theorem dX6_own_40 : decode cX6_own 40 = .ok (.iadd, 1) := by decide +kernel
theorem dX6_own_41 : decode cX6_own 41 = .ok (.istore_n 2, 1) := by decide +kernel
theorem dX6_own_42 : decode cX6_own 42 = .ok (.iinc 3 1, 3) := by decide +kernel
theorem dX6_own_45 : decode cX6_own 45 = .ok (.goto (-41), 3) := by decide +kernel
theorem dX6_own_48 : decode cX6_own 48 = .ok (.iload_n 2, 1) := by decide +kernel
theorem dX6_own_49 : decode cX6_own 49 = .ok (.ireturn, 1) := by decide +kernel
theorem dX6_over_0 : decode cX6_over 0 = .ok (.iconst 0, 1) := by decide +kernel
theorem dX6_over_1 : decode cX6_over 1 = .ok (.istore_n 2, 1) := by decide +kernel
theorem dX6_over_2 : decode cX6_over 2 = .ok (.iconst 0, 1) := by decide +kernel
theorem dX6_over_3 : decode cX6_over 3 = .ok (.istore_n 3, 1) := by decide +kernel
theorem dX6_over_4 : decode cX6_over 4 = .ok (.iload_n 3, 1) := by decide +kernel
theorem dX6_over_5 : decode cX6_over 5 = .ok (.aload_n 0, 1) := by decide +kernel
theorem dX6_over_6 : decode cX6_over 6 = .ok (.getfield 7, 3) := by decide +kernel
theorem dX6_over_9 : decode cX6_over 9 = .ok (.bipush 7, 2) := by decide +kernel
theorem dX6_over_11 : decode cX6_over 11 = .ok (.iaload, 1) := by decide +kernel
theorem dX6_over_12 : decode cX6_over 12 = .ok (.if_icmp .ge 36, 3) := by decide +kernel
theorem dX6_over_15 : decode cX6_over 15 = .ok (.iload_n 2, 1) := by decide +kernel
theorem dX6_over_16 : decode cX6_over 16 = .ok (.aload_n 0, 1) := by decide +kernel
theorem dX6_over_17 : decode cX6_over 17 = .ok (.iload_n 3, 1) := by decide +kernel
theorem dX6_over_18 : decode cX6_over 18 = .ok (.iconst 2, 1) := by decide +kernel
theorem dX6_over_19 : decode cX6_over 19 = .ok (.invokevirtual 72, 3) := by decide +kernel
theorem dX6_over_22 : decode cX6_over 22 = .ok (.iload_n 1, 1) := by decide +kernel
theorem dX6_over_23 : decode cX6_over 23 = .ok (.if_icmp .ne 16, 3) := by decide +kernel
theorem dX6_over_26 : decode cX6_over 26 = .ok (.aload_n 0, 1) := by decide +kernel
theorem dX6_over_27 : decode cX6_over 27 = .ok (.iload_n 3, 1) := by decide +kernel
theorem dX6_over_28 : decode cX6_over 28 = .ok (.iconst 3, 1) := by decide +kernel
theorem dX6_over_29 : decode cX6_over 29 = .ok (.invokevirtual 72, 3) := by decide +kernel
theorem dX6_over_32 : decode cX6_over 32 = .ok (.ifCond .le 7, 3) := by decide +kernel
theorem dX6_over_35 : decode cX6_over 35 = .ok (.iconst 1, 1) := by decide +kernel
theorem dX6_over_36 : decode cX6_over 36 = .ok (.goto 4, 3) := by decide +kernel
theorem dX6_over_39 : decode cX6_over 39 = .ok (.iconst 0, 1) := by decide +kernel
theorem dX6_over_40 : decode cX6_over 40 = .ok (.iadd, 1) := by decide +kernel
theorem dX6_over_41 : decode cX6_over 41 = .ok (.istore_n 2, 1) := by decide +kernel
theorem dX6_over_42 : decode cX6_over 42 = .ok (.iinc 3 1, 3) := by decide +kernel
theorem dX6_over_45 : decode cX6_over 45 = .ok (.goto (-41), 3) := by decide +kernel
theorem dX6_over_48 : decode cX6_over 48 = .ok (.iload_n 2, 1) := by decide +kernel
theorem dX6_over_49 : decode cX6_over 49 = .ok (.ireturn, 1) := by decide +kernel
theorem dX6_overs_0 : decode cX6_overs 0 = .ok (.aload_n 0, 1) := by decide +kernel
theorem dX6_overs_1 : decode cX6_overs 1 = .ok (.getfield 7, 3) := by decide +kernel
theorem dX6_overs_4 : decode cX6_overs 4 = .ok (.bipush 8, 2) := by decide +kernel
theorem dX6_overs_6 : decode cX6_overs 6 = .ok (.iaload, 1) := by decide +kernel
theorem dX6_overs_7 : decode cX6_overs 7 = .ok (.ifCond .ne 7, 3) := by decide +kernel
theorem dX6_overs_10 : decode cX6_overs 10 = .ok (.iconst 0, 1) := by decide +kernel
theorem dX6_overs_11 : decode cX6_overs 11 = .ok (.goto 24, 3) := by decide +kernel
theorem dX6_overs_14 : decode cX6_overs 14 = .ok (.aload_n 0, 1) := by decide +kernel
theorem dX6_overs_15 : decode cX6_overs 15 = .ok (.iload_n 1, 1) := by decide +kernel
theorem dX6_overs_16 : decode cX6_overs 16 = .ok (.invokevirtual 78, 3) := by decide +kernel
theorem dX6_overs_19 : decode cX6_overs 19 = .ok (.aload_n 0, 1) := by decide +kernel
theorem dX6_overs_20 : decode cX6_overs 20 = .ok (.getfield 7, 3) := by decide +kernel
theorem dX6_overs_23 : decode cX6_overs 23 = .ok (.iconst 2, 1) := by decide +kernel
theorem dX6_overs_24 : decode cX6_overs 24 = .ok (.iaload, 1) := by decide +kernel
theorem dX6_overs_25 : decode cX6_overs 25 = .ok (.iadd, 1) := by decide +kernel
theorem dX6_overs_26 : decode cX6_overs 26 = .ok (.iconst 1, 1) := by decide +kernel
theorem dX6_overs_27 : decode cX6_overs 27 = .ok (.isub, 1) := by decide +kernel
theorem dX6_overs_28 : decode cX6_overs 28 = .ok (.aload_n 0, 1) := by decide +kernel
theorem dX6_overs_29 : decode cX6_overs 29 = .ok (.getfield 7, 3) := by decide +kernel
theorem dX6_overs_32 : decode cX6_overs 32 = .ok (.iconst 2, 1) := by decide +kernel
theorem dX6_overs_33 : decode cX6_overs 33 = .ok (.iaload, 1) := by decide +kernel
theorem dX6_overs_34 : decode cX6_overs 34 = .ok (.idiv, 1) := by decide +kernel
theorem dX6_overs_35 : decode cX6_overs 35 = .ok (.ireturn, 1) := by decide +kernel
theorem dX6_greatest_0 : decode cX6_greatest 0 = .ok (.iload_n 2, 1) := by decide +kernel
theorem dX6_greatest_1 : decode cX6_greatest 1 = .ok (.ifCond .ne 7, 3) := by decide +kernel
theorem dX6_greatest_4 : decode cX6_greatest 4 = .ok (.iconst (-1), 1) := by decide +kernel
theorem dX6_greatest_5 : decode cX6_greatest 5 = .ok (.goto 4, 3) := by decide +kernel
theorem dX6_greatest_8 : decode cX6_greatest 8 = .ok (.iconst 0, 1) := by decide +kernel
theorem dX6_greatest_9 : decode cX6_greatest 9 = .ok (.istore_n 3, 1) := by decide +kernel
theorem dX6_greatest_10 : decode cX6_greatest 10 = .ok (.iconst 0, 1) := by decide +kernel
theorem dX6_greatest_11 : decode cX6_greatest 11 = .ok (.istore 4, 2) := by decide +kernel
theorem dX6_greatest_13 : decode cX6_greatest 13 = .ok (.iload 4, 2) := by decide +kernel
theorem dX6_greatest_15 : decode cX6_greatest 15 = .ok (.aload_n 0, 1) := by decide +kernel
theorem dX6_greatest_16 : decode cX6_greatest 16 = .ok (.getfield 7, 3) := by decide +kernel
theorem dX6_greatest_19 : decode cX6_greatest 19 = .ok (.bipush 7, 2) := by decide +kernel
theorem dX6_greatest_21 : decode cX6_greatest 21 = .ok (.iaload, 1) := by decide +kernel
theorem dX6_greatest_22 : decode cX6_greatest 22 = .ok (.if_icmp .ge 43, 3) := by decide +kernel
theorem dX6_greatest_25 : decode cX6_greatest 25 = .ok (.aload_n 0, 1) := by decide +kernel
theorem dX6_greatest_26 : decode cX6_greatest 26 = .ok (.iload 4, 2) := by decide +kernel
theorem dX6_greatest_28 : decode cX6_greatest 28 = .ok (.iconst 2, 1) := by decide +kernel
theorem dX6_greatest_29 : decode cX6_greatest 29 = .ok (.invokevirtual 72, 3) := by decide +kernel
theorem dX6_greatest_32 : decode cX6_greatest 32 = .ok (.iload_n 1, 1) := by decide +kernel
theorem dX6_greatest_33 : decode cX6_greatest 33 = .ok (.if_icmp .ne 24, 3) := by decide +kernel
theorem dX6_greatest_36 : decode cX6_greatest 36 = .ok (.aload_n 0, 1) := by decide +kernel
theorem dX6_greatest_37 : decode cX6_greatest 37 = .ok (.iload 4, 2) := by decide +kernel
theorem dX6_greatest_39 : decode cX6_greatest 39 = .ok (.iload_n 2, 1) := by decide +kernel
theorem dX6_greatest_40 : decode cX6_greatest 40 = .ok (.invokevirtual 72, 3) := by decide +kernel
theorem dX6_greatest_43 : decode cX6_greatest 43 = .ok (.iload_n 3, 1) := by decide +kernel
theorem dX6_greatest_44 : decode cX6_greatest 44 = .ok (.if_icmp .le 13, 3) := by decide +kernel
theorem dX6_greatest_47 : decode cX6_greatest 47 = .ok (.aload_n 0, 1) := by decide +kernel
theorem dX6_greatest_48 : decode cX6_greatest 48 = .ok (.iload 4, 2) := by decide +kernel
theorem dX6_greatest_50 : decode cX6_greatest 50 = .ok (.iload_n 2, 1) := by decide +kernel
theorem dX6_greatest_51 : decode cX6_greatest 51 = .ok (.invokevirtual 72, 3) := by decide +kernel
theorem dX6_greatest_54 : decode cX6_greatest 54 = .ok (.goto 4, 3) := by decide +kernel
theorem dX6_greatest_57 : decode cX6_greatest 57 = .ok (.iload_n 3, 1) := by decide +kernel
theorem dX6_greatest_58 : decode cX6_greatest 58 = .ok (.istore_n 3, 1) := by decide +kernel
theorem dX6_greatest_59 : decode cX6_greatest 59 = .ok (.iinc 4 1, 3) := by decide +kernel
theorem dX6_greatest_62 : decode cX6_greatest 62 = .ok (.goto (-49), 3) := by decide +kernel
theorem dX6_greatest_65 : decode cX6_greatest 65 = .ok (.iload_n 3, 1) := by decide +kernel
theorem dX6_greatest_66 : decode cX6_greatest 66 = .ok (.ireturn, 1) := by decide +kernel
theorem dX6_adds_0 : decode cX6_adds 0 = .ok (.sipush 856, 3) := by decide +kernel
theorem dX6_adds_3 : decode cX6_adds 3 = .ok (.iconst 4, 1) := by decide +kernel
theorem dX6_adds_4 : decode cX6_adds 4 = .ok (.aload_n 0, 1) := by decide +kernel
theorem dX6_adds_5 : decode cX6_adds 5 = .ok (.getfield 7, 3) := by decide +kernel
theorem dX6_adds_8 : decode cX6_adds 8 = .ok (.bipush 7, 2) := by decide +kernel
theorem dX6_adds_10 : decode cX6_adds 10 = .ok (.iaload, 1) := by decide +kernel
theorem dX6_adds_11 : decode cX6_adds 11 = .ok (.imul, 1) := by decide +kernel
theorem dX6_adds_12 : decode cX6_adds 12 = .ok (.iadd, 1) := by decide +kernel
theorem dX6_adds_13 : decode cX6_adds 13 = .ok (.istore 5, 2) := by decide +kernel
theorem dX6_adds_15 : decode cX6_adds 15 = .ok (.aload_n 0, 1) := by decide +kernel
theorem dX6_adds_16 : decode cX6_adds 16 = .ok (.getfield 7, 3) := by decide +kernel
theorem dX6_adds_19 : decode cX6_adds 19 = .ok (.iload 5, 2) := by decide +kernel
theorem dX6_adds_21 : decode cX6_adds 21 = .ok (.iload_n 1, 1) := by decide +kernel
theorem dX6_adds_22 : decode cX6_adds 22 = .ok (.iastore, 1) := by decide +kernel
theorem dX6_adds_23 : decode cX6_adds 23 = .ok (.aload_n 0, 1) := by decide +kernel
theorem dX6_adds_24 : decode cX6_adds 24 = .ok (.getfield 7, 3) := by decide +kernel
theorem dX6_adds_27 : decode cX6_adds 27 = .ok (.iload 5, 2) := by decide +kernel
theorem dX6_adds_29 : decode cX6_adds 29 = .ok (.iconst 1, 1) := by decide +kernel
theorem dX6_adds_30 : decode cX6_adds 30 = .ok (.iadd, 1) := by decide +kernel
theorem dX6_adds_31 : decode cX6_adds 31 = .ok (.iload_n 2, 1) := by decide +kernel
theorem dX6_adds_32 : decode cX6_adds 32 = .ok (.iastore, 1) := by decide +kernel
theorem dX6_adds_33 : decode cX6_adds 33 = .ok (.aload_n 0, 1) := by decide +kernel
theorem dX6_adds_34 : decode cX6_adds 34 = .ok (.getfield 7, 3) := by decide +kernel
theorem dX6_adds_37 : decode cX6_adds 37 = .ok (.iload 5, 2) := by decide +kernel
theorem dX6_adds_39 : decode cX6_adds 39 = .ok (.iconst 2, 1) := by decide +kernel
theorem dX6_adds_40 : decode cX6_adds 40 = .ok (.iadd, 1) := by decide +kernel
theorem dX6_adds_41 : decode cX6_adds 41 = .ok (.iload_n 3, 1) := by decide +kernel
theorem dX6_adds_42 : decode cX6_adds 42 = .ok (.iastore, 1) := by decide +kernel
theorem dX6_adds_43 : decode cX6_adds 43 = .ok (.aload_n 0, 1) := by decide +kernel
theorem dX6_adds_44 : decode cX6_adds 44 = .ok (.getfield 7, 3) := by decide +kernel
theorem dX6_adds_47 : decode cX6_adds 47 = .ok (.iload 5, 2) := by decide +kernel
theorem dX6_adds_49 : decode cX6_adds 49 = .ok (.iconst 3, 1) := by decide +kernel
theorem dX6_adds_50 : decode cX6_adds 50 = .ok (.iadd, 1) := by decide +kernel
theorem dX6_adds_51 : decode cX6_adds 51 = .ok (.iload 4, 2) := by decide +kernel
theorem dX6_adds_53 : decode cX6_adds 53 = .ok (.iastore, 1) := by decide +kernel
theorem dX6_adds_54 : decode cX6_adds 54 = .ok (.aload_n 0, 1) := by decide +kernel
theorem dX6_adds_55 : decode cX6_adds 55 = .ok (.getfield 7, 3) := by decide +kernel
theorem dX6_adds_58 : decode cX6_adds 58 = .ok (.bipush 7, 2) := by decide +kernel
theorem dX6_adds_60 : decode cX6_adds 60 = .ok (.dup2, 1) := by decide +kernel
theorem dX6_adds_61 : decode cX6_adds 61 = .ok (.iaload, 1) := by decide +kernel
theorem dX6_adds_62 : decode cX6_adds 62 = .ok (.iconst 1, 1) := by decide +kernel
theorem dX6_adds_63 : decode cX6_adds 63 = .ok (.iadd, 1) := by decide +kernel
theorem dX6_adds_64 : decode cX6_adds 64 = .ok (.iastore, 1) := by decide +kernel
theorem dX6_adds_65 : decode cX6_adds 65 = .ok (.return_, 1) := by decide +kernel
theorem dX6_appends_0 : decode cX6_appends 0 = .ok (.aload_n 0, 1) := by decide +kernel
theorem dX6_appends_1 : decode cX6_appends 1 = .ok (.getfield 7, 3) := by decide +kernel
theorem dX6_appends_4 : decode cX6_appends 4 = .ok (.bipush 8, 2) := by decide +kernel
theorem dX6_appends_6 : decode cX6_appends 6 = .ok (.iaload, 1) := by decide +kernel
theorem dX6_appends_7 : decode cX6_appends 7 = .ok (.ifCond .ne 36, 3) := by decide +kernel
theorem dX6_appends_10 : decode cX6_appends 10 = .ok (.aload_n 0, 1) := by decide +kernel
theorem dX6_appends_11 : decode cX6_appends 11 = .ok (.getfield 7, 3) := by decide +kernel
theorem dX6_appends_14 : decode cX6_appends 14 = .ok (.iconst 4, 1) := by decide +kernel
theorem dX6_appends_15 : decode cX6_appends 15 = .ok (.iaload, 1) := by decide +kernel
theorem dX6_appends_16 : decode cX6_appends 16 = .ok (.ifCond .ne 27, 3) := by decide +kernel
theorem dX6_appends_19 : decode cX6_appends 19 = .ok (.aload_n 0, 1) := by decide +kernel
theorem dX6_appends_20 : decode cX6_appends 20 = .ok (.getfield 7, 3) := by decide +kernel
theorem dX6_appends_23 : decode cX6_appends 23 = .ok (.iconst 2, 1) := by decide +kernel
theorem dX6_appends_24 : decode cX6_appends 24 = .ok (.aload_n 0, 1) := by decide +kernel
theorem dX6_appends_25 : decode cX6_appends 25 = .ok (.getfield 7, 3) := by decide +kernel
theorem dX6_appends_28 : decode cX6_appends 28 = .ok (.iconst 0, 1) := by decide +kernel
theorem dX6_appends_29 : decode cX6_appends 29 = .ok (.iaload, 1) := by decide +kernel
theorem dX6_appends_30 : decode cX6_appends 30 = .ok (.iastore, 1) := by decide +kernel
theorem dX6_appends_31 : decode cX6_appends 31 = .ok (.aload_n 0, 1) := by decide +kernel
theorem dX6_appends_32 : decode cX6_appends 32 = .ok (.getfield 7, 3) := by decide +kernel
theorem dX6_appends_35 : decode cX6_appends 35 = .ok (.iconst 3, 1) := by decide +kernel
theorem dX6_appends_36 : decode cX6_appends 36 = .ok (.aload_n 0, 1) := by decide +kernel
theorem dX6_appends_37 : decode cX6_appends 37 = .ok (.getfield 7, 3) := by decide +kernel
theorem dX6_appends_40 : decode cX6_appends 40 = .ok (.iconst 1, 1) := by decide +kernel
theorem dX6_appends_41 : decode cX6_appends 41 = .ok (.iaload, 1) := by decide +kernel
theorem dX6_appends_42 : decode cX6_appends 42 = .ok (.iastore, 1) := by decide +kernel
theorem dX6_appends_43 : decode cX6_appends 43 = .ok (.aload_n 0, 1) := by decide +kernel
theorem dX6_appends_44 : decode cX6_appends 44 = .ok (.getfield 7, 3) := by decide +kernel
theorem dX6_appends_47 : decode cX6_appends 47 = .ok (.sipush 1496, 3) := by decide +kernel
theorem dX6_appends_50 : decode cX6_appends 50 = .ok (.aload_n 0, 1) := by decide +kernel
theorem dX6_appends_51 : decode cX6_appends 51 = .ok (.getfield 7, 3) := by decide +kernel
theorem dX6_appends_54 : decode cX6_appends 54 = .ok (.bipush 8, 2) := by decide +kernel
theorem dX6_appends_56 : decode cX6_appends 56 = .ok (.iaload, 1) := by decide +kernel
theorem dX6_appends_57 : decode cX6_appends 57 = .ok (.iadd, 1) := by decide +kernel
theorem dX6_appends_58 : decode cX6_appends 58 = .ok (.aload_n 0, 1) := by decide +kernel
theorem dX6_appends_59 : decode cX6_appends 59 = .ok (.getfield 7, 3) := by decide +kernel
theorem dX6_appends_62 : decode cX6_appends 62 = .ok (.bipush 8, 2) := by decide +kernel
theorem dX6_appends_64 : decode cX6_appends 64 = .ok (.iaload, 1) := by decide +kernel
theorem dX6_appends_65 : decode cX6_appends 65 = .ok (.ifCond .ne 7, 3) := by decide +kernel
theorem dX6_appends_68 : decode cX6_appends 68 = .ok (.iconst 0, 1) := by decide +kernel
theorem dX6_appends_69 : decode cX6_appends 69 = .ok (.goto 4, 3) := by decide +kernel
theorem dX6_appends_72 : decode cX6_appends 72 = .ok (.iload_n 1, 1) := by decide +kernel
theorem dX6_appends_73 : decode cX6_appends 73 = .ok (.iastore, 1) := by decide +kernel
theorem dX6_appends_74 : decode cX6_appends 74 = .ok (.aload_n 0, 1) := by decide +kernel
theorem dX6_appends_75 : decode cX6_appends 75 = .ok (.iload_n 1, 1) := by decide +kernel
theorem dX6_appends_76 : decode cX6_appends 76 = .ok (.iload_n 2, 1) := by decide +kernel
theorem dX6_appends_77 : decode cX6_appends 77 = .ok (.aload_n 0, 1) := by decide +kernel
theorem dX6_appends_78 : decode cX6_appends 78 = .ok (.getfield 7, 3) := by decide +kernel
theorem dX6_appends_81 : decode cX6_appends 81 = .ok (.bipush 8, 2) := by decide +kernel
theorem dX6_appends_83 : decode cX6_appends 83 = .ok (.iaload, 1) := by decide +kernel
theorem dX6_appends_84 : decode cX6_appends 84 = .ok (.iconst 0, 1) := by decide +kernel
theorem dX6_appends_85 : decode cX6_appends 85 = .ok (.invokevirtual 81, 3) := by decide +kernel
theorem dX6_appends_88 : decode cX6_appends 88 = .ok (.aload_n 0, 1) := by decide +kernel
theorem dX6_appends_89 : decode cX6_appends 89 = .ok (.getfield 7, 3) := by decide +kernel
theorem dX6_appends_92 : decode cX6_appends 92 = .ok (.bipush 8, 2) := by decide +kernel
theorem dX6_appends_94 : decode cX6_appends 94 = .ok (.dup2, 1) := by decide +kernel
theorem dX6_appends_95 : decode cX6_appends 95 = .ok (.iaload, 1) := by decide +kernel
theorem dX6_appends_96 : decode cX6_appends 96 = .ok (.iconst 1, 1) := by decide +kernel
theorem dX6_appends_97 : decode cX6_appends 97 = .ok (.iadd, 1) := by decide +kernel
theorem dX6_appends_98 : decode cX6_appends 98 = .ok (.iastore, 1) := by decide +kernel
theorem dX6_appends_99 : decode cX6_appends 99 = .ok (.return_, 1) := by decide +kernel
theorem dX6_canInsert_0 : decode cX6_canInsert 0 = .ok (.aload_n 0, 1) := by decide +kernel
theorem dX6_canInsert_1 : decode cX6_canInsert 1 = .ok (.iload_n 1, 1) := by decide +kernel
theorem dX6_canInsert_2 : decode cX6_canInsert 2 = .ok (.invokevirtual 85, 3) := by decide +kernel
theorem dX6_canInsert_5 : decode cX6_canInsert 5 = .ok (.iconst (-1), 1) := by decide +kernel
theorem dX6_canInsert_6 : decode cX6_canInsert 6 = .ok (.if_icmp .ne 29, 3) := by decide +kernel
theorem dX6_canInsert_9 : decode cX6_canInsert 9 = .ok (.aload_n 0, 1) := by decide +kernel
theorem dX6_canInsert_10 : decode cX6_canInsert 10 = .ok (.iload_n 1, 1) := by decide +kernel
theorem dX6_canInsert_11 : decode cX6_canInsert 11 = .ok (.invokevirtual 88, 3) := by decide +kernel
theorem dX6_canInsert_14 : decode cX6_canInsert 14 = .ok (.iconst (-1), 1) := by decide +kernel
theorem dX6_canInsert_15 : decode cX6_canInsert 15 = .ok (.if_icmp .ne 16, 3) := by decide +kernel
theorem dX6_canInsert_18 : decode cX6_canInsert 18 = .ok (.aload_n 0, 1) := by decide +kernel
theorem dX6_canInsert_19 : decode cX6_canInsert 19 = .ok (.getfield 7, 3) := by decide +kernel
theorem dX6_canInsert_22 : decode cX6_canInsert 22 = .ok (.bipush 7, 2) := by decide +kernel
theorem dX6_canInsert_24 : decode cX6_canInsert 24 = .ok (.iaload, 1) := by decide +kernel
theorem dX6_canInsert_25 : decode cX6_canInsert 25 = .ok (.sipush 160, 3) := by decide +kernel
theorem dX6_canInsert_28 : decode cX6_canInsert 28 = .ok (.if_icmp .ge 7, 3) := by decide +kernel
theorem dX6_canInsert_31 : decode cX6_canInsert 31 = .ok (.iconst 1, 1) := by decide +kernel
theorem dX6_canInsert_32 : decode cX6_canInsert 32 = .ok (.goto 4, 3) := by decide +kernel
theorem dX6_canInsert_35 : decode cX6_canInsert 35 = .ok (.iconst 0, 1) := by decide +kernel
theorem dX6_canInsert_36 : decode cX6_canInsert 36 = .ok (.ireturn, 1) := by decide +kernel
theorem dX6_inserts_0 : decode cX6_inserts 0 = .ok (.aload_n 0, 1) := by decide +kernel
theorem dX6_inserts_1 : decode cX6_inserts 1 = .ok (.iload_n 1, 1) := by decide +kernel
theorem dX6_inserts_2 : decode cX6_inserts 2 = .ok (.invokevirtual 88, 3) := by decide +kernel
theorem dX6_inserts_5 : decode cX6_inserts 5 = .ok (.istore_n 3, 1) := by decide +kernel
theorem dX6_inserts_6 : decode cX6_inserts 6 = .ok (.iload_n 3, 1) := by decide +kernel
theorem dX6_inserts_7 : decode cX6_inserts 7 = .ok (.iconst (-1), 1) := by decide +kernel
theorem dX6_inserts_8 : decode cX6_inserts 8 = .ok (.if_icmp .eq 20, 3) := by decide +kernel
theorem dX6_inserts_11 : decode cX6_inserts 11 = .ok (.aload_n 0, 1) := by decide +kernel
theorem dX6_inserts_12 : decode cX6_inserts 12 = .ok (.getfield 7, 3) := by decide +kernel
theorem dX6_inserts_15 : decode cX6_inserts 15 = .ok (.sipush 856, 3) := by decide +kernel
theorem dX6_inserts_18 : decode cX6_inserts 18 = .ok (.iconst 4, 1) := by decide +kernel
theorem dX6_inserts_19 : decode cX6_inserts 19 = .ok (.iload_n 3, 1) := by decide +kernel
theorem dX6_inserts_20 : decode cX6_inserts 20 = .ok (.imul, 1) := by decide +kernel
theorem dX6_inserts_21 : decode cX6_inserts 21 = .ok (.iadd, 1) := by decide +kernel
theorem dX6_inserts_22 : decode cX6_inserts 22 = .ok (.iconst 1, 1) := by decide +kernel
theorem dX6_inserts_23 : decode cX6_inserts 23 = .ok (.iadd, 1) := by decide +kernel
theorem dX6_inserts_24 : decode cX6_inserts 24 = .ok (.iload_n 2, 1) := by decide +kernel
theorem dX6_inserts_25 : decode cX6_inserts 25 = .ok (.iastore, 1) := by decide +kernel
theorem dX6_inserts_26 : decode cX6_inserts 26 = .ok (.iconst 0, 1) := by decide +kernel
theorem dX6_inserts_27 : decode cX6_inserts 27 = .ok (.ireturn, 1) := by decide +kernel
theorem dX6_inserts_28 : decode cX6_inserts 28 = .ok (.aload_n 0, 1) := by decide +kernel
theorem dX6_inserts_29 : decode cX6_inserts 29 = .ok (.getfield 7, 3) := by decide +kernel
theorem dX6_inserts_32 : decode cX6_inserts 32 = .ok (.bipush 8, 2) := by decide +kernel
theorem dX6_inserts_34 : decode cX6_inserts 34 = .ok (.iaload, 1) := by decide +kernel
theorem dX6_inserts_35 : decode cX6_inserts 35 = .ok (.ifCond .ne 11, 3) := by decide +kernel
theorem dX6_inserts_38 : decode cX6_inserts 38 = .ok (.aload_n 0, 1) := by decide +kernel
theorem dX6_inserts_39 : decode cX6_inserts 39 = .ok (.iload_n 1, 1) := by decide +kernel
theorem dX6_inserts_40 : decode cX6_inserts 40 = .ok (.iload_n 2, 1) := by decide +kernel
theorem dX6_inserts_41 : decode cX6_inserts 41 = .ok (.invokevirtual 91, 3) := by decide +kernel
theorem dX6_inserts_44 : decode cX6_inserts 44 = .ok (.iconst 3, 1) := by decide +kernel
theorem dX6_inserts_45 : decode cX6_inserts 45 = .ok (.ireturn, 1) := by decide +kernel
theorem dX6_inserts_46 : decode cX6_inserts 46 = .ok (.aload_n 0, 1) := by decide +kernel
theorem dX6_inserts_47 : decode cX6_inserts 47 = .ok (.iload_n 1, 1) := by decide +kernel
theorem dX6_inserts_48 : decode cX6_inserts 48 = .ok (.invokevirtual 95, 3) := by decide +kernel
theorem dX6_inserts_51 : decode cX6_inserts 51 = .ok (.istore 4, 2) := by decide +kernel
theorem dX6_inserts_53 : decode cX6_inserts 53 = .ok (.aload_n 0, 1) := by decide +kernel
theorem dX6_inserts_54 : decode cX6_inserts 54 = .ok (.iload 4, 2) := by decide +kernel
theorem dX6_inserts_56 : decode cX6_inserts 56 = .ok (.invokevirtual 98, 3) := by decide +kernel
theorem dX6_inserts_59 : decode cX6_inserts 59 = .ok (.aload_n 0, 1) := by decide +kernel
theorem dX6_inserts_60 : decode cX6_inserts 60 = .ok (.getfield 7, 3) := by decide +kernel
theorem dX6_inserts_63 : decode cX6_inserts 63 = .ok (.iconst 2, 1) := by decide +kernel
theorem dX6_inserts_64 : decode cX6_inserts 64 = .ok (.iaload, 1) := by decide +kernel
theorem dX6_inserts_65 : decode cX6_inserts 65 = .ok (.if_icmp .ge 14, 3) := by decide +kernel
theorem dX6_inserts_68 : decode cX6_inserts 68 = .ok (.aload_n 0, 1) := by decide +kernel
theorem dX6_inserts_69 : decode cX6_inserts 69 = .ok (.iload_n 1, 1) := by decide +kernel
theorem dX6_inserts_70 : decode cX6_inserts 70 = .ok (.iload_n 2, 1) := by decide +kernel
theorem dX6_inserts_71 : decode cX6_inserts 71 = .ok (.iload 4, 2) := by decide +kernel
theorem dX6_inserts_73 : decode cX6_inserts 73 = .ok (.iconst 0, 1) := by decide +kernel
theorem dX6_inserts_74 : decode cX6_inserts 74 = .ok (.invokevirtual 81, 3) := by decide +kernel
theorem dX6_inserts_77 : decode cX6_inserts 77 = .ok (.iconst 1, 1) := by decide +kernel
theorem dX6_inserts_78 : decode cX6_inserts 78 = .ok (.ireturn, 1) := by decide +kernel
theorem dX6_inserts_79 : decode cX6_inserts 79 = .ok (.iload 4, 2) := by decide +kernel
theorem dX6_inserts_81 : decode cX6_inserts 81 = .ok (.aload_n 0, 1) := by decide +kernel
theorem dX6_inserts_82 : decode cX6_inserts 82 = .ok (.getfield 7, 3) := by decide +kernel
theorem dX6_inserts_85 : decode cX6_inserts 85 = .ok (.bipush 8, 2) := by decide +kernel
theorem dX6_inserts_87 : decode cX6_inserts 87 = .ok (.iaload, 1) := by decide +kernel
theorem dX6_inserts_88 : decode cX6_inserts 88 = .ok (.iconst 1, 1) := by decide +kernel
theorem dX6_inserts_89 : decode cX6_inserts 89 = .ok (.isub, 1) := by decide +kernel
theorem dX6_inserts_90 : decode cX6_inserts 90 = .ok (.if_icmp .ne 22, 3) := by decide +kernel
theorem dX6_inserts_93 : decode cX6_inserts 93 = .ok (.iload_n 1, 1) := by decide +kernel
theorem dX6_inserts_94 : decode cX6_inserts 94 = .ok (.aload_n 0, 1) := by decide +kernel
theorem dX6_inserts_95 : decode cX6_inserts 95 = .ok (.iload 4, 2) := by decide +kernel
theorem dX6_inserts_97 : decode cX6_inserts 97 = .ok (.iconst 0, 1) := by decide +kernel
theorem dX6_inserts_98 : decode cX6_inserts 98 = .ok (.invokevirtual 101, 3) := by decide +kernel
theorem dX6_inserts_101 : decode cX6_inserts 101 = .ok (.if_icmp .le 11, 3) := by decide +kernel
theorem dX6_inserts_104 : decode cX6_inserts 104 = .ok (.aload_n 0, 1) := by decide +kernel
theorem dX6_inserts_105 : decode cX6_inserts 105 = .ok (.iload_n 1, 1) := by decide +kernel
theorem dX6_inserts_106 : decode cX6_inserts 106 = .ok (.iload_n 2, 1) := by decide +kernel
theorem dX6_inserts_107 : decode cX6_inserts 107 = .ok (.invokevirtual 91, 3) := by decide +kernel
theorem dX6_inserts_110 : decode cX6_inserts 110 = .ok (.iconst 3, 1) := by decide +kernel
theorem dX6_inserts_111 : decode cX6_inserts 111 = .ok (.ireturn, 1) := by decide +kernel
theorem dX6_inserts_112 : decode cX6_inserts 112 = .ok (.aload_n 0, 1) := by decide +kernel
theorem dX6_inserts_113 : decode cX6_inserts 113 = .ok (.iload_n 1, 1) := by decide +kernel
theorem dX6_inserts_114 : decode cX6_inserts 114 = .ok (.iload_n 2, 1) := by decide +kernel
theorem dX6_inserts_115 : decode cX6_inserts 115 = .ok (.iload 4, 2) := by decide +kernel
theorem dX6_inserts_117 : decode cX6_inserts 117 = .ok (.aload_n 0, 1) := by decide +kernel
theorem dX6_inserts_118 : decode cX6_inserts 118 = .ok (.iload 4, 2) := by decide +kernel
theorem dX6_inserts_120 : decode cX6_inserts 120 = .ok (.iconst 3, 1) := by decide +kernel
theorem dX6_inserts_121 : decode cX6_inserts 121 = .ok (.invokevirtual 101, 3) := by decide +kernel
theorem dX6_inserts_124 : decode cX6_inserts 124 = .ok (.iconst 1, 1) := by decide +kernel
theorem dX6_inserts_125 : decode cX6_inserts 125 = .ok (.iadd, 1) := by decide +kernel
theorem dX6_inserts_126 : decode cX6_inserts 126 = .ok (.invokevirtual 81, 3) := by decide +kernel
theorem dX6_inserts_129 : decode cX6_inserts 129 = .ok (.iconst 2, 1) := by decide +kernel
theorem dX6_inserts_130 : decode cX6_inserts 130 = .ok (.ireturn, 1) := by decide +kernel
theorem dX6_canErase_0 : decode cX6_canErase 0 = .ok (.aload_n 0, 1) := by decide +kernel
theorem dX6_canErase_1 : decode cX6_canErase 1 = .ok (.iload_n 1, 1) := by decide +kernel
theorem dX6_canErase_2 : decode cX6_canErase 2 = .ok (.invokevirtual 85, 3) := by decide +kernel
theorem dX6_canErase_5 : decode cX6_canErase 5 = .ok (.iconst (-1), 1) := by decide +kernel
theorem dX6_canErase_6 : decode cX6_canErase 6 = .ok (.if_icmp .ne 16, 3) := by decide +kernel
theorem dX6_canErase_9 : decode cX6_canErase 9 = .ok (.aload_n 0, 1) := by decide +kernel
theorem dX6_canErase_10 : decode cX6_canErase 10 = .ok (.iload_n 1, 1) := by decide +kernel
theorem dX6_canErase_11 : decode cX6_canErase 11 = .ok (.invokevirtual 88, 3) := by decide +kernel
theorem dX6_canErase_14 : decode cX6_canErase 14 = .ok (.iconst (-1), 1) := by decide +kernel
theorem dX6_canErase_15 : decode cX6_canErase 15 = .ok (.if_icmp .eq 7, 3) := by decide +kernel
theorem dX6_canErase_18 : decode cX6_canErase 18 = .ok (.iconst 1, 1) := by decide +kernel
theorem dX6_canErase_19 : decode cX6_canErase 19 = .ok (.goto 4, 3) := by decide +kernel
theorem dX6_canErase_22 : decode cX6_canErase 22 = .ok (.iconst 0, 1) := by decide +kernel
theorem dX6_canErase_23 : decode cX6_canErase 23 = .ok (.ireturn, 1) := by decide +kernel
theorem dX6_erases_0 : decode cX6_erases 0 = .ok (.aload_n 0, 1) := by decide +kernel
theorem dX6_erases_1 : decode cX6_erases 1 = .ok (.iload_n 1, 1) := by decide +kernel
theorem dX6_erases_2 : decode cX6_erases 2 = .ok (.invokevirtual 88, 3) := by decide +kernel
theorem dX6_erases_5 : decode cX6_erases 5 = .ok (.istore_n 2, 1) := by decide +kernel
theorem dX6_erases_6 : decode cX6_erases 6 = .ok (.aload_n 0, 1) := by decide +kernel
theorem dX6_erases_7 : decode cX6_erases 7 = .ok (.iload_n 2, 1) := by decide +kernel
theorem dX6_erases_8 : decode cX6_erases 8 = .ok (.iconst 1, 1) := by decide +kernel
theorem dX6_erases_9 : decode cX6_erases 9 = .ok (.invokevirtual 72, 3) := by decide +kernel
theorem dX6_erases_12 : decode cX6_erases 12 = .ok (.istore_n 3, 1) := by decide +kernel
theorem dX6_erases_13 : decode cX6_erases 13 = .ok (.aload_n 0, 1) := by decide +kernel
theorem dX6_erases_14 : decode cX6_erases 14 = .ok (.getfield 7, 3) := by decide +kernel
theorem dX6_erases_17 : decode cX6_erases 17 = .ok (.bipush 7, 2) := by decide +kernel
theorem dX6_erases_19 : decode cX6_erases 19 = .ok (.dup2, 1) := by decide +kernel
theorem dX6_erases_20 : decode cX6_erases 20 = .ok (.iaload, 1) := by decide +kernel
theorem dX6_erases_21 : decode cX6_erases 21 = .ok (.iconst 1, 1) := by decide +kernel
theorem dX6_erases_22 : decode cX6_erases 22 = .ok (.isub, 1) := by decide +kernel
theorem dX6_erases_23 : decode cX6_erases 23 = .ok (.iastore, 1) := by decide +kernel
theorem dX6_erases_24 : decode cX6_erases 24 = .ok (.iconst 0, 1) := by decide +kernel
theorem dX6_erases_25 : decode cX6_erases 25 = .ok (.istore 4, 2) := by decide +kernel
theorem dX6_erases_27 : decode cX6_erases 27 = .ok (.iload 4, 2) := by decide +kernel
theorem dX6_erases_29 : decode cX6_erases 29 = .ok (.iconst 4, 1) := by decide +kernel
theorem dX6_erases_30 : decode cX6_erases 30 = .ok (.if_icmp .ge 45, 3) := by decide +kernel
theorem dX6_erases_33 : decode cX6_erases 33 = .ok (.aload_n 0, 1) := by decide +kernel
theorem dX6_erases_34 : decode cX6_erases 34 = .ok (.getfield 7, 3) := by decide +kernel
theorem dX6_erases_37 : decode cX6_erases 37 = .ok (.sipush 856, 3) := by decide +kernel
theorem dX6_erases_40 : decode cX6_erases 40 = .ok (.iconst 4, 1) := by decide +kernel
theorem dX6_erases_41 : decode cX6_erases 41 = .ok (.iload_n 2, 1) := by decide +kernel
theorem dX6_erases_42 : decode cX6_erases 42 = .ok (.imul, 1) := by decide +kernel
theorem dX6_erases_43 : decode cX6_erases 43 = .ok (.iadd, 1) := by decide +kernel
theorem dX6_erases_44 : decode cX6_erases 44 = .ok (.iload 4, 2) := by decide +kernel
theorem dX6_erases_46 : decode cX6_erases 46 = .ok (.iadd, 1) := by decide +kernel
theorem dX6_erases_47 : decode cX6_erases 47 = .ok (.aload_n 0, 1) := by decide +kernel
theorem dX6_erases_48 : decode cX6_erases 48 = .ok (.getfield 7, 3) := by decide +kernel
theorem dX6_erases_51 : decode cX6_erases 51 = .ok (.sipush 856, 3) := by decide +kernel
theorem dX6_erases_54 : decode cX6_erases 54 = .ok (.iconst 4, 1) := by decide +kernel
theorem dX6_erases_55 : decode cX6_erases 55 = .ok (.aload_n 0, 1) := by decide +kernel
theorem dX6_erases_56 : decode cX6_erases 56 = .ok (.getfield 7, 3) := by decide +kernel
theorem dX6_erases_59 : decode cX6_erases 59 = .ok (.bipush 7, 2) := by decide +kernel
theorem dX6_erases_61 : decode cX6_erases 61 = .ok (.iaload, 1) := by decide +kernel
theorem dX6_erases_62 : decode cX6_erases 62 = .ok (.imul, 1) := by decide +kernel
theorem dX6_erases_63 : decode cX6_erases 63 = .ok (.iadd, 1) := by decide +kernel
theorem dX6_erases_64 : decode cX6_erases 64 = .ok (.iload 4, 2) := by decide +kernel
theorem dX6_erases_66 : decode cX6_erases 66 = .ok (.iadd, 1) := by decide +kernel
theorem dX6_erases_67 : decode cX6_erases 67 = .ok (.iaload, 1) := by decide +kernel
theorem dX6_erases_68 : decode cX6_erases 68 = .ok (.iastore, 1) := by decide +kernel
theorem dX6_erases_69 : decode cX6_erases 69 = .ok (.iinc 4 1, 3) := by decide +kernel
theorem dX6_erases_72 : decode cX6_erases 72 = .ok (.goto (-45), 3) := by decide +kernel
theorem dX6_erases_75 : decode cX6_erases 75 = .ok (.iload_n 3, 1) := by decide +kernel
theorem dX6_erases_76 : decode cX6_erases 76 = .ok (.ireturn, 1) := by decide +kernel
theorem dX6_valueBy_0 : decode cX6_valueBy 0 = .ok (.aload_n 0, 1) := by decide +kernel
theorem dX6_valueBy_1 : decode cX6_valueBy 1 = .ok (.iload_n 1, 1) := by decide +kernel
theorem dX6_valueBy_2 : decode cX6_valueBy 2 = .ok (.invokevirtual 85, 3) := by decide +kernel
theorem dX6_valueBy_5 : decode cX6_valueBy 5 = .ok (.istore_n 2, 1) := by decide +kernel
theorem dX6_valueBy_6 : decode cX6_valueBy 6 = .ok (.iload_n 2, 1) := by decide +kernel
theorem dX6_valueBy_7 : decode cX6_valueBy 7 = .ok (.iconst (-1), 1) := by decide +kernel
theorem dX6_valueBy_8 : decode cX6_valueBy 8 = .ok (.if_icmp .eq 15, 3) := by decide +kernel
theorem dX6_valueBy_11 : decode cX6_valueBy 11 = .ok (.aload_n 0, 1) := by decide +kernel
theorem dX6_valueBy_12 : decode cX6_valueBy 12 = .ok (.iload_n 2, 1) := by decide +kernel
theorem dX6_valueBy_13 : decode cX6_valueBy 13 = .ok (.aload_n 0, 1) := by decide +kernel
theorem dX6_valueBy_14 : decode cX6_valueBy 14 = .ok (.iload_n 2, 1) := by decide +kernel
theorem dX6_valueBy_15 : decode cX6_valueBy 15 = .ok (.iload_n 1, 1) := by decide +kernel
theorem dX6_valueBy_16 : decode cX6_valueBy 16 = .ok (.invokevirtual 62, 3) := by decide +kernel
theorem dX6_valueBy_19 : decode cX6_valueBy 19 = .ok (.invokevirtual 65, 3) := by decide +kernel
theorem dX6_valueBy_22 : decode cX6_valueBy 22 = .ok (.ireturn, 1) := by decide +kernel
theorem dX6_valueBy_23 : decode cX6_valueBy 23 = .ok (.aload_n 0, 1) := by decide +kernel
theorem dX6_valueBy_24 : decode cX6_valueBy 24 = .ok (.iload_n 1, 1) := by decide +kernel
theorem dX6_valueBy_25 : decode cX6_valueBy 25 = .ok (.invokevirtual 88, 3) := by decide +kernel
theorem dX6_valueBy_28 : decode cX6_valueBy 28 = .ok (.istore_n 3, 1) := by decide +kernel
theorem dX6_valueBy_29 : decode cX6_valueBy 29 = .ok (.iload_n 3, 1) := by decide +kernel
theorem dX6_valueBy_30 : decode cX6_valueBy 30 = .ok (.iconst (-1), 1) := by decide +kernel
theorem dX6_valueBy_31 : decode cX6_valueBy 31 = .ok (.if_icmp .ne 7, 3) := by decide +kernel
theorem dX6_valueBy_34 : decode cX6_valueBy 34 = .ok (.iconst (-1), 1) := by decide +kernel
theorem dX6_valueBy_35 : decode cX6_valueBy 35 = .ok (.goto 9, 3) := by decide +kernel
theorem dX6_valueBy_38 : decode cX6_valueBy 38 = .ok (.aload_n 0, 1) := by decide +kernel
theorem dX6_valueBy_39 : decode cX6_valueBy 39 = .ok (.iload_n 3, 1) := by decide +kernel
theorem dX6_valueBy_40 : decode cX6_valueBy 40 = .ok (.iconst 1, 1) := by decide +kernel
theorem dX6_valueBy_41 : decode cX6_valueBy 41 = .ok (.invokevirtual 72, 3) := by decide +kernel
theorem dX6_valueBy_44 : decode cX6_valueBy 44 = .ok (.ireturn, 1) := by decide +kernel
theorem dX6_nextTold_0 : decode cX6_nextTold 0 = .ok (.iload_n 2, 1) := by decide +kernel
theorem dX6_nextTold_1 : decode cX6_nextTold 1 = .ok (.istore_n 3, 1) := by decide +kernel
theorem dX6_nextTold_2 : decode cX6_nextTold 2 = .ok (.iconst 0, 1) := by decide +kernel
theorem dX6_nextTold_3 : decode cX6_nextTold 3 = .ok (.istore 4, 2) := by decide +kernel
theorem dX6_nextTold_5 : decode cX6_nextTold 5 = .ok (.iload 4, 2) := by decide +kernel
theorem dX6_nextTold_7 : decode cX6_nextTold 7 = .ok (.aload_n 0, 1) := by decide +kernel
theorem dX6_nextTold_8 : decode cX6_nextTold 8 = .ok (.getfield 7, 3) := by decide +kernel
theorem dX6_nextTold_11 : decode cX6_nextTold 11 = .ok (.bipush 6, 2) := by decide +kernel
theorem dX6_nextTold_13 : decode cX6_nextTold 13 = .ok (.iaload, 1) := by decide +kernel
theorem dX6_nextTold_14 : decode cX6_nextTold 14 = .ok (.if_icmp .gt 66, 3) := by decide +kernel
theorem dX6_nextTold_17 : decode cX6_nextTold 17 = .ok (.iconst 0, 1) := by decide +kernel
theorem dX6_nextTold_18 : decode cX6_nextTold 18 = .ok (.istore 5, 2) := by decide +kernel
theorem dX6_nextTold_20 : decode cX6_nextTold 20 = .ok (.iload 5, 2) := by decide +kernel
theorem dX6_nextTold_22 : decode cX6_nextTold 22 = .ok (.aload_n 0, 1) := by decide +kernel
theorem dX6_nextTold_23 : decode cX6_nextTold 23 = .ok (.iload 4, 2) := by decide +kernel
theorem dX6_nextTold_25 : decode cX6_nextTold 25 = .ok (.invokevirtual 54, 3) := by decide +kernel
theorem dX6_nextTold_28 : decode cX6_nextTold 28 = .ok (.if_icmp .ge 46, 3) := by decide +kernel
theorem dX6_nextTold_31 : decode cX6_nextTold 31 = .ok (.aload_n 0, 1) := by decide +kernel
theorem dX6_nextTold_32 : decode cX6_nextTold 32 = .ok (.iload 4, 2) := by decide +kernel
theorem dX6_nextTold_34 : decode cX6_nextTold 34 = .ok (.iload 5, 2) := by decide +kernel
theorem dX6_nextTold_36 : decode cX6_nextTold 36 = .ok (.invokevirtual 58, 3) := by decide +kernel
theorem dX6_nextTold_39 : decode cX6_nextTold 39 = .ok (.iload_n 1, 1) := by decide +kernel
theorem dX6_nextTold_40 : decode cX6_nextTold 40 = .ok (.if_icmp .le 26, 3) := by decide +kernel
theorem dX6_nextTold_43 : decode cX6_nextTold 43 = .ok (.aload_n 0, 1) := by decide +kernel
theorem dX6_nextTold_44 : decode cX6_nextTold 44 = .ok (.iload 4, 2) := by decide +kernel
theorem dX6_nextTold_46 : decode cX6_nextTold 46 = .ok (.iload 5, 2) := by decide +kernel
theorem dX6_nextTold_48 : decode cX6_nextTold 48 = .ok (.invokevirtual 58, 3) := by decide +kernel
theorem dX6_nextTold_51 : decode cX6_nextTold 51 = .ok (.iload_n 3, 1) := by decide +kernel
theorem dX6_nextTold_52 : decode cX6_nextTold 52 = .ok (.if_icmp .ge 14, 3) := by decide +kernel
theorem dX6_nextTold_55 : decode cX6_nextTold 55 = .ok (.aload_n 0, 1) := by decide +kernel
theorem dX6_nextTold_56 : decode cX6_nextTold 56 = .ok (.iload 4, 2) := by decide +kernel
theorem dX6_nextTold_58 : decode cX6_nextTold 58 = .ok (.iload 5, 2) := by decide +kernel
theorem dX6_nextTold_60 : decode cX6_nextTold 60 = .ok (.invokevirtual 58, 3) := by decide +kernel
theorem dX6_nextTold_63 : decode cX6_nextTold 63 = .ok (.goto 4, 3) := by decide +kernel
theorem dX6_nextTold_66 : decode cX6_nextTold 66 = .ok (.iload_n 3, 1) := by decide +kernel
theorem dX6_nextTold_67 : decode cX6_nextTold 67 = .ok (.istore_n 3, 1) := by decide +kernel
theorem dX6_nextTold_68 : decode cX6_nextTold 68 = .ok (.iinc 5 1, 3) := by decide +kernel
theorem dX6_nextTold_71 : decode cX6_nextTold 71 = .ok (.goto (-51), 3) := by decide +kernel
theorem dX6_nextTold_74 : decode cX6_nextTold 74 = .ok (.iinc 4 1, 3) := by decide +kernel
theorem dX6_nextTold_77 : decode cX6_nextTold 77 = .ok (.goto (-72), 3) := by decide +kernel
theorem dX6_nextTold_80 : decode cX6_nextTold 80 = .ok (.iconst 0, 1) := by decide +kernel
theorem dX6_nextTold_81 : decode cX6_nextTold 81 = .ok (.istore 4, 2) := by decide +kernel
theorem dX6_nextTold_83 : decode cX6_nextTold 83 = .ok (.iload 4, 2) := by decide +kernel
theorem dX6_nextTold_85 : decode cX6_nextTold 85 = .ok (.aload_n 0, 1) := by decide +kernel
theorem dX6_nextTold_86 : decode cX6_nextTold 86 = .ok (.getfield 7, 3) := by decide +kernel
theorem dX6_nextTold_89 : decode cX6_nextTold 89 = .ok (.bipush 7, 2) := by decide +kernel
theorem dX6_nextTold_91 : decode cX6_nextTold 91 = .ok (.iaload, 1) := by decide +kernel
theorem dX6_nextTold_92 : decode cX6_nextTold 92 = .ok (.if_icmp .ge 43, 3) := by decide +kernel
theorem dX6_nextTold_95 : decode cX6_nextTold 95 = .ok (.aload_n 0, 1) := by decide +kernel
theorem dX6_nextTold_96 : decode cX6_nextTold 96 = .ok (.iload 4, 2) := by decide +kernel
theorem dX6_nextTold_98 : decode cX6_nextTold 98 = .ok (.iconst 0, 1) := by decide +kernel
theorem dX6_nextTold_99 : decode cX6_nextTold 99 = .ok (.invokevirtual 72, 3) := by decide +kernel
theorem dX6_nextTold_102 : decode cX6_nextTold 102 = .ok (.iload_n 1, 1) := by decide +kernel
theorem dX6_nextTold_103 : decode cX6_nextTold 103 = .ok (.if_icmp .le 24, 3) := by decide +kernel
theorem dX6_nextTold_106 : decode cX6_nextTold 106 = .ok (.aload_n 0, 1) := by decide +kernel
theorem dX6_nextTold_107 : decode cX6_nextTold 107 = .ok (.iload 4, 2) := by decide +kernel
theorem dX6_nextTold_109 : decode cX6_nextTold 109 = .ok (.iconst 0, 1) := by decide +kernel
theorem dX6_nextTold_110 : decode cX6_nextTold 110 = .ok (.invokevirtual 72, 3) := by decide +kernel
theorem dX6_nextTold_113 : decode cX6_nextTold 113 = .ok (.iload_n 3, 1) := by decide +kernel
theorem dX6_nextTold_114 : decode cX6_nextTold 114 = .ok (.if_icmp .ge 13, 3) := by decide +kernel
theorem dX6_nextTold_117 : decode cX6_nextTold 117 = .ok (.aload_n 0, 1) := by decide +kernel
theorem dX6_nextTold_118 : decode cX6_nextTold 118 = .ok (.iload 4, 2) := by decide +kernel
theorem dX6_nextTold_120 : decode cX6_nextTold 120 = .ok (.iconst 0, 1) := by decide +kernel
theorem dX6_nextTold_121 : decode cX6_nextTold 121 = .ok (.invokevirtual 72, 3) := by decide +kernel
theorem dX6_nextTold_124 : decode cX6_nextTold 124 = .ok (.goto 4, 3) := by decide +kernel
theorem dX6_nextTold_127 : decode cX6_nextTold 127 = .ok (.iload_n 3, 1) := by decide +kernel
theorem dX6_nextTold_128 : decode cX6_nextTold 128 = .ok (.istore_n 3, 1) := by decide +kernel
theorem dX6_nextTold_129 : decode cX6_nextTold 129 = .ok (.iinc 4 1, 3) := by decide +kernel
theorem dX6_nextTold_132 : decode cX6_nextTold 132 = .ok (.goto (-49), 3) := by decide +kernel
theorem dX6_nextTold_135 : decode cX6_nextTold 135 = .ok (.iload_n 3, 1) := by decide +kernel
theorem dX6_nextTold_136 : decode cX6_nextTold 136 = .ok (.ireturn, 1) := by decide +kernel
theorem dX6_finds_0 : decode cX6_finds 0 = .ok (.aload_n 0, 1) := by decide +kernel
theorem dX6_finds_1 : decode cX6_finds 1 = .ok (.iconst 0, 1) := by decide +kernel
theorem dX6_finds_2 : decode cX6_finds 2 = .ok (.putfield 104, 3) := by decide +kernel
theorem dX6_finds_5 : decode cX6_finds 5 = .ok (.aload_n 0, 1) := by decide +kernel
theorem dX6_finds_6 : decode cX6_finds 6 = .ok (.iconst (-1), 1) := by decide +kernel
theorem dX6_finds_7 : decode cX6_finds 7 = .ok (.sipush 10000, 3) := by decide +kernel
theorem dX6_finds_10 : decode cX6_finds 10 = .ok (.invokevirtual 107, 3) := by decide +kernel
theorem dX6_finds_13 : decode cX6_finds 13 = .ok (.istore_n 1, 1) := by decide +kernel
theorem dX6_finds_14 : decode cX6_finds 14 = .ok (.iload_n 1, 1) := by decide +kernel
theorem dX6_finds_15 : decode cX6_finds 15 = .ok (.sipush 9999, 3) := by decide +kernel
theorem dX6_finds_18 : decode cX6_finds 18 = .ok (.if_icmp .gt 62, 3) := by decide +kernel
theorem dX6_finds_21 : decode cX6_finds 21 = .ok (.aload_n 0, 1) := by decide +kernel
theorem dX6_finds_22 : decode cX6_finds 22 = .ok (.iload_n 1, 1) := by decide +kernel
theorem dX6_finds_23 : decode cX6_finds 23 = .ok (.invokevirtual 110, 3) := by decide +kernel
theorem dX6_finds_26 : decode cX6_finds 26 = .ok (.istore_n 2, 1) := by decide +kernel
theorem dX6_finds_27 : decode cX6_finds 27 = .ok (.iload_n 2, 1) := by decide +kernel
theorem dX6_finds_28 : decode cX6_finds 28 = .ok (.iconst (-1), 1) := by decide +kernel
theorem dX6_finds_29 : decode cX6_finds 29 = .ok (.if_icmp .eq 39, 3) := by decide +kernel
theorem dX6_finds_32 : decode cX6_finds 32 = .ok (.aload_n 0, 1) := by decide +kernel
theorem dX6_finds_33 : decode cX6_finds 33 = .ok (.getfield 29, 3) := by decide +kernel
theorem dX6_finds_36 : decode cX6_finds 36 = .ok (.iconst 2, 1) := by decide +kernel
theorem dX6_finds_37 : decode cX6_finds 37 = .ok (.aload_n 0, 1) := by decide +kernel
theorem dX6_finds_38 : decode cX6_finds 38 = .ok (.getfield 104, 3) := by decide +kernel
theorem dX6_finds_41 : decode cX6_finds 41 = .ok (.imul, 1) := by decide +kernel
theorem dX6_finds_42 : decode cX6_finds 42 = .ok (.iload_n 1, 1) := by decide +kernel
theorem dX6_finds_43 : decode cX6_finds 43 = .ok (.iastore, 1) := by decide +kernel
theorem dX6_finds_44 : decode cX6_finds 44 = .ok (.aload_n 0, 1) := by decide +kernel
theorem dX6_finds_45 : decode cX6_finds 45 = .ok (.getfield 29, 3) := by decide +kernel
theorem dX6_finds_48 : decode cX6_finds 48 = .ok (.iconst 2, 1) := by decide +kernel
theorem dX6_finds_49 : decode cX6_finds 49 = .ok (.aload_n 0, 1) := by decide +kernel
theorem dX6_finds_50 : decode cX6_finds 50 = .ok (.getfield 104, 3) := by decide +kernel
theorem dX6_finds_53 : decode cX6_finds 53 = .ok (.imul, 1) := by decide +kernel
theorem dX6_finds_54 : decode cX6_finds 54 = .ok (.iconst 1, 1) := by decide +kernel
theorem dX6_finds_55 : decode cX6_finds 55 = .ok (.iadd, 1) := by decide +kernel
theorem dX6_finds_56 : decode cX6_finds 56 = .ok (.iload_n 2, 1) := by decide +kernel
theorem dX6_finds_57 : decode cX6_finds 57 = .ok (.iastore, 1) := by decide +kernel
theorem dX6_finds_58 : decode cX6_finds 58 = .ok (.aload_n 0, 1) := by decide +kernel
theorem dX6_finds_59 : decode cX6_finds 59 = .ok (.dup, 1) := by decide +kernel
theorem dX6_finds_60 : decode cX6_finds 60 = .ok (.getfield 104, 3) := by decide +kernel
theorem dX6_finds_63 : decode cX6_finds 63 = .ok (.iconst 1, 1) := by decide +kernel
theorem dX6_finds_64 : decode cX6_finds 64 = .ok (.iadd, 1) := by decide +kernel
theorem dX6_finds_65 : decode cX6_finds 65 = .ok (.putfield 104, 3) := by decide +kernel
theorem dX6_finds_68 : decode cX6_finds 68 = .ok (.aload_n 0, 1) := by decide +kernel
theorem dX6_finds_69 : decode cX6_finds 69 = .ok (.iload_n 1, 1) := by decide +kernel
theorem dX6_finds_70 : decode cX6_finds 70 = .ok (.sipush 10000, 3) := by decide +kernel
theorem dX6_finds_73 : decode cX6_finds 73 = .ok (.invokevirtual 107, 3) := by decide +kernel
theorem dX6_finds_76 : decode cX6_finds 76 = .ok (.istore_n 1, 1) := by decide +kernel
theorem dX6_finds_77 : decode cX6_finds 77 = .ok (.goto (-63), 3) := by decide +kernel
theorem dX6_finds_80 : decode cX6_finds 80 = .ok (.aload_n 0, 1) := by decide +kernel
theorem dX6_finds_81 : decode cX6_finds 81 = .ok (.getfield 104, 3) := by decide +kernel
theorem dX6_finds_84 : decode cX6_finds 84 = .ok (.ireturn, 1) := by decide +kernel
theorem dX6_between_0 : decode cX6_between 0 = .ok (.iconst 0, 1) := by decide +kernel
theorem dX6_between_1 : decode cX6_between 1 = .ok (.istore_n 3, 1) := by decide +kernel
theorem dX6_between_2 : decode cX6_between 2 = .ok (.aload_n 0, 1) := by decide +kernel
theorem dX6_between_3 : decode cX6_between 3 = .ok (.invokevirtual 113, 3) := by decide +kernel
theorem dX6_between_6 : decode cX6_between 6 = .ok (.istore 4, 2) := by decide +kernel
theorem dX6_between_8 : decode cX6_between 8 = .ok (.iconst 0, 1) := by decide +kernel
theorem dX6_between_9 : decode cX6_between 9 = .ok (.istore 5, 2) := by decide +kernel
theorem dX6_between_11 : decode cX6_between 11 = .ok (.iload 5, 2) := by decide +kernel
theorem dX6_between_13 : decode cX6_between 13 = .ok (.iload 4, 2) := by decide +kernel
theorem dX6_between_15 : decode cX6_between 15 = .ok (.if_icmp .ge 34, 3) := by decide +kernel
theorem dX6_between_18 : decode cX6_between 18 = .ok (.iload_n 3, 1) := by decide +kernel
theorem dX6_between_19 : decode cX6_between 19 = .ok (.aload_n 0, 1) := by decide +kernel
theorem dX6_between_20 : decode cX6_between 20 = .ok (.getfield 29, 3) := by decide +kernel
theorem dX6_between_23 : decode cX6_between 23 = .ok (.iconst 2, 1) := by decide +kernel
theorem dX6_between_24 : decode cX6_between 24 = .ok (.iload 5, 2) := by decide +kernel
theorem dX6_between_26 : decode cX6_between 26 = .ok (.imul, 1) := by decide +kernel
theorem dX6_between_27 : decode cX6_between 27 = .ok (.iaload, 1) := by decide +kernel
theorem dX6_between_28 : decode cX6_between 28 = .ok (.iload_n 1, 1) := by decide +kernel
theorem dX6_between_29 : decode cX6_between 29 = .ok (.iload_n 2, 1) := by decide +kernel
theorem dX6_between_30 : decode cX6_between 30 = .ok (.invokestatic 50, 3) := by decide +kernel
theorem dX6_between_33 : decode cX6_between 33 = .ok (.ifCond .eq 7, 3) := by decide +kernel
theorem dX6_between_36 : decode cX6_between 36 = .ok (.iconst 1, 1) := by decide +kernel
theorem dX6_between_37 : decode cX6_between 37 = .ok (.goto 4, 3) := by decide +kernel
theorem dX6_between_40 : decode cX6_between 40 = .ok (.iconst 0, 1) := by decide +kernel
theorem dX6_between_41 : decode cX6_between 41 = .ok (.iadd, 1) := by decide +kernel
theorem dX6_between_42 : decode cX6_between 42 = .ok (.istore_n 3, 1) := by decide +kernel
theorem dX6_between_43 : decode cX6_between 43 = .ok (.iinc 5 1, 3) := by decide +kernel
theorem dX6_between_46 : decode cX6_between 46 = .ok (.goto (-35), 3) := by decide +kernel
theorem dX6_between_49 : decode cX6_between 49 = .ok (.iload_n 3, 1) := by decide +kernel
theorem dX6_between_50 : decode cX6_between 50 = .ok (.ireturn, 1) := by decide +kernel
theorem dX6_levelsOf_0 : decode cX6_levelsOf 0 = .ok (.iconst 0, 1) := by decide +kernel
theorem dX6_levelsOf_1 : decode cX6_levelsOf 1 = .ok (.istore_n 3, 1) := by decide +kernel
theorem dX6_levelsOf_2 : decode cX6_levelsOf 2 = .ok (.iload_n 1, 1) := by decide +kernel
theorem dX6_levelsOf_3 : decode cX6_levelsOf 3 = .ok (.istore 4, 2) := by decide +kernel
theorem dX6_levelsOf_5 : decode cX6_levelsOf 5 = .ok (.iload 4, 2) := by decide +kernel
theorem dX6_levelsOf_7 : decode cX6_levelsOf 7 = .ok (.iconst 1, 1) := by decide +kernel
theorem dX6_levelsOf_8 : decode cX6_levelsOf 8 = .ok (.if_icmp .le 19, 3) := by decide +kernel
theorem dX6_levelsOf_11 : decode cX6_levelsOf 11 = .ok (.iload 4, 2) := by decide +kernel
theorem dX6_levelsOf_13 : decode cX6_levelsOf 13 = .ok (.iload_n 2, 1) := by decide +kernel
theorem dX6_levelsOf_14 : decode cX6_levelsOf 14 = .ok (.iadd, 1) := by decide +kernel
theorem dX6_levelsOf_15 : decode cX6_levelsOf 15 = .ok (.iconst 1, 1) := by decide +kernel
theorem dX6_levelsOf_16 : decode cX6_levelsOf 16 = .ok (.isub, 1) := by decide +kernel
theorem dX6_levelsOf_17 : decode cX6_levelsOf 17 = .ok (.iload_n 2, 1) := by decide +kernel
theorem dX6_levelsOf_18 : decode cX6_levelsOf 18 = .ok (.idiv, 1) := by decide +kernel
theorem dX6_levelsOf_19 : decode cX6_levelsOf 19 = .ok (.istore 4, 2) := by decide +kernel
theorem dX6_levelsOf_21 : decode cX6_levelsOf 21 = .ok (.iinc 3 1, 3) := by decide +kernel
theorem dX6_levelsOf_24 : decode cX6_levelsOf 24 = .ok (.goto (-19), 3) := by decide +kernel
theorem dX6_levelsOf_27 : decode cX6_levelsOf 27 = .ok (.iload_n 3, 1) := by decide +kernel
theorem dX6_levelsOf_28 : decode cX6_levelsOf 28 = .ok (.ireturn, 1) := by decide +kernel
theorem dX6_allLevels_0 : decode cX6_allLevels 0 = .ok (.aload_n 0, 1) := by decide +kernel
theorem dX6_allLevels_1 : decode cX6_allLevels 1 = .ok (.aload_n 0, 1) := by decide +kernel
theorem dX6_allLevels_2 : decode cX6_allLevels 2 = .ok (.getfield 7, 3) := by decide +kernel
theorem dX6_allLevels_5 : decode cX6_allLevels 5 = .ok (.bipush 8, 2) := by decide +kernel
theorem dX6_allLevels_7 : decode cX6_allLevels 7 = .ok (.iaload, 1) := by decide +kernel
theorem dX6_allLevels_8 : decode cX6_allLevels 8 = .ok (.aload_n 0, 1) := by decide +kernel
theorem dX6_allLevels_9 : decode cX6_allLevels 9 = .ok (.getfield 7, 3) := by decide +kernel
theorem dX6_allLevels_12 : decode cX6_allLevels 12 = .ok (.iconst 3, 1) := by decide +kernel
theorem dX6_allLevels_13 : decode cX6_allLevels 13 = .ok (.iaload, 1) := by decide +kernel
theorem dX6_allLevels_14 : decode cX6_allLevels 14 = .ok (.invokevirtual 117, 3) := by decide +kernel
theorem dX6_allLevels_17 : decode cX6_allLevels 17 = .ok (.ireturn, 1) := by decide +kernel
theorem dX6_overflowLeafOf_0 : decode cX6_overflowLeafOf 0 = .ok (.iconst 0, 1) := by decide +kernel
theorem dX6_overflowLeafOf_1 : decode cX6_overflowLeafOf 1 = .ok (.istore_n 2, 1) := by decide +kernel
theorem dX6_overflowLeafOf_2 : decode cX6_overflowLeafOf 2 = .ok (.iconst 0, 1) := by decide +kernel
theorem dX6_overflowLeafOf_3 : decode cX6_overflowLeafOf 3 = .ok (.istore_n 3, 1) := by decide +kernel
theorem dX6_overflowLeafOf_4 : decode cX6_overflowLeafOf 4 = .ok (.iload_n 3, 1) := by decide +kernel
theorem dX6_overflowLeafOf_5 : decode cX6_overflowLeafOf 5 = .ok (.aload_n 0, 1) := by decide +kernel
theorem dX6_overflowLeafOf_6 : decode cX6_overflowLeafOf 6 = .ok (.getfield 7, 3) := by decide +kernel
theorem dX6_overflowLeafOf_9 : decode cX6_overflowLeafOf 9 = .ok (.bipush 7, 2) := by decide +kernel
theorem dX6_overflowLeafOf_11 : decode cX6_overflowLeafOf 11 = .ok (.iaload, 1) := by decide +kernel
theorem dX6_overflowLeafOf_12 : decode cX6_overflowLeafOf 12 = .ok (.if_icmp .ge 56, 3) := by decide +kernel
theorem dX6_overflowLeafOf_15 : decode cX6_overflowLeafOf 15 = .ok (.iload_n 2, 1) := by decide +kernel
theorem dX6_overflowLeafOf_16 : decode cX6_overflowLeafOf 16 = .ok (.aload_n 0, 1) := by decide +kernel
theorem dX6_overflowLeafOf_17 : decode cX6_overflowLeafOf 17 = .ok (.iload_n 3, 1) := by decide +kernel
theorem dX6_overflowLeafOf_18 : decode cX6_overflowLeafOf 18 = .ok (.iconst 2, 1) := by decide +kernel
theorem dX6_overflowLeafOf_19 : decode cX6_overflowLeafOf 19 = .ok (.invokevirtual 72, 3) := by decide +kernel
theorem dX6_overflowLeafOf_22 : decode cX6_overflowLeafOf 22 = .ok (.aload_n 0, 1) := by decide +kernel
theorem dX6_overflowLeafOf_23 : decode cX6_overflowLeafOf 23 = .ok (.iload_n 1, 1) := by decide +kernel
theorem dX6_overflowLeafOf_24 : decode cX6_overflowLeafOf 24 = .ok (.iconst 2, 1) := by decide +kernel
theorem dX6_overflowLeafOf_25 : decode cX6_overflowLeafOf 25 = .ok (.invokevirtual 72, 3) := by decide +kernel
theorem dX6_overflowLeafOf_28 : decode cX6_overflowLeafOf 28 = .ok (.if_icmp .ne 31, 3) := by decide +kernel
theorem dX6_overflowLeafOf_31 : decode cX6_overflowLeafOf 31 = .ok (.aload_n 0, 1) := by decide +kernel
theorem dX6_overflowLeafOf_32 : decode cX6_overflowLeafOf 32 = .ok (.iload_n 3, 1) := by decide +kernel
theorem dX6_overflowLeafOf_33 : decode cX6_overflowLeafOf 33 = .ok (.iconst 3, 1) := by decide +kernel
theorem dX6_overflowLeafOf_34 : decode cX6_overflowLeafOf 34 = .ok (.invokevirtual 72, 3) := by decide +kernel
theorem dX6_overflowLeafOf_37 : decode cX6_overflowLeafOf 37 = .ok (.ifCond .le 22, 3) := by decide +kernel
theorem dX6_overflowLeafOf_40 : decode cX6_overflowLeafOf 40 = .ok (.aload_n 0, 1) := by decide +kernel
theorem dX6_overflowLeafOf_41 : decode cX6_overflowLeafOf 41 = .ok (.iload_n 3, 1) := by decide +kernel
theorem dX6_overflowLeafOf_42 : decode cX6_overflowLeafOf 42 = .ok (.iconst 3, 1) := by decide +kernel
theorem dX6_overflowLeafOf_43 : decode cX6_overflowLeafOf 43 = .ok (.invokevirtual 72, 3) := by decide +kernel
theorem dX6_overflowLeafOf_46 : decode cX6_overflowLeafOf 46 = .ok (.aload_n 0, 1) := by decide +kernel
theorem dX6_overflowLeafOf_47 : decode cX6_overflowLeafOf 47 = .ok (.iload_n 1, 1) := by decide +kernel
theorem dX6_overflowLeafOf_48 : decode cX6_overflowLeafOf 48 = .ok (.iconst 3, 1) := by decide +kernel
theorem dX6_overflowLeafOf_49 : decode cX6_overflowLeafOf 49 = .ok (.invokevirtual 72, 3) := by decide +kernel
theorem dX6_overflowLeafOf_52 : decode cX6_overflowLeafOf 52 = .ok (.if_icmp .ge 7, 3) := by decide +kernel
theorem dX6_overflowLeafOf_55 : decode cX6_overflowLeafOf 55 = .ok (.iconst 1, 1) := by decide +kernel
theorem dX6_overflowLeafOf_56 : decode cX6_overflowLeafOf 56 = .ok (.goto 4, 3) := by decide +kernel
theorem dX6_overflowLeafOf_59 : decode cX6_overflowLeafOf 59 = .ok (.iconst 0, 1) := by decide +kernel
theorem dX6_overflowLeafOf_60 : decode cX6_overflowLeafOf 60 = .ok (.iadd, 1) := by decide +kernel
theorem dX6_overflowLeafOf_61 : decode cX6_overflowLeafOf 61 = .ok (.istore_n 2, 1) := by decide +kernel
theorem dX6_overflowLeafOf_62 : decode cX6_overflowLeafOf 62 = .ok (.iinc 3 1, 3) := by decide +kernel
theorem dX6_overflowLeafOf_65 : decode cX6_overflowLeafOf 65 = .ok (.goto (-61), 3) := by decide +kernel
theorem dX6_overflowLeafOf_68 : decode cX6_overflowLeafOf 68 = .ok (.iload_n 2, 1) := by decide +kernel
theorem dX6_overflowLeafOf_69 : decode cX6_overflowLeafOf 69 = .ok (.aload_n 0, 1) := by decide +kernel
theorem dX6_overflowLeafOf_70 : decode cX6_overflowLeafOf 70 = .ok (.getfield 7, 3) := by decide +kernel
theorem dX6_overflowLeafOf_73 : decode cX6_overflowLeafOf 73 = .ok (.iconst 2, 1) := by decide +kernel
theorem dX6_overflowLeafOf_74 : decode cX6_overflowLeafOf 74 = .ok (.iaload, 1) := by decide +kernel
theorem dX6_overflowLeafOf_75 : decode cX6_overflowLeafOf 75 = .ok (.idiv, 1) := by decide +kernel
theorem dX6_overflowLeafOf_76 : decode cX6_overflowLeafOf 76 = .ok (.iconst 1, 1) := by decide +kernel
theorem dX6_overflowLeafOf_77 : decode cX6_overflowLeafOf 77 = .ok (.iadd, 1) := by decide +kernel
theorem dX6_overflowLeafOf_78 : decode cX6_overflowLeafOf 78 = .ok (.ireturn, 1) := by decide +kernel
theorem dX6_pages_0 : decode cX6_pages 0 = .ok (.iconst 0, 1) := by decide +kernel
theorem dX6_pages_1 : decode cX6_pages 1 = .ok (.istore_n 2, 1) := by decide +kernel
theorem dX6_pages_2 : decode cX6_pages 2 = .ok (.iconst 0, 1) := by decide +kernel
theorem dX6_pages_3 : decode cX6_pages 3 = .ok (.istore_n 3, 1) := by decide +kernel
theorem dX6_pages_4 : decode cX6_pages 4 = .ok (.iload_n 3, 1) := by decide +kernel
theorem dX6_pages_5 : decode cX6_pages 5 = .ok (.aload_n 0, 1) := by decide +kernel
theorem dX6_pages_6 : decode cX6_pages 6 = .ok (.getfield 7, 3) := by decide +kernel
theorem dX6_pages_9 : decode cX6_pages 9 = .ok (.bipush 6, 2) := by decide +kernel
theorem dX6_pages_11 : decode cX6_pages 11 = .ok (.iaload, 1) := by decide +kernel
theorem dX6_pages_12 : decode cX6_pages 12 = .ok (.if_icmp .gt 37, 3) := by decide +kernel
theorem dX6_pages_15 : decode cX6_pages 15 = .ok (.iload_n 2, 1) := by decide +kernel
theorem dX6_pages_16 : decode cX6_pages 16 = .ok (.aload_n 0, 1) := by decide +kernel
theorem dX6_pages_17 : decode cX6_pages 17 = .ok (.iload_n 3, 1) := by decide +kernel
theorem dX6_pages_18 : decode cX6_pages 18 = .ok (.invokevirtual 54, 3) := by decide +kernel
theorem dX6_pages_21 : decode cX6_pages 21 = .ok (.ifCond .le 7, 3) := by decide +kernel
theorem dX6_pages_24 : decode cX6_pages 24 = .ok (.iconst 1, 1) := by decide +kernel
theorem dX6_pages_25 : decode cX6_pages 25 = .ok (.goto 4, 3) := by decide +kernel
theorem dX6_pages_28 : decode cX6_pages 28 = .ok (.iconst 0, 1) := by decide +kernel
theorem dX6_pages_29 : decode cX6_pages 29 = .ok (.iadd, 1) := by decide +kernel
theorem dX6_pages_30 : decode cX6_pages 30 = .ok (.istore_n 2, 1) := by decide +kernel
theorem dX6_pages_31 : decode cX6_pages 31 = .ok (.aload_n 0, 1) := by decide +kernel
theorem dX6_pages_32 : decode cX6_pages 32 = .ok (.iload_n 3, 1) := by decide +kernel
theorem dX6_pages_33 : decode cX6_pages 33 = .ok (.iload_n 1, 1) := by decide +kernel
theorem dX6_pages_34 : decode cX6_pages 34 = .ok (.invokevirtual 62, 3) := by decide +kernel
theorem dX6_pages_37 : decode cX6_pages 37 = .ok (.iconst (-1), 1) := by decide +kernel
theorem dX6_pages_38 : decode cX6_pages 38 = .ok (.if_icmp .eq 5, 3) := by decide +kernel
theorem dX6_pages_41 : decode cX6_pages 41 = .ok (.iload_n 2, 1) := by decide +kernel
theorem dX6_pages_42 : decode cX6_pages 42 = .ok (.ireturn, 1) := by decide +kernel
theorem dX6_pages_43 : decode cX6_pages 43 = .ok (.iinc 3 1, 3) := by decide +kernel
theorem dX6_pages_46 : decode cX6_pages 46 = .ok (.goto (-42), 3) := by decide +kernel
theorem dX6_pages_49 : decode cX6_pages 49 = .ok (.aload_n 0, 1) := by decide +kernel
theorem dX6_pages_50 : decode cX6_pages 50 = .ok (.getfield 7, 3) := by decide +kernel
theorem dX6_pages_53 : decode cX6_pages 53 = .ok (.bipush 8, 2) := by decide +kernel
theorem dX6_pages_55 : decode cX6_pages 55 = .ok (.iaload, 1) := by decide +kernel
theorem dX6_pages_56 : decode cX6_pages 56 = .ok (.ifCond .ne 5, 3) := by decide +kernel
theorem dX6_pages_59 : decode cX6_pages 59 = .ok (.iload_n 2, 1) := by decide +kernel
theorem dX6_pages_60 : decode cX6_pages 60 = .ok (.ireturn, 1) := by decide +kernel
theorem dX6_pages_61 : decode cX6_pages 61 = .ok (.aload_n 0, 1) := by decide +kernel
theorem dX6_pages_62 : decode cX6_pages 62 = .ok (.iload_n 1, 1) := by decide +kernel
theorem dX6_pages_63 : decode cX6_pages 63 = .ok (.invokevirtual 88, 3) := by decide +kernel
theorem dX6_pages_66 : decode cX6_pages 66 = .ok (.istore_n 3, 1) := by decide +kernel
theorem dX6_pages_67 : decode cX6_pages 67 = .ok (.iload_n 2, 1) := by decide +kernel
theorem dX6_pages_68 : decode cX6_pages 68 = .ok (.aload_n 0, 1) := by decide +kernel
theorem dX6_pages_69 : decode cX6_pages 69 = .ok (.invokevirtual 120, 3) := by decide +kernel
theorem dX6_pages_72 : decode cX6_pages 72 = .ok (.iconst 1, 1) := by decide +kernel
theorem dX6_pages_73 : decode cX6_pages 73 = .ok (.iadd, 1) := by decide +kernel
theorem dX6_pages_74 : decode cX6_pages 74 = .ok (.iadd, 1) := by decide +kernel
theorem dX6_pages_75 : decode cX6_pages 75 = .ok (.istore_n 2, 1) := by decide +kernel
theorem dX6_pages_76 : decode cX6_pages 76 = .ok (.iload_n 3, 1) := by decide +kernel
theorem dX6_pages_77 : decode cX6_pages 77 = .ok (.iconst (-1), 1) := by decide +kernel
theorem dX6_pages_78 : decode cX6_pages 78 = .ok (.if_icmp .ne 15, 3) := by decide +kernel
theorem dX6_pages_81 : decode cX6_pages 81 = .ok (.iload_n 2, 1) := by decide +kernel
theorem dX6_pages_82 : decode cX6_pages 82 = .ok (.aload_n 0, 1) := by decide +kernel
theorem dX6_pages_83 : decode cX6_pages 83 = .ok (.aload_n 0, 1) := by decide +kernel
theorem dX6_pages_84 : decode cX6_pages 84 = .ok (.iload_n 1, 1) := by decide +kernel
theorem dX6_pages_85 : decode cX6_pages 85 = .ok (.invokevirtual 95, 3) := by decide +kernel
theorem dX6_pages_88 : decode cX6_pages 88 = .ok (.invokevirtual 123, 3) := by decide +kernel
theorem dX6_pages_91 : decode cX6_pages 91 = .ok (.iadd, 1) := by decide +kernel
theorem dX6_pages_92 : decode cX6_pages 92 = .ok (.ireturn, 1) := by decide +kernel
theorem dX6_pages_93 : decode cX6_pages 93 = .ok (.aload_n 0, 1) := by decide +kernel
theorem dX6_pages_94 : decode cX6_pages 94 = .ok (.iload_n 3, 1) := by decide +kernel
theorem dX6_pages_95 : decode cX6_pages 95 = .ok (.iconst 3, 1) := by decide +kernel
theorem dX6_pages_96 : decode cX6_pages 96 = .ok (.invokevirtual 72, 3) := by decide +kernel
theorem dX6_pages_99 : decode cX6_pages 99 = .ok (.ifCond .ne 7, 3) := by decide +kernel
theorem dX6_pages_102 : decode cX6_pages 102 = .ok (.iload_n 2, 1) := by decide +kernel
theorem dX6_pages_103 : decode cX6_pages 103 = .ok (.goto 10, 3) := by decide +kernel
theorem dX6_pages_106 : decode cX6_pages 106 = .ok (.iload_n 2, 1) := by decide +kernel
theorem dX6_pages_107 : decode cX6_pages 107 = .ok (.aload_n 0, 1) := by decide +kernel
theorem dX6_pages_108 : decode cX6_pages 108 = .ok (.iload_n 3, 1) := by decide +kernel
theorem dX6_pages_109 : decode cX6_pages 109 = .ok (.invokevirtual 126, 3) := by decide +kernel
theorem dX6_pages_112 : decode cX6_pages 112 = .ok (.iadd, 1) := by decide +kernel
theorem dX6_pages_113 : decode cX6_pages 113 = .ok (.ireturn, 1) := by decide +kernel
theorem dX6_leavesBy_0 : decode cX6_leavesBy 0 = .ok (.iload_n 1, 1) := by decide +kernel
theorem dX6_leavesBy_1 : decode cX6_leavesBy 1 = .ok (.iload_n 2, 1) := by decide +kernel
theorem dX6_leavesBy_2 : decode cX6_leavesBy 2 = .ok (.imul, 1) := by decide +kernel
theorem dX6_leavesBy_3 : decode cX6_leavesBy 3 = .ok (.bipush 100, 2) := by decide +kernel
theorem dX6_leavesBy_5 : decode cX6_leavesBy 5 = .ok (.idiv, 1) := by decide +kernel
theorem dX6_leavesBy_6 : decode cX6_leavesBy 6 = .ok (.istore_n 3, 1) := by decide +kernel
theorem dX6_leavesBy_7 : decode cX6_leavesBy 7 = .ok (.iload_n 3, 1) := by decide +kernel
theorem dX6_leavesBy_8 : decode cX6_leavesBy 8 = .ok (.iconst 1, 1) := by decide +kernel
theorem dX6_leavesBy_9 : decode cX6_leavesBy 9 = .ok (.if_icmp .ge 7, 3) := by decide +kernel
theorem dX6_leavesBy_12 : decode cX6_leavesBy 12 = .ok (.iconst 1, 1) := by decide +kernel
theorem dX6_leavesBy_13 : decode cX6_leavesBy 13 = .ok (.goto 4, 3) := by decide +kernel
theorem dX6_leavesBy_16 : decode cX6_leavesBy 16 = .ok (.iload_n 3, 1) := by decide +kernel
theorem dX6_leavesBy_17 : decode cX6_leavesBy 17 = .ok (.istore 4, 2) := by decide +kernel
theorem dX6_leavesBy_19 : decode cX6_leavesBy 19 = .ok (.iload_n 0, 1) := by decide +kernel
theorem dX6_leavesBy_20 : decode cX6_leavesBy 20 = .ok (.iload 4, 2) := by decide +kernel
theorem dX6_leavesBy_22 : decode cX6_leavesBy 22 = .ok (.iadd, 1) := by decide +kernel
theorem dX6_leavesBy_23 : decode cX6_leavesBy 23 = .ok (.iconst 1, 1) := by decide +kernel
theorem dX6_leavesBy_24 : decode cX6_leavesBy 24 = .ok (.isub, 1) := by decide +kernel
theorem dX6_leavesBy_25 : decode cX6_leavesBy 25 = .ok (.iload 4, 2) := by decide +kernel
theorem dX6_leavesBy_27 : decode cX6_leavesBy 27 = .ok (.idiv, 1) := by decide +kernel
theorem dX6_leavesBy_28 : decode cX6_leavesBy 28 = .ok (.ireturn, 1) := by decide +kernel
theorem dX6_canBuild_0 : decode cX6_canBuild 0 = .ok (.aload_n 0, 1) := by decide +kernel
theorem dX6_canBuild_1 : decode cX6_canBuild 1 = .ok (.invokevirtual 113, 3) := by decide +kernel
theorem dX6_canBuild_4 : decode cX6_canBuild 4 = .ok (.sipush 160, 3) := by decide +kernel
theorem dX6_canBuild_7 : decode cX6_canBuild 7 = .ok (.if_icmp .gt 7, 3) := by decide +kernel
theorem dX6_canBuild_10 : decode cX6_canBuild 10 = .ok (.iconst 1, 1) := by decide +kernel
theorem dX6_canBuild_11 : decode cX6_canBuild 11 = .ok (.goto 4, 3) := by decide +kernel
theorem dX6_canBuild_14 : decode cX6_canBuild 14 = .ok (.iconst 0, 1) := by decide +kernel
theorem dX6_canBuild_15 : decode cX6_canBuild 15 = .ok (.ireturn, 1) := by decide +kernel
theorem dX6_makes_0 : decode cX6_makes 0 = .ok (.aload_n 0, 1) := by decide +kernel
theorem dX6_makes_1 : decode cX6_makes 1 = .ok (.invokevirtual 113, 3) := by decide +kernel
theorem dX6_makes_4 : decode cX6_makes 4 = .ok (.istore_n 2, 1) := by decide +kernel
theorem dX6_makes_5 : decode cX6_makes 5 = .ok (.aload_n 0, 1) := by decide +kernel
theorem dX6_makes_6 : decode cX6_makes 6 = .ok (.getfield 7, 3) := by decide +kernel
theorem dX6_makes_9 : decode cX6_makes 9 = .ok (.iconst 0, 1) := by decide +kernel
theorem dX6_makes_10 : decode cX6_makes 10 = .ok (.iaload, 1) := by decide +kernel
theorem dX6_makes_11 : decode cX6_makes 11 = .ok (.iload_n 1, 1) := by decide +kernel
theorem dX6_makes_12 : decode cX6_makes 12 = .ok (.imul, 1) := by decide +kernel
theorem dX6_makes_13 : decode cX6_makes 13 = .ok (.bipush 100, 2) := by decide +kernel
theorem dX6_makes_15 : decode cX6_makes 15 = .ok (.idiv, 1) := by decide +kernel
theorem dX6_makes_16 : decode cX6_makes 16 = .ok (.istore_n 3, 1) := by decide +kernel
theorem dX6_makes_17 : decode cX6_makes 17 = .ok (.iload_n 3, 1) := by decide +kernel
theorem dX6_makes_18 : decode cX6_makes 18 = .ok (.iconst 1, 1) := by decide +kernel
theorem dX6_makes_19 : decode cX6_makes 19 = .ok (.if_icmp .ge 7, 3) := by decide +kernel
theorem dX6_makes_22 : decode cX6_makes 22 = .ok (.iconst 1, 1) := by decide +kernel
theorem dX6_makes_23 : decode cX6_makes 23 = .ok (.goto 4, 3) := by decide +kernel
theorem dX6_makes_26 : decode cX6_makes 26 = .ok (.iload_n 3, 1) := by decide +kernel
theorem dX6_makes_27 : decode cX6_makes 27 = .ok (.istore 4, 2) := by decide +kernel
theorem dX6_makes_29 : decode cX6_makes 29 = .ok (.aload_n 0, 1) := by decide +kernel
theorem dX6_makes_30 : decode cX6_makes 30 = .ok (.getfield 7, 3) := by decide +kernel
theorem dX6_makes_33 : decode cX6_makes 33 = .ok (.iconst 2, 1) := by decide +kernel
theorem dX6_makes_34 : decode cX6_makes 34 = .ok (.aload_n 0, 1) := by decide +kernel
theorem dX6_makes_35 : decode cX6_makes 35 = .ok (.getfield 7, 3) := by decide +kernel
theorem dX6_makes_38 : decode cX6_makes 38 = .ok (.iconst 0, 1) := by decide +kernel
theorem dX6_makes_39 : decode cX6_makes 39 = .ok (.iaload, 1) := by decide +kernel
theorem dX6_makes_40 : decode cX6_makes 40 = .ok (.iastore, 1) := by decide +kernel
theorem dX6_makes_41 : decode cX6_makes 41 = .ok (.aload_n 0, 1) := by decide +kernel
theorem dX6_makes_42 : decode cX6_makes 42 = .ok (.getfield 7, 3) := by decide +kernel
theorem dX6_makes_45 : decode cX6_makes 45 = .ok (.iconst 3, 1) := by decide +kernel
theorem dX6_makes_46 : decode cX6_makes 46 = .ok (.aload_n 0, 1) := by decide +kernel
theorem dX6_makes_47 : decode cX6_makes 47 = .ok (.getfield 7, 3) := by decide +kernel
theorem dX6_makes_50 : decode cX6_makes 50 = .ok (.iconst 1, 1) := by decide +kernel
theorem dX6_makes_51 : decode cX6_makes 51 = .ok (.iaload, 1) := by decide +kernel
theorem dX6_makes_52 : decode cX6_makes 52 = .ok (.iastore, 1) := by decide +kernel
theorem dX6_makes_53 : decode cX6_makes 53 = .ok (.aload_n 0, 1) := by decide +kernel
theorem dX6_makes_54 : decode cX6_makes 54 = .ok (.getfield 7, 3) := by decide +kernel
theorem dX6_makes_57 : decode cX6_makes 57 = .ok (.iconst 4, 1) := by decide +kernel
theorem dX6_makes_58 : decode cX6_makes 58 = .ok (.dup2, 1) := by decide +kernel
theorem dX6_makes_59 : decode cX6_makes 59 = .ok (.iaload, 1) := by decide +kernel
theorem dX6_makes_60 : decode cX6_makes 60 = .ok (.iconst 1, 1) := by decide +kernel
theorem dX6_makes_61 : decode cX6_makes 61 = .ok (.iadd, 1) := by decide +kernel
theorem dX6_makes_62 : decode cX6_makes 62 = .ok (.iastore, 1) := by decide +kernel
theorem dX6_makes_63 : decode cX6_makes 63 = .ok (.aload_n 0, 1) := by decide +kernel
theorem dX6_makes_64 : decode cX6_makes 64 = .ok (.getfield 7, 3) := by decide +kernel
theorem dX6_makes_67 : decode cX6_makes 67 = .ok (.iconst 5, 1) := by decide +kernel
theorem dX6_makes_68 : decode cX6_makes 68 = .ok (.dup2, 1) := by decide +kernel
theorem dX6_makes_69 : decode cX6_makes 69 = .ok (.iaload, 1) := by decide +kernel
theorem dX6_makes_70 : decode cX6_makes 70 = .ok (.iload_n 2, 1) := by decide +kernel
theorem dX6_makes_71 : decode cX6_makes 71 = .ok (.iadd, 1) := by decide +kernel
theorem dX6_makes_72 : decode cX6_makes 72 = .ok (.iastore, 1) := by decide +kernel
theorem dX6_makes_73 : decode cX6_makes 73 = .ok (.aload_n 0, 1) := by decide +kernel
theorem dX6_makes_74 : decode cX6_makes 74 = .ok (.getfield 7, 3) := by decide +kernel
theorem dX6_makes_77 : decode cX6_makes 77 = .ok (.bipush 6, 2) := by decide +kernel
theorem dX6_makes_79 : decode cX6_makes 79 = .ok (.iconst 0, 1) := by decide +kernel
theorem dX6_makes_80 : decode cX6_makes 80 = .ok (.iastore, 1) := by decide +kernel
theorem dX6_makes_81 : decode cX6_makes 81 = .ok (.aload_n 0, 1) := by decide +kernel
theorem dX6_makes_82 : decode cX6_makes 82 = .ok (.getfield 7, 3) := by decide +kernel
theorem dX6_makes_85 : decode cX6_makes 85 = .ok (.bipush 9, 2) := by decide +kernel
theorem dX6_makes_87 : decode cX6_makes 87 = .ok (.iconst 0, 1) := by decide +kernel
theorem dX6_makes_88 : decode cX6_makes 88 = .ok (.iastore, 1) := by decide +kernel
theorem dX6_makes_89 : decode cX6_makes 89 = .ok (.aload_n 0, 1) := by decide +kernel
theorem dX6_makes_90 : decode cX6_makes 90 = .ok (.getfield 7, 3) := by decide +kernel
theorem dX6_makes_93 : decode cX6_makes 93 = .ok (.bipush 7, 2) := by decide +kernel
theorem dX6_makes_95 : decode cX6_makes 95 = .ok (.iconst 0, 1) := by decide +kernel
theorem dX6_makes_96 : decode cX6_makes 96 = .ok (.iastore, 1) := by decide +kernel
theorem dX6_makes_97 : decode cX6_makes 97 = .ok (.aload_n 0, 1) := by decide +kernel
theorem dX6_makes_98 : decode cX6_makes 98 = .ok (.getfield 7, 3) := by decide +kernel
theorem dX6_makes_101 : decode cX6_makes 101 = .ok (.bipush 8, 2) := by decide +kernel
theorem dX6_makes_103 : decode cX6_makes 103 = .ok (.iconst 0, 1) := by decide +kernel
theorem dX6_makes_104 : decode cX6_makes 104 = .ok (.iastore, 1) := by decide +kernel
theorem dX6_makes_105 : decode cX6_makes 105 = .ok (.iconst 0, 1) := by decide +kernel
theorem dX6_makes_106 : decode cX6_makes 106 = .ok (.istore 5, 2) := by decide +kernel
theorem dX6_makes_108 : decode cX6_makes 108 = .ok (.iload 5, 2) := by decide +kernel
theorem dX6_makes_110 : decode cX6_makes 110 = .ok (.iload_n 2, 1) := by decide +kernel
theorem dX6_makes_111 : decode cX6_makes 111 = .ok (.if_icmp .ge 96, 3) := by decide +kernel
theorem dX6_makes_114 : decode cX6_makes 114 = .ok (.iload 5, 2) := by decide +kernel
theorem dX6_makes_116 : decode cX6_makes 116 = .ok (.iload 4, 2) := by decide +kernel
theorem dX6_makes_118 : decode cX6_makes 118 = .ok (.irem, 1) := by decide +kernel
theorem dX6_makes_119 : decode cX6_makes 119 = .ok (.ifCond .ne 48, 3) := by decide +kernel
theorem dX6_makes_122 : decode cX6_makes 122 = .ok (.aload_n 0, 1) := by decide +kernel
theorem dX6_makes_123 : decode cX6_makes 123 = .ok (.getfield 7, 3) := by decide +kernel
theorem dX6_makes_126 : decode cX6_makes 126 = .ok (.sipush 1496, 3) := by decide +kernel
theorem dX6_makes_129 : decode cX6_makes 129 = .ok (.aload_n 0, 1) := by decide +kernel
theorem dX6_makes_130 : decode cX6_makes 130 = .ok (.getfield 7, 3) := by decide +kernel
theorem dX6_makes_133 : decode cX6_makes 133 = .ok (.bipush 8, 2) := by decide +kernel
theorem dX6_makes_135 : decode cX6_makes 135 = .ok (.iaload, 1) := by decide +kernel
theorem dX6_makes_136 : decode cX6_makes 136 = .ok (.iadd, 1) := by decide +kernel
theorem dX6_makes_137 : decode cX6_makes 137 = .ok (.iload 5, 2) := by decide +kernel
theorem dX6_makes_139 : decode cX6_makes 139 = .ok (.ifCond .ne 7, 3) := by decide +kernel
theorem dX6_makes_142 : decode cX6_makes 142 = .ok (.iconst 0, 1) := by decide +kernel
theorem dX6_makes_143 : decode cX6_makes 143 = .ok (.goto 12, 3) := by decide +kernel
theorem dX6_makes_146 : decode cX6_makes 146 = .ok (.aload_n 0, 1) := by decide +kernel
theorem dX6_makes_147 : decode cX6_makes 147 = .ok (.getfield 29, 3) := by decide +kernel
theorem dX6_makes_150 : decode cX6_makes 150 = .ok (.iconst 2, 1) := by decide +kernel
theorem dX6_makes_151 : decode cX6_makes 151 = .ok (.iload 5, 2) := by decide +kernel
theorem dX6_makes_153 : decode cX6_makes 153 = .ok (.imul, 1) := by decide +kernel
theorem dX6_makes_154 : decode cX6_makes 154 = .ok (.iaload, 1) := by decide +kernel
theorem dX6_makes_155 : decode cX6_makes 155 = .ok (.iastore, 1) := by decide +kernel
theorem dX6_makes_156 : decode cX6_makes 156 = .ok (.aload_n 0, 1) := by decide +kernel
theorem dX6_makes_157 : decode cX6_makes 157 = .ok (.getfield 7, 3) := by decide +kernel
theorem dX6_makes_160 : decode cX6_makes 160 = .ok (.bipush 8, 2) := by decide +kernel
theorem dX6_makes_162 : decode cX6_makes 162 = .ok (.dup2, 1) := by decide +kernel
theorem dX6_makes_163 : decode cX6_makes 163 = .ok (.iaload, 1) := by decide +kernel
theorem dX6_makes_164 : decode cX6_makes 164 = .ok (.iconst 1, 1) := by decide +kernel
theorem dX6_makes_165 : decode cX6_makes 165 = .ok (.iadd, 1) := by decide +kernel
theorem dX6_makes_166 : decode cX6_makes 166 = .ok (.iastore, 1) := by decide +kernel
theorem dX6_makes_167 : decode cX6_makes 167 = .ok (.aload_n 0, 1) := by decide +kernel
theorem dX6_makes_168 : decode cX6_makes 168 = .ok (.aload_n 0, 1) := by decide +kernel
theorem dX6_makes_169 : decode cX6_makes 169 = .ok (.getfield 29, 3) := by decide +kernel
theorem dX6_makes_172 : decode cX6_makes 172 = .ok (.iconst 2, 1) := by decide +kernel
theorem dX6_makes_173 : decode cX6_makes 173 = .ok (.iload 5, 2) := by decide +kernel
theorem dX6_makes_175 : decode cX6_makes 175 = .ok (.imul, 1) := by decide +kernel
theorem dX6_makes_176 : decode cX6_makes 176 = .ok (.iaload, 1) := by decide +kernel
theorem dX6_makes_177 : decode cX6_makes 177 = .ok (.aload_n 0, 1) := by decide +kernel
theorem dX6_makes_178 : decode cX6_makes 178 = .ok (.getfield 29, 3) := by decide +kernel
theorem dX6_makes_181 : decode cX6_makes 181 = .ok (.iconst 2, 1) := by decide +kernel
theorem dX6_makes_182 : decode cX6_makes 182 = .ok (.iload 5, 2) := by decide +kernel
theorem dX6_makes_184 : decode cX6_makes 184 = .ok (.imul, 1) := by decide +kernel
theorem dX6_makes_185 : decode cX6_makes 185 = .ok (.iconst 1, 1) := by decide +kernel
theorem dX6_makes_186 : decode cX6_makes 186 = .ok (.iadd, 1) := by decide +kernel
theorem dX6_makes_187 : decode cX6_makes 187 = .ok (.iaload, 1) := by decide +kernel
theorem dX6_makes_188 : decode cX6_makes 188 = .ok (.aload_n 0, 1) := by decide +kernel
theorem dX6_makes_189 : decode cX6_makes 189 = .ok (.getfield 7, 3) := by decide +kernel
theorem dX6_makes_192 : decode cX6_makes 192 = .ok (.bipush 8, 2) := by decide +kernel
theorem dX6_makes_194 : decode cX6_makes 194 = .ok (.iaload, 1) := by decide +kernel
theorem dX6_makes_195 : decode cX6_makes 195 = .ok (.iconst 1, 1) := by decide +kernel
theorem dX6_makes_196 : decode cX6_makes 196 = .ok (.isub, 1) := by decide +kernel
theorem dX6_makes_197 : decode cX6_makes 197 = .ok (.iconst 0, 1) := by decide +kernel
theorem dX6_makes_198 : decode cX6_makes 198 = .ok (.invokevirtual 81, 3) := by decide +kernel
theorem dX6_makes_201 : decode cX6_makes 201 = .ok (.iinc 5 1, 3) := by decide +kernel
theorem dX6_makes_204 : decode cX6_makes 204 = .ok (.goto (-96), 3) := by decide +kernel
theorem dX6_makes_207 : decode cX6_makes 207 = .ok (.aload_n 0, 1) := by decide +kernel
theorem dX6_makes_208 : decode cX6_makes 208 = .ok (.getfield 7, 3) := by decide +kernel
theorem dX6_makes_211 : decode cX6_makes 211 = .ok (.bipush 8, 2) := by decide +kernel
theorem dX6_makes_213 : decode cX6_makes 213 = .ok (.iaload, 1) := by decide +kernel
theorem dX6_makes_214 : decode cX6_makes 214 = .ok (.ireturn, 1) := by decide +kernel
theorem dX6_put_0 : decode cX6_put 0 = .ok (.aload_n 0, 1) := by decide +kernel
theorem dX6_put_1 : decode cX6_put 1 = .ok (.iload_n 1, 1) := by decide +kernel
theorem dX6_put_2 : decode cX6_put 2 = .ok (.invokestatic 129, 3) := by decide +kernel
theorem dX6_put_5 : decode cX6_put 5 = .ok (.ifCond .eq 10, 3) := by decide +kernel
theorem dX6_put_8 : decode cX6_put 8 = .ok (.iload_n 2, 1) := by decide +kernel
theorem dX6_put_9 : decode cX6_put 9 = .ok (.invokestatic 133, 3) := by decide +kernel
theorem dX6_put_12 : decode cX6_put 12 = .ok (.ifCond .ne 7, 3) := by decide +kernel
theorem dX6_put_15 : decode cX6_put 15 = .ok (.iconst 1, 1) := by decide +kernel
theorem dX6_put_16 : decode cX6_put 16 = .ok (.goto 16, 3) := by decide +kernel
theorem dX6_put_19 : decode cX6_put 19 = .ok (.aload_n 0, 1) := by decide +kernel
theorem dX6_put_20 : decode cX6_put 20 = .ok (.iload_n 1, 1) := by decide +kernel
theorem dX6_put_21 : decode cX6_put 21 = .ok (.invokevirtual 136, 3) := by decide +kernel
theorem dX6_put_24 : decode cX6_put 24 = .ok (.ifCond .eq 7, 3) := by decide +kernel
theorem dX6_put_27 : decode cX6_put 27 = .ok (.iconst 0, 1) := by decide +kernel
theorem dX6_put_28 : decode cX6_put 28 = .ok (.goto 4, 3) := by decide +kernel
theorem dX6_put_31 : decode cX6_put 31 = .ok (.iconst 2, 1) := by decide +kernel
theorem dX6_put_32 : decode cX6_put 32 = .ok (.putfield 38, 3) := by decide +kernel
theorem dX6_put_35 : decode cX6_put 35 = .ok (.aload_n 0, 1) := by decide +kernel
theorem dX6_put_36 : decode cX6_put 36 = .ok (.getfield 38, 3) := by decide +kernel
theorem dX6_put_39 : decode cX6_put 39 = .ok (.ifCond .le 5, 3) := by decide +kernel
theorem dX6_put_42 : decode cX6_put 42 = .ok (.iconst 0, 1) := by decide +kernel
theorem dX6_put_43 : decode cX6_put 43 = .ok (.ireturn, 1) := by decide +kernel
theorem dX6_put_44 : decode cX6_put 44 = .ok (.aload_n 0, 1) := by decide +kernel
theorem dX6_put_45 : decode cX6_put 45 = .ok (.aload_n 0, 1) := by decide +kernel
theorem dX6_put_46 : decode cX6_put 46 = .ok (.getfield 7, 3) := by decide +kernel
theorem dX6_put_49 : decode cX6_put 49 = .ok (.invokevirtual 139, 3) := by decide +kernel
theorem dX6_put_52 : decode cX6_put 52 = .ok (.aload_n 0, 1) := by decide +kernel
theorem dX6_put_53 : decode cX6_put 53 = .ok (.iload_n 1, 1) := by decide +kernel
theorem dX6_put_54 : decode cX6_put 54 = .ok (.iload_n 2, 1) := by decide +kernel
theorem dX6_put_55 : decode cX6_put 55 = .ok (.invokevirtual 143, 3) := by decide +kernel
theorem dX6_put_58 : decode cX6_put 58 = .ok (.ireturn, 1) := by decide +kernel
theorem dX6_drop_0 : decode cX6_drop 0 = .ok (.aload_n 0, 1) := by decide +kernel
theorem dX6_drop_1 : decode cX6_drop 1 = .ok (.iload_n 1, 1) := by decide +kernel
theorem dX6_drop_2 : decode cX6_drop 2 = .ok (.invokestatic 129, 3) := by decide +kernel
theorem dX6_drop_5 : decode cX6_drop 5 = .ok (.ifCond .ne 7, 3) := by decide +kernel
theorem dX6_drop_8 : decode cX6_drop 8 = .ok (.iconst 1, 1) := by decide +kernel
theorem dX6_drop_9 : decode cX6_drop 9 = .ok (.goto 16, 3) := by decide +kernel
theorem dX6_drop_12 : decode cX6_drop 12 = .ok (.aload_n 0, 1) := by decide +kernel
theorem dX6_drop_13 : decode cX6_drop 13 = .ok (.iload_n 1, 1) := by decide +kernel
theorem dX6_drop_14 : decode cX6_drop 14 = .ok (.invokevirtual 136, 3) := by decide +kernel
theorem dX6_drop_17 : decode cX6_drop 17 = .ok (.ifCond .eq 7, 3) := by decide +kernel
theorem dX6_drop_20 : decode cX6_drop 20 = .ok (.iconst 0, 1) := by decide +kernel
theorem dX6_drop_21 : decode cX6_drop 21 = .ok (.goto 4, 3) := by decide +kernel
theorem dX6_drop_24 : decode cX6_drop 24 = .ok (.iconst 2, 1) := by decide +kernel
theorem dX6_drop_25 : decode cX6_drop 25 = .ok (.putfield 38, 3) := by decide +kernel
theorem dX6_drop_28 : decode cX6_drop 28 = .ok (.aload_n 0, 1) := by decide +kernel
theorem dX6_drop_29 : decode cX6_drop 29 = .ok (.getfield 38, 3) := by decide +kernel
theorem dX6_drop_32 : decode cX6_drop 32 = .ok (.ifCond .le 5, 3) := by decide +kernel
theorem dX6_drop_35 : decode cX6_drop 35 = .ok (.iconst 0, 1) := by decide +kernel
theorem dX6_drop_36 : decode cX6_drop 36 = .ok (.ireturn, 1) := by decide +kernel
theorem dX6_drop_37 : decode cX6_drop 37 = .ok (.aload_n 0, 1) := by decide +kernel
theorem dX6_drop_38 : decode cX6_drop 38 = .ok (.aload_n 0, 1) := by decide +kernel
theorem dX6_drop_39 : decode cX6_drop 39 = .ok (.getfield 7, 3) := by decide +kernel
theorem dX6_drop_42 : decode cX6_drop 42 = .ok (.invokevirtual 139, 3) := by decide +kernel
theorem dX6_drop_45 : decode cX6_drop 45 = .ok (.aload_n 0, 1) := by decide +kernel
theorem dX6_drop_46 : decode cX6_drop 46 = .ok (.iload_n 1, 1) := by decide +kernel
theorem dX6_drop_47 : decode cX6_drop 47 = .ok (.iconst (-1), 1) := by decide +kernel
theorem dX6_drop_48 : decode cX6_drop 48 = .ok (.invokevirtual 143, 3) := by decide +kernel
theorem dX6_drop_51 : decode cX6_drop 51 = .ok (.ireturn, 1) := by decide +kernel
theorem dX6_closeRun_0 : decode cX6_closeRun 0 = .ok (.aload_n 0, 1) := by decide +kernel
theorem dX6_closeRun_1 : decode cX6_closeRun 1 = .ok (.aload_n 0, 1) := by decide +kernel
theorem dX6_closeRun_2 : decode cX6_closeRun 2 = .ok (.invokevirtual 146, 3) := by decide +kernel
theorem dX6_closeRun_5 : decode cX6_closeRun 5 = .ok (.ifCond .eq 7, 3) := by decide +kernel
theorem dX6_closeRun_8 : decode cX6_closeRun 8 = .ok (.iconst 0, 1) := by decide +kernel
theorem dX6_closeRun_9 : decode cX6_closeRun 9 = .ok (.goto 4, 3) := by decide +kernel
theorem dX6_closeRun_12 : decode cX6_closeRun 12 = .ok (.iconst 1, 1) := by decide +kernel
theorem dX6_closeRun_13 : decode cX6_closeRun 13 = .ok (.putfield 38, 3) := by decide +kernel
theorem dX6_closeRun_16 : decode cX6_closeRun 16 = .ok (.aload_n 0, 1) := by decide +kernel
theorem dX6_closeRun_17 : decode cX6_closeRun 17 = .ok (.getfield 38, 3) := by decide +kernel
theorem dX6_closeRun_20 : decode cX6_closeRun 20 = .ok (.ifCond .le 5, 3) := by decide +kernel
theorem dX6_closeRun_23 : decode cX6_closeRun 23 = .ok (.iconst 0, 1) := by decide +kernel
theorem dX6_closeRun_24 : decode cX6_closeRun 24 = .ok (.ireturn, 1) := by decide +kernel
theorem dX6_closeRun_25 : decode cX6_closeRun 25 = .ok (.aload_n 0, 1) := by decide +kernel
theorem dX6_closeRun_26 : decode cX6_closeRun 26 = .ok (.aload_n 0, 1) := by decide +kernel
theorem dX6_closeRun_27 : decode cX6_closeRun 27 = .ok (.getfield 7, 3) := by decide +kernel
theorem dX6_closeRun_30 : decode cX6_closeRun 30 = .ok (.invokevirtual 139, 3) := by decide +kernel
theorem dX6_closeRun_33 : decode cX6_closeRun 33 = .ok (.aload_n 0, 1) := by decide +kernel
theorem dX6_closeRun_34 : decode cX6_closeRun 34 = .ok (.invokevirtual 150, 3) := by decide +kernel
theorem dX6_closeRun_37 : decode cX6_closeRun 37 = .ok (.ireturn, 1) := by decide +kernel
theorem dX6_mergeRuns_0 : decode cX6_mergeRuns 0 = .ok (.aload_n 0, 1) := by decide +kernel
theorem dX6_mergeRuns_1 : decode cX6_mergeRuns 1 = .ok (.aload_n 0, 1) := by decide +kernel
theorem dX6_mergeRuns_2 : decode cX6_mergeRuns 2 = .ok (.getfield 7, 3) := by decide +kernel
theorem dX6_mergeRuns_5 : decode cX6_mergeRuns 5 = .ok (.bipush 6, 2) := by decide +kernel
theorem dX6_mergeRuns_7 : decode cX6_mergeRuns 7 = .ok (.iaload, 1) := by decide +kernel
theorem dX6_mergeRuns_8 : decode cX6_mergeRuns 8 = .ok (.iconst 2, 1) := by decide +kernel
theorem dX6_mergeRuns_9 : decode cX6_mergeRuns 9 = .ok (.if_icmp .lt 12, 3) := by decide +kernel
theorem dX6_mergeRuns_12 : decode cX6_mergeRuns 12 = .ok (.aload_n 0, 1) := by decide +kernel
theorem dX6_mergeRuns_13 : decode cX6_mergeRuns 13 = .ok (.invokevirtual 153, 3) := by decide +kernel
theorem dX6_mergeRuns_16 : decode cX6_mergeRuns 16 = .ok (.bipush 60, 2) := by decide +kernel
theorem dX6_mergeRuns_18 : decode cX6_mergeRuns 18 = .ok (.if_icmp .le 7, 3) := by decide +kernel
theorem dX6_mergeRuns_21 : decode cX6_mergeRuns 21 = .ok (.iconst 1, 1) := by decide +kernel
theorem dX6_mergeRuns_22 : decode cX6_mergeRuns 22 = .ok (.goto 4, 3) := by decide +kernel
theorem dX6_mergeRuns_25 : decode cX6_mergeRuns 25 = .ok (.iconst 0, 1) := by decide +kernel
theorem dX6_mergeRuns_26 : decode cX6_mergeRuns 26 = .ok (.putfield 38, 3) := by decide +kernel
theorem dX6_mergeRuns_29 : decode cX6_mergeRuns 29 = .ok (.aload_n 0, 1) := by decide +kernel
theorem dX6_mergeRuns_30 : decode cX6_mergeRuns 30 = .ok (.getfield 38, 3) := by decide +kernel
theorem dX6_mergeRuns_33 : decode cX6_mergeRuns 33 = .ok (.ifCond .le 5, 3) := by decide +kernel
theorem dX6_mergeRuns_36 : decode cX6_mergeRuns 36 = .ok (.iconst 0, 1) := by decide +kernel
theorem dX6_mergeRuns_37 : decode cX6_mergeRuns 37 = .ok (.ireturn, 1) := by decide +kernel
theorem dX6_mergeRuns_38 : decode cX6_mergeRuns 38 = .ok (.aload_n 0, 1) := by decide +kernel
theorem dX6_mergeRuns_39 : decode cX6_mergeRuns 39 = .ok (.aload_n 0, 1) := by decide +kernel
theorem dX6_mergeRuns_40 : decode cX6_mergeRuns 40 = .ok (.getfield 7, 3) := by decide +kernel
theorem dX6_mergeRuns_43 : decode cX6_mergeRuns 43 = .ok (.invokevirtual 139, 3) := by decide +kernel
theorem dX6_mergeRuns_46 : decode cX6_mergeRuns 46 = .ok (.aload_n 0, 1) := by decide +kernel
theorem dX6_mergeRuns_47 : decode cX6_mergeRuns 47 = .ok (.invokevirtual 156, 3) := by decide +kernel
theorem dX6_mergeRuns_50 : decode cX6_mergeRuns 50 = .ok (.ireturn, 1) := by decide +kernel
theorem dX6_isFill_0 : decode cX6_isFill 0 = .ok (.iload_n 0, 1) := by decide +kernel
theorem dX6_isFill_1 : decode cX6_isFill 1 = .ok (.bipush 50, 2) := by decide +kernel
theorem dX6_isFill_3 : decode cX6_isFill 3 = .ok (.bipush 100, 2) := by decide +kernel
theorem dX6_isFill_5 : decode cX6_isFill 5 = .ok (.invokestatic 50, 3) := by decide +kernel
theorem dX6_isFill_8 : decode cX6_isFill 8 = .ok (.ireturn, 1) := by decide +kernel
theorem dX6_build_0 : decode cX6_build 0 = .ok (.aload_n 0, 1) := by decide +kernel
theorem dX6_build_1 : decode cX6_build 1 = .ok (.iload_n 1, 1) := by decide +kernel
theorem dX6_build_2 : decode cX6_build 2 = .ok (.invokestatic 159, 3) := by decide +kernel
theorem dX6_build_5 : decode cX6_build 5 = .ok (.ifCond .ne 7, 3) := by decide +kernel
theorem dX6_build_8 : decode cX6_build 8 = .ok (.iconst 1, 1) := by decide +kernel
theorem dX6_build_9 : decode cX6_build 9 = .ok (.goto 15, 3) := by decide +kernel
theorem dX6_build_12 : decode cX6_build 12 = .ok (.aload_n 0, 1) := by decide +kernel
theorem dX6_build_13 : decode cX6_build 13 = .ok (.invokevirtual 162, 3) := by decide +kernel
theorem dX6_build_16 : decode cX6_build 16 = .ok (.ifCond .eq 7, 3) := by decide +kernel
theorem dX6_build_19 : decode cX6_build 19 = .ok (.iconst 0, 1) := by decide +kernel
theorem dX6_build_20 : decode cX6_build 20 = .ok (.goto 4, 3) := by decide +kernel
theorem dX6_build_23 : decode cX6_build 23 = .ok (.iconst 2, 1) := by decide +kernel
theorem dX6_build_24 : decode cX6_build 24 = .ok (.putfield 38, 3) := by decide +kernel
theorem dX6_build_27 : decode cX6_build 27 = .ok (.aload_n 0, 1) := by decide +kernel
theorem dX6_build_28 : decode cX6_build 28 = .ok (.getfield 38, 3) := by decide +kernel
theorem dX6_build_31 : decode cX6_build 31 = .ok (.ifCond .le 5, 3) := by decide +kernel
theorem dX6_build_34 : decode cX6_build 34 = .ok (.iconst 0, 1) := by decide +kernel
theorem dX6_build_35 : decode cX6_build 35 = .ok (.ireturn, 1) := by decide +kernel
theorem dX6_build_36 : decode cX6_build 36 = .ok (.aload_n 0, 1) := by decide +kernel
theorem dX6_build_37 : decode cX6_build 37 = .ok (.aload_n 0, 1) := by decide +kernel
theorem dX6_build_38 : decode cX6_build 38 = .ok (.getfield 7, 3) := by decide +kernel
theorem dX6_build_41 : decode cX6_build 41 = .ok (.invokevirtual 139, 3) := by decide +kernel
theorem dX6_build_44 : decode cX6_build 44 = .ok (.aload_n 0, 1) := by decide +kernel
theorem dX6_build_45 : decode cX6_build 45 = .ok (.iload_n 1, 1) := by decide +kernel
theorem dX6_build_46 : decode cX6_build 46 = .ok (.invokevirtual 165, 3) := by decide +kernel
theorem dX6_build_49 : decode cX6_build 49 = .ok (.ireturn, 1) := by decide +kernel
theorem dX6_insert_0 : decode cX6_insert 0 = .ok (.aload_n 0, 1) := by decide +kernel
theorem dX6_insert_1 : decode cX6_insert 1 = .ok (.iload_n 1, 1) := by decide +kernel
theorem dX6_insert_2 : decode cX6_insert 2 = .ok (.invokestatic 129, 3) := by decide +kernel
theorem dX6_insert_5 : decode cX6_insert 5 = .ok (.ifCond .eq 10, 3) := by decide +kernel
theorem dX6_insert_8 : decode cX6_insert 8 = .ok (.iload_n 2, 1) := by decide +kernel
theorem dX6_insert_9 : decode cX6_insert 9 = .ok (.invokestatic 133, 3) := by decide +kernel
theorem dX6_insert_12 : decode cX6_insert 12 = .ok (.ifCond .ne 7, 3) := by decide +kernel
theorem dX6_insert_15 : decode cX6_insert 15 = .ok (.iconst 1, 1) := by decide +kernel
theorem dX6_insert_16 : decode cX6_insert 16 = .ok (.goto 16, 3) := by decide +kernel
theorem dX6_insert_19 : decode cX6_insert 19 = .ok (.aload_n 0, 1) := by decide +kernel
theorem dX6_insert_20 : decode cX6_insert 20 = .ok (.iload_n 1, 1) := by decide +kernel
theorem dX6_insert_21 : decode cX6_insert 21 = .ok (.invokevirtual 168, 3) := by decide +kernel
theorem dX6_insert_24 : decode cX6_insert 24 = .ok (.ifCond .eq 7, 3) := by decide +kernel
theorem dX6_insert_27 : decode cX6_insert 27 = .ok (.iconst 0, 1) := by decide +kernel
theorem dX6_insert_28 : decode cX6_insert 28 = .ok (.goto 4, 3) := by decide +kernel
theorem dX6_insert_31 : decode cX6_insert 31 = .ok (.iconst 2, 1) := by decide +kernel
theorem dX6_insert_32 : decode cX6_insert 32 = .ok (.putfield 38, 3) := by decide +kernel
theorem dX6_insert_35 : decode cX6_insert 35 = .ok (.aload_n 0, 1) := by decide +kernel
theorem dX6_insert_36 : decode cX6_insert 36 = .ok (.getfield 38, 3) := by decide +kernel
theorem dX6_insert_39 : decode cX6_insert 39 = .ok (.ifCond .le 5, 3) := by decide +kernel
theorem dX6_insert_42 : decode cX6_insert 42 = .ok (.iconst 0, 1) := by decide +kernel
theorem dX6_insert_43 : decode cX6_insert 43 = .ok (.ireturn, 1) := by decide +kernel
theorem dX6_insert_44 : decode cX6_insert 44 = .ok (.aload_n 0, 1) := by decide +kernel
theorem dX6_insert_45 : decode cX6_insert 45 = .ok (.aload_n 0, 1) := by decide +kernel
theorem dX6_insert_46 : decode cX6_insert 46 = .ok (.getfield 7, 3) := by decide +kernel
theorem dX6_insert_49 : decode cX6_insert 49 = .ok (.invokevirtual 139, 3) := by decide +kernel
theorem dX6_insert_52 : decode cX6_insert 52 = .ok (.aload_n 0, 1) := by decide +kernel
theorem dX6_insert_53 : decode cX6_insert 53 = .ok (.iload_n 1, 1) := by decide +kernel
theorem dX6_insert_54 : decode cX6_insert 54 = .ok (.iload_n 2, 1) := by decide +kernel
theorem dX6_insert_55 : decode cX6_insert 55 = .ok (.invokevirtual 171, 3) := by decide +kernel
theorem dX6_insert_58 : decode cX6_insert 58 = .ok (.ireturn, 1) := by decide +kernel
theorem dX6_erase_0 : decode cX6_erase 0 = .ok (.aload_n 0, 1) := by decide +kernel
theorem dX6_erase_1 : decode cX6_erase 1 = .ok (.iload_n 1, 1) := by decide +kernel
theorem dX6_erase_2 : decode cX6_erase 2 = .ok (.invokestatic 129, 3) := by decide +kernel
theorem dX6_erase_5 : decode cX6_erase 5 = .ok (.ifCond .ne 7, 3) := by decide +kernel
theorem dX6_erase_8 : decode cX6_erase 8 = .ok (.iconst 1, 1) := by decide +kernel
theorem dX6_erase_9 : decode cX6_erase 9 = .ok (.goto 16, 3) := by decide +kernel
theorem dX6_erase_12 : decode cX6_erase 12 = .ok (.aload_n 0, 1) := by decide +kernel
theorem dX6_erase_13 : decode cX6_erase 13 = .ok (.iload_n 1, 1) := by decide +kernel
theorem dX6_erase_14 : decode cX6_erase 14 = .ok (.invokevirtual 174, 3) := by decide +kernel
theorem dX6_erase_17 : decode cX6_erase 17 = .ok (.ifCond .eq 7, 3) := by decide +kernel
theorem dX6_erase_20 : decode cX6_erase 20 = .ok (.iconst 0, 1) := by decide +kernel
theorem dX6_erase_21 : decode cX6_erase 21 = .ok (.goto 4, 3) := by decide +kernel
theorem dX6_erase_24 : decode cX6_erase 24 = .ok (.iconst 2, 1) := by decide +kernel
theorem dX6_erase_25 : decode cX6_erase 25 = .ok (.putfield 38, 3) := by decide +kernel
theorem dX6_erase_28 : decode cX6_erase 28 = .ok (.aload_n 0, 1) := by decide +kernel
theorem dX6_erase_29 : decode cX6_erase 29 = .ok (.getfield 38, 3) := by decide +kernel
theorem dX6_erase_32 : decode cX6_erase 32 = .ok (.ifCond .le 5, 3) := by decide +kernel
theorem dX6_erase_35 : decode cX6_erase 35 = .ok (.iconst 0, 1) := by decide +kernel
theorem dX6_erase_36 : decode cX6_erase 36 = .ok (.ireturn, 1) := by decide +kernel
theorem dX6_erase_37 : decode cX6_erase 37 = .ok (.aload_n 0, 1) := by decide +kernel
theorem dX6_erase_38 : decode cX6_erase 38 = .ok (.aload_n 0, 1) := by decide +kernel
theorem dX6_erase_39 : decode cX6_erase 39 = .ok (.getfield 7, 3) := by decide +kernel
theorem dX6_erase_42 : decode cX6_erase 42 = .ok (.invokevirtual 139, 3) := by decide +kernel
theorem dX6_erase_45 : decode cX6_erase 45 = .ok (.aload_n 0, 1) := by decide +kernel
theorem dX6_erase_46 : decode cX6_erase 46 = .ok (.iload_n 1, 1) := by decide +kernel
theorem dX6_erase_47 : decode cX6_erase 47 = .ok (.invokevirtual 177, 3) := by decide +kernel
theorem dX6_erase_50 : decode cX6_erase 50 = .ok (.ireturn, 1) := by decide +kernel
theorem dX6_becomes_0 : decode cX6_becomes 0 = .ok (.aload_n 0, 1) := by decide +kernel
theorem dX6_becomes_1 : decode cX6_becomes 1 = .ok (.iload_n 2, 1) := by decide +kernel
theorem dX6_becomes_2 : decode cX6_becomes 2 = .ok (.iconst 2, 1) := by decide +kernel
theorem dX6_becomes_3 : decode cX6_becomes 3 = .ok (.iload_n 3, 1) := by decide +kernel
theorem dX6_becomes_4 : decode cX6_becomes 4 = .ok (.invokestatic 50, 3) := by decide +kernel
theorem dX6_becomes_7 : decode cX6_becomes 7 = .ok (.ifCond .eq 7, 3) := by decide +kernel
theorem dX6_becomes_10 : decode cX6_becomes 10 = .ok (.iconst 0, 1) := by decide +kernel
theorem dX6_becomes_11 : decode cX6_becomes 11 = .ok (.goto 4, 3) := by decide +kernel
theorem dX6_becomes_14 : decode cX6_becomes 14 = .ok (.iconst 1, 1) := by decide +kernel
theorem dX6_becomes_15 : decode cX6_becomes 15 = .ok (.putfield 38, 3) := by decide +kernel
theorem dX6_becomes_18 : decode cX6_becomes 18 = .ok (.aload_n 0, 1) := by decide +kernel
theorem dX6_becomes_19 : decode cX6_becomes 19 = .ok (.getfield 38, 3) := by decide +kernel
theorem dX6_becomes_22 : decode cX6_becomes 22 = .ok (.ifCond .le 5, 3) := by decide +kernel
theorem dX6_becomes_25 : decode cX6_becomes 25 = .ok (.iconst 0, 1) := by decide +kernel
theorem dX6_becomes_26 : decode cX6_becomes 26 = .ok (.ireturn, 1) := by decide +kernel
theorem dX6_becomes_27 : decode cX6_becomes 27 = .ok (.aload_n 0, 1) := by decide +kernel
theorem dX6_becomes_28 : decode cX6_becomes 28 = .ok (.aload_n 0, 1) := by decide +kernel
theorem dX6_becomes_29 : decode cX6_becomes 29 = .ok (.getfield 7, 3) := by decide +kernel
theorem dX6_becomes_32 : decode cX6_becomes 32 = .ok (.invokevirtual 139, 3) := by decide +kernel
theorem dX6_becomes_35 : decode cX6_becomes 35 = .ok (.aload_n 0, 1) := by decide +kernel
theorem dX6_becomes_36 : decode cX6_becomes 36 = .ok (.getfield 7, 3) := by decide +kernel
theorem dX6_becomes_39 : decode cX6_becomes 39 = .ok (.iload_n 1, 1) := by decide +kernel
theorem dX6_becomes_40 : decode cX6_becomes 40 = .ok (.iaload, 1) := by decide +kernel
theorem dX6_becomes_41 : decode cX6_becomes 41 = .ok (.istore 4, 2) := by decide +kernel
theorem dX6_becomes_43 : decode cX6_becomes 43 = .ok (.aload_n 0, 1) := by decide +kernel
theorem dX6_becomes_44 : decode cX6_becomes 44 = .ok (.getfield 7, 3) := by decide +kernel
theorem dX6_becomes_47 : decode cX6_becomes 47 = .ok (.iload_n 1, 1) := by decide +kernel
theorem dX6_becomes_48 : decode cX6_becomes 48 = .ok (.iload_n 2, 1) := by decide +kernel
theorem dX6_becomes_49 : decode cX6_becomes 49 = .ok (.iastore, 1) := by decide +kernel
theorem dX6_becomes_50 : decode cX6_becomes 50 = .ok (.iload 4, 2) := by decide +kernel
theorem dX6_becomes_52 : decode cX6_becomes 52 = .ok (.ireturn, 1) := by decide +kernel
theorem dX6_changeLeaf_0 : decode cX6_changeLeaf 0 = .ok (.aload_n 0, 1) := by decide +kernel
theorem dX6_changeLeaf_1 : decode cX6_changeLeaf 1 = .ok (.iconst 0, 1) := by decide +kernel
theorem dX6_changeLeaf_2 : decode cX6_changeLeaf 2 = .ok (.iload_n 1, 1) := by decide +kernel
theorem dX6_changeLeaf_3 : decode cX6_changeLeaf 3 = .ok (.bipush 8, 2) := by decide +kernel
theorem dX6_changeLeaf_5 : decode cX6_changeLeaf 5 = .ok (.invokevirtual 180, 3) := by decide +kernel
theorem dX6_changeLeaf_8 : decode cX6_changeLeaf 8 = .ok (.ireturn, 1) := by decide +kernel
theorem dX6_changeFan_0 : decode cX6_changeFan 0 = .ok (.aload_n 0, 1) := by decide +kernel
theorem dX6_changeFan_1 : decode cX6_changeFan 1 = .ok (.iconst 1, 1) := by decide +kernel
theorem dX6_changeFan_2 : decode cX6_changeFan 2 = .ok (.iload_n 1, 1) := by decide +kernel
theorem dX6_changeFan_3 : decode cX6_changeFan 3 = .ok (.bipush 6, 2) := by decide +kernel
theorem dX6_changeFan_5 : decode cX6_changeFan 5 = .ok (.invokevirtual 180, 3) := by decide +kernel
theorem dX6_changeFan_8 : decode cX6_changeFan 8 = .ok (.ireturn, 1) := by decide +kernel
theorem dX6_append_0 : decode cX6_append 0 = .ok (.aload_n 0, 1) := by decide +kernel
theorem dX6_append_1 : decode cX6_append 1 = .ok (.iload_n 1, 1) := by decide +kernel
theorem dX6_append_2 : decode cX6_append 2 = .ok (.bipush 33, 2) := by decide +kernel
theorem dX6_append_4 : decode cX6_append 4 = .ok (.bipush 126, 2) := by decide +kernel
theorem dX6_append_6 : decode cX6_append 6 = .ok (.invokestatic 50, 3) := by decide +kernel
theorem dX6_append_9 : decode cX6_append 9 = .ok (.ifCond .ne 7, 3) := by decide +kernel
theorem dX6_append_12 : decode cX6_append 12 = .ok (.iconst 1, 1) := by decide +kernel
theorem dX6_append_13 : decode cX6_append 13 = .ok (.goto 17, 3) := by decide +kernel
theorem dX6_append_16 : decode cX6_append 16 = .ok (.aload_n 0, 1) := by decide +kernel
theorem dX6_append_17 : decode cX6_append 17 = .ok (.getfield 184, 3) := by decide +kernel
theorem dX6_append_20 : decode cX6_append 20 = .ok (.bipush 60, 2) := by decide +kernel
theorem dX6_append_22 : decode cX6_append 22 = .ok (.if_icmp .ne 7, 3) := by decide +kernel
theorem dX6_append_25 : decode cX6_append 25 = .ok (.iconst 2, 1) := by decide +kernel
theorem dX6_append_26 : decode cX6_append 26 = .ok (.goto 4, 3) := by decide +kernel
theorem dX6_append_29 : decode cX6_append 29 = .ok (.iconst 0, 1) := by decide +kernel
theorem dX6_append_30 : decode cX6_append 30 = .ok (.putfield 38, 3) := by decide +kernel
theorem dX6_append_33 : decode cX6_append 33 = .ok (.aload_n 0, 1) := by decide +kernel
theorem dX6_append_34 : decode cX6_append 34 = .ok (.getfield 38, 3) := by decide +kernel
theorem dX6_append_37 : decode cX6_append 37 = .ok (.ifCond .le 5, 3) := by decide +kernel
theorem dX6_append_40 : decode cX6_append 40 = .ok (.iconst 0, 1) := by decide +kernel
theorem dX6_append_41 : decode cX6_append 41 = .ok (.ireturn, 1) := by decide +kernel
theorem dX6_append_42 : decode cX6_append 42 = .ok (.aload_n 0, 1) := by decide +kernel
theorem dX6_append_43 : decode cX6_append 43 = .ok (.getfield 32, 3) := by decide +kernel
theorem dX6_append_46 : decode cX6_append 46 = .ok (.aload_n 0, 1) := by decide +kernel
theorem dX6_append_47 : decode cX6_append 47 = .ok (.getfield 184, 3) := by decide +kernel
theorem dX6_append_50 : decode cX6_append 50 = .ok (.iload_n 1, 1) := by decide +kernel
theorem dX6_append_51 : decode cX6_append 51 = .ok (.iastore, 1) := by decide +kernel
theorem dX6_append_52 : decode cX6_append 52 = .ok (.aload_n 0, 1) := by decide +kernel
theorem dX6_append_53 : decode cX6_append 53 = .ok (.dup, 1) := by decide +kernel
theorem dX6_append_54 : decode cX6_append 54 = .ok (.getfield 184, 3) := by decide +kernel
theorem dX6_append_57 : decode cX6_append 57 = .ok (.iconst 1, 1) := by decide +kernel
theorem dX6_append_58 : decode cX6_append 58 = .ok (.iadd, 1) := by decide +kernel
theorem dX6_append_59 : decode cX6_append 59 = .ok (.putfield 184, 3) := by decide +kernel
theorem dX6_append_62 : decode cX6_append 62 = .ok (.aload_n 0, 1) := by decide +kernel
theorem dX6_append_63 : decode cX6_append 63 = .ok (.getfield 184, 3) := by decide +kernel
theorem dX6_append_66 : decode cX6_append 66 = .ok (.ireturn, 1) := by decide +kernel
theorem dX6_clearBuffer_0 : decode cX6_clearBuffer 0 = .ok (.aload_n 0, 1) := by decide +kernel
theorem dX6_clearBuffer_1 : decode cX6_clearBuffer 1 = .ok (.iconst 0, 1) := by decide +kernel
theorem dX6_clearBuffer_2 : decode cX6_clearBuffer 2 = .ok (.putfield 38, 3) := by decide +kernel
theorem dX6_clearBuffer_5 : decode cX6_clearBuffer 5 = .ok (.aload_n 0, 1) := by decide +kernel
theorem dX6_clearBuffer_6 : decode cX6_clearBuffer 6 = .ok (.getfield 184, 3) := by decide +kernel
theorem dX6_clearBuffer_9 : decode cX6_clearBuffer 9 = .ok (.istore_n 1, 1) := by decide +kernel
theorem dX6_clearBuffer_10 : decode cX6_clearBuffer 10 = .ok (.aload_n 0, 1) := by decide +kernel
theorem dX6_clearBuffer_11 : decode cX6_clearBuffer 11 = .ok (.iconst 0, 1) := by decide +kernel
theorem dX6_clearBuffer_12 : decode cX6_clearBuffer 12 = .ok (.putfield 184, 3) := by decide +kernel
theorem dX6_clearBuffer_15 : decode cX6_clearBuffer 15 = .ok (.iload_n 1, 1) := by decide +kernel
theorem dX6_clearBuffer_16 : decode cX6_clearBuffer 16 = .ok (.ireturn, 1) := by decide +kernel
theorem dX6_takes_0 : decode cX6_takes 0 = .ok (.aload_n 0, 1) := by decide +kernel
theorem dX6_takes_1 : decode cX6_takes 1 = .ok (.getfield 187, 3) := by decide +kernel
theorem dX6_takes_4 : decode cX6_takes 4 = .ok (.aload_n 0, 1) := by decide +kernel
theorem dX6_takes_5 : decode cX6_takes 5 = .ok (.getfield 184, 3) := by decide +kernel
theorem dX6_takes_8 : decode cX6_takes 8 = .ok (.if_icmp .ge 20, 3) := by decide +kernel
theorem dX6_takes_11 : decode cX6_takes 11 = .ok (.aload_n 0, 1) := by decide +kernel
theorem dX6_takes_12 : decode cX6_takes 12 = .ok (.getfield 32, 3) := by decide +kernel
theorem dX6_takes_15 : decode cX6_takes 15 = .ok (.aload_n 0, 1) := by decide +kernel
theorem dX6_takes_16 : decode cX6_takes 16 = .ok (.getfield 187, 3) := by decide +kernel
theorem dX6_takes_19 : decode cX6_takes 19 = .ok (.iaload, 1) := by decide +kernel
theorem dX6_takes_20 : decode cX6_takes 20 = .ok (.iload_n 1, 1) := by decide +kernel
theorem dX6_takes_21 : decode cX6_takes 21 = .ok (.if_icmp .ne 7, 3) := by decide +kernel
theorem dX6_takes_24 : decode cX6_takes 24 = .ok (.iconst 1, 1) := by decide +kernel
theorem dX6_takes_25 : decode cX6_takes 25 = .ok (.goto 4, 3) := by decide +kernel
theorem dX6_takes_28 : decode cX6_takes 28 = .ok (.iconst 0, 1) := by decide +kernel
theorem dX6_takes_29 : decode cX6_takes 29 = .ok (.istore_n 2, 1) := by decide +kernel
theorem dX6_takes_30 : decode cX6_takes 30 = .ok (.aload_n 0, 1) := by decide +kernel
theorem dX6_takes_31 : decode cX6_takes 31 = .ok (.dup, 1) := by decide +kernel
theorem dX6_takes_32 : decode cX6_takes 32 = .ok (.getfield 187, 3) := by decide +kernel
theorem dX6_takes_35 : decode cX6_takes 35 = .ok (.iload_n 2, 1) := by decide +kernel
theorem dX6_takes_36 : decode cX6_takes 36 = .ok (.ifCond .eq 7, 3) := by decide +kernel
theorem dX6_takes_39 : decode cX6_takes 39 = .ok (.iconst 1, 1) := by decide +kernel
theorem dX6_takes_40 : decode cX6_takes 40 = .ok (.goto 4, 3) := by decide +kernel
theorem dX6_takes_43 : decode cX6_takes 43 = .ok (.iconst 0, 1) := by decide +kernel
theorem dX6_takes_44 : decode cX6_takes 44 = .ok (.iadd, 1) := by decide +kernel
theorem dX6_takes_45 : decode cX6_takes 45 = .ok (.putfield 187, 3) := by decide +kernel
theorem dX6_takes_48 : decode cX6_takes 48 = .ok (.iload_n 2, 1) := by decide +kernel
theorem dX6_takes_49 : decode cX6_takes 49 = .ok (.ireturn, 1) := by decide +kernel
theorem dX6_figure_0 : decode cX6_figure 0 = .ok (.aload_n 0, 1) := by decide +kernel
theorem dX6_figure_1 : decode cX6_figure 1 = .ok (.getfield 187, 3) := by decide +kernel
theorem dX6_figure_4 : decode cX6_figure 4 = .ok (.aload_n 0, 1) := by decide +kernel
theorem dX6_figure_5 : decode cX6_figure 5 = .ok (.getfield 184, 3) := by decide +kernel
theorem dX6_figure_8 : decode cX6_figure 8 = .ok (.if_icmp .ge 37, 3) := by decide +kernel
theorem dX6_figure_11 : decode cX6_figure 11 = .ok (.aload_n 0, 1) := by decide +kernel
theorem dX6_figure_12 : decode cX6_figure 12 = .ok (.getfield 32, 3) := by decide +kernel
theorem dX6_figure_15 : decode cX6_figure 15 = .ok (.aload_n 0, 1) := by decide +kernel
theorem dX6_figure_16 : decode cX6_figure 16 = .ok (.getfield 187, 3) := by decide +kernel
theorem dX6_figure_19 : decode cX6_figure 19 = .ok (.iaload, 1) := by decide +kernel
theorem dX6_figure_20 : decode cX6_figure 20 = .ok (.bipush 48, 2) := by decide +kernel
theorem dX6_figure_22 : decode cX6_figure 22 = .ok (.bipush 57, 2) := by decide +kernel
theorem dX6_figure_24 : decode cX6_figure 24 = .ok (.invokestatic 50, 3) := by decide +kernel
theorem dX6_figure_27 : decode cX6_figure 27 = .ok (.ifCond .eq 18, 3) := by decide +kernel
theorem dX6_figure_30 : decode cX6_figure 30 = .ok (.aload_n 0, 1) := by decide +kernel
theorem dX6_figure_31 : decode cX6_figure 31 = .ok (.getfield 32, 3) := by decide +kernel
theorem dX6_figure_34 : decode cX6_figure 34 = .ok (.aload_n 0, 1) := by decide +kernel
theorem dX6_figure_35 : decode cX6_figure 35 = .ok (.getfield 187, 3) := by decide +kernel
theorem dX6_figure_38 : decode cX6_figure 38 = .ok (.iaload, 1) := by decide +kernel
theorem dX6_figure_39 : decode cX6_figure 39 = .ok (.bipush 48, 2) := by decide +kernel
theorem dX6_figure_41 : decode cX6_figure 41 = .ok (.isub, 1) := by decide +kernel
theorem dX6_figure_42 : decode cX6_figure 42 = .ok (.goto 4, 3) := by decide +kernel
theorem dX6_figure_45 : decode cX6_figure 45 = .ok (.iconst (-1), 1) := by decide +kernel
theorem dX6_figure_46 : decode cX6_figure 46 = .ok (.ireturn, 1) := by decide +kernel
theorem dX6_isNumber_0 : decode cX6_isNumber 0 = .ok (.aload_n 0, 1) := by decide +kernel
theorem dX6_isNumber_1 : decode cX6_isNumber 1 = .ok (.invokevirtual 190, 3) := by decide +kernel
theorem dX6_isNumber_4 : decode cX6_isNumber 4 = .ok (.istore_n 3, 1) := by decide +kernel
theorem dX6_isNumber_5 : decode cX6_isNumber 5 = .ok (.iload_n 3, 1) := by decide +kernel
theorem dX6_isNumber_6 : decode cX6_isNumber 6 = .ok (.iconst (-1), 1) := by decide +kernel
theorem dX6_isNumber_7 : decode cX6_isNumber 7 = .ok (.if_icmp .ne 5, 3) := by decide +kernel
theorem dX6_isNumber_10 : decode cX6_isNumber 10 = .ok (.iconst 0, 1) := by decide +kernel
theorem dX6_isNumber_11 : decode cX6_isNumber 11 = .ok (.ireturn, 1) := by decide +kernel
theorem dX6_isNumber_12 : decode cX6_isNumber 12 = .ok (.aload_n 0, 1) := by decide +kernel
theorem dX6_isNumber_13 : decode cX6_isNumber 13 = .ok (.dup, 1) := by decide +kernel
theorem dX6_isNumber_14 : decode cX6_isNumber 14 = .ok (.getfield 187, 3) := by decide +kernel
theorem dX6_isNumber_17 : decode cX6_isNumber 17 = .ok (.iconst 1, 1) := by decide +kernel
theorem dX6_isNumber_18 : decode cX6_isNumber 18 = .ok (.iadd, 1) := by decide +kernel
theorem dX6_isNumber_19 : decode cX6_isNumber 19 = .ok (.putfield 187, 3) := by decide +kernel
theorem dX6_isNumber_22 : decode cX6_isNumber 22 = .ok (.iload_n 3, 1) := by decide +kernel
theorem dX6_isNumber_23 : decode cX6_isNumber 23 = .ok (.ifCond .le 47, 3) := by decide +kernel
theorem dX6_isNumber_26 : decode cX6_isNumber 26 = .ok (.aload_n 0, 1) := by decide +kernel
theorem dX6_isNumber_27 : decode cX6_isNumber 27 = .ok (.invokevirtual 190, 3) := by decide +kernel
theorem dX6_isNumber_30 : decode cX6_isNumber 30 = .ok (.iconst (-1), 1) := by decide +kernel
theorem dX6_isNumber_31 : decode cX6_isNumber 31 = .ok (.if_icmp .eq 39, 3) := by decide +kernel
theorem dX6_isNumber_34 : decode cX6_isNumber 34 = .ok (.bipush 10, 2) := by decide +kernel
theorem dX6_isNumber_36 : decode cX6_isNumber 36 = .ok (.iload_n 3, 1) := by decide +kernel
theorem dX6_isNumber_37 : decode cX6_isNumber 37 = .ok (.imul, 1) := by decide +kernel
theorem dX6_isNumber_38 : decode cX6_isNumber 38 = .ok (.aload_n 0, 1) := by decide +kernel
theorem dX6_isNumber_39 : decode cX6_isNumber 39 = .ok (.invokevirtual 190, 3) := by decide +kernel
theorem dX6_isNumber_42 : decode cX6_isNumber 42 = .ok (.iadd, 1) := by decide +kernel
theorem dX6_isNumber_43 : decode cX6_isNumber 43 = .ok (.iload_n 2, 1) := by decide +kernel
theorem dX6_isNumber_44 : decode cX6_isNumber 44 = .ok (.if_icmp .gt 26, 3) := by decide +kernel
theorem dX6_isNumber_47 : decode cX6_isNumber 47 = .ok (.bipush 10, 2) := by decide +kernel
theorem dX6_isNumber_49 : decode cX6_isNumber 49 = .ok (.iload_n 3, 1) := by decide +kernel
theorem dX6_isNumber_50 : decode cX6_isNumber 50 = .ok (.imul, 1) := by decide +kernel
theorem dX6_isNumber_51 : decode cX6_isNumber 51 = .ok (.aload_n 0, 1) := by decide +kernel
theorem dX6_isNumber_52 : decode cX6_isNumber 52 = .ok (.invokevirtual 190, 3) := by decide +kernel
theorem dX6_isNumber_55 : decode cX6_isNumber 55 = .ok (.iadd, 1) := by decide +kernel
theorem dX6_isNumber_56 : decode cX6_isNumber 56 = .ok (.istore_n 3, 1) := by decide +kernel
theorem dX6_isNumber_57 : decode cX6_isNumber 57 = .ok (.aload_n 0, 1) := by decide +kernel
theorem dX6_isNumber_58 : decode cX6_isNumber 58 = .ok (.dup, 1) := by decide +kernel
theorem dX6_isNumber_59 : decode cX6_isNumber 59 = .ok (.getfield 187, 3) := by decide +kernel
theorem dX6_isNumber_62 : decode cX6_isNumber 62 = .ok (.iconst 1, 1) := by decide +kernel
theorem dX6_isNumber_63 : decode cX6_isNumber 63 = .ok (.iadd, 1) := by decide +kernel
theorem dX6_isNumber_64 : decode cX6_isNumber 64 = .ok (.putfield 187, 3) := by decide +kernel
theorem dX6_isNumber_67 : decode cX6_isNumber 67 = .ok (.goto (-45), 3) := by decide +kernel
theorem dX6_isNumber_70 : decode cX6_isNumber 70 = .ok (.aload_n 0, 1) := by decide +kernel
theorem dX6_isNumber_71 : decode cX6_isNumber 71 = .ok (.getfield 35, 3) := by decide +kernel
theorem dX6_isNumber_74 : decode cX6_isNumber 74 = .ok (.iconst 3, 1) := by decide +kernel
theorem dX6_isNumber_75 : decode cX6_isNumber 75 = .ok (.aload_n 0, 1) := by decide +kernel
theorem dX6_isNumber_76 : decode cX6_isNumber 76 = .ok (.getfield 193, 3) := by decide +kernel
theorem dX6_isNumber_79 : decode cX6_isNumber 79 = .ok (.imul, 1) := by decide +kernel
theorem dX6_isNumber_80 : decode cX6_isNumber 80 = .ok (.iload_n 1, 1) := by decide +kernel
theorem dX6_isNumber_81 : decode cX6_isNumber 81 = .ok (.iadd, 1) := by decide +kernel
theorem dX6_isNumber_82 : decode cX6_isNumber 82 = .ok (.iload_n 3, 1) := by decide +kernel
theorem dX6_isNumber_83 : decode cX6_isNumber 83 = .ok (.iastore, 1) := by decide +kernel
theorem dX6_isNumber_84 : decode cX6_isNumber 84 = .ok (.iconst 1, 1) := by decide +kernel
theorem dX6_isNumber_85 : decode cX6_isNumber 85 = .ok (.ireturn, 1) := by decide +kernel
theorem dX6_isShare_0 : decode cX6_isShare 0 = .ok (.aload_n 0, 1) := by decide +kernel
theorem dX6_isShare_1 : decode cX6_isShare 1 = .ok (.invokevirtual 190, 3) := by decide +kernel
theorem dX6_isShare_4 : decode cX6_isShare 4 = .ok (.istore_n 1, 1) := by decide +kernel
theorem dX6_isShare_5 : decode cX6_isShare 5 = .ok (.iload_n 1, 1) := by decide +kernel
theorem dX6_isShare_6 : decode cX6_isShare 6 = .ok (.iconst 1, 1) := by decide +kernel
theorem dX6_isShare_7 : decode cX6_isShare 7 = .ok (.if_icmp .ne 52, 3) := by decide +kernel
theorem dX6_isShare_10 : decode cX6_isShare 10 = .ok (.aload_n 0, 1) := by decide +kernel
theorem dX6_isShare_11 : decode cX6_isShare 11 = .ok (.dup, 1) := by decide +kernel
theorem dX6_isShare_12 : decode cX6_isShare 12 = .ok (.getfield 187, 3) := by decide +kernel
theorem dX6_isShare_15 : decode cX6_isShare 15 = .ok (.iconst 1, 1) := by decide +kernel
theorem dX6_isShare_16 : decode cX6_isShare 16 = .ok (.iadd, 1) := by decide +kernel
theorem dX6_isShare_17 : decode cX6_isShare 17 = .ok (.putfield 187, 3) := by decide +kernel
theorem dX6_isShare_20 : decode cX6_isShare 20 = .ok (.aload_n 0, 1) := by decide +kernel
theorem dX6_isShare_21 : decode cX6_isShare 21 = .ok (.getfield 35, 3) := by decide +kernel
theorem dX6_isShare_24 : decode cX6_isShare 24 = .ok (.iconst 3, 1) := by decide +kernel
theorem dX6_isShare_25 : decode cX6_isShare 25 = .ok (.aload_n 0, 1) := by decide +kernel
theorem dX6_isShare_26 : decode cX6_isShare 26 = .ok (.getfield 193, 3) := by decide +kernel
theorem dX6_isShare_29 : decode cX6_isShare 29 = .ok (.imul, 1) := by decide +kernel
theorem dX6_isShare_30 : decode cX6_isShare 30 = .ok (.iconst 1, 1) := by decide +kernel
theorem dX6_isShare_31 : decode cX6_isShare 31 = .ok (.iadd, 1) := by decide +kernel
theorem dX6_isShare_32 : decode cX6_isShare 32 = .ok (.bipush 100, 2) := by decide +kernel
theorem dX6_isShare_34 : decode cX6_isShare 34 = .ok (.iastore, 1) := by decide +kernel
theorem dX6_isShare_35 : decode cX6_isShare 35 = .ok (.aload_n 0, 1) := by decide +kernel
theorem dX6_isShare_36 : decode cX6_isShare 36 = .ok (.bipush 48, 2) := by decide +kernel
theorem dX6_isShare_38 : decode cX6_isShare 38 = .ok (.invokevirtual 196, 3) := by decide +kernel
theorem dX6_isShare_41 : decode cX6_isShare 41 = .ok (.ifCond .eq 16, 3) := by decide +kernel
theorem dX6_isShare_44 : decode cX6_isShare 44 = .ok (.aload_n 0, 1) := by decide +kernel
theorem dX6_isShare_45 : decode cX6_isShare 45 = .ok (.bipush 48, 2) := by decide +kernel
theorem dX6_isShare_47 : decode cX6_isShare 47 = .ok (.invokevirtual 196, 3) := by decide +kernel
theorem dX6_isShare_50 : decode cX6_isShare 50 = .ok (.ifCond .eq 7, 3) := by decide +kernel
theorem dX6_isShare_53 : decode cX6_isShare 53 = .ok (.iconst 1, 1) := by decide +kernel
theorem dX6_isShare_54 : decode cX6_isShare 54 = .ok (.goto 4, 3) := by decide +kernel
theorem dX6_isShare_57 : decode cX6_isShare 57 = .ok (.iconst 0, 1) := by decide +kernel
theorem dX6_isShare_58 : decode cX6_isShare 58 = .ok (.ireturn, 1) := by decide +kernel
theorem dX6_isShare_59 : decode cX6_isShare 59 = .ok (.iload_n 1, 1) := by decide +kernel
theorem dX6_isShare_60 : decode cX6_isShare 60 = .ok (.iconst 5, 1) := by decide +kernel
theorem dX6_isShare_61 : decode cX6_isShare 61 = .ok (.if_icmp .ge 5, 3) := by decide +kernel
theorem dX6_isShare_64 : decode cX6_isShare 64 = .ok (.iconst 0, 1) := by decide +kernel
theorem dX6_isShare_65 : decode cX6_isShare 65 = .ok (.ireturn, 1) := by decide +kernel
theorem dX6_isShare_66 : decode cX6_isShare 66 = .ok (.aload_n 0, 1) := by decide +kernel
theorem dX6_isShare_67 : decode cX6_isShare 67 = .ok (.dup, 1) := by decide +kernel
theorem dX6_isShare_68 : decode cX6_isShare 68 = .ok (.getfield 187, 3) := by decide +kernel
theorem dX6_isShare_71 : decode cX6_isShare 71 = .ok (.iconst 1, 1) := by decide +kernel
theorem dX6_isShare_72 : decode cX6_isShare 72 = .ok (.iadd, 1) := by decide +kernel
theorem dX6_isShare_73 : decode cX6_isShare 73 = .ok (.putfield 187, 3) := by decide +kernel
theorem dX6_isShare_76 : decode cX6_isShare 76 = .ok (.aload_n 0, 1) := by decide +kernel
theorem dX6_isShare_77 : decode cX6_isShare 77 = .ok (.invokevirtual 190, 3) := by decide +kernel
theorem dX6_isShare_80 : decode cX6_isShare 80 = .ok (.istore_n 2, 1) := by decide +kernel
theorem dX6_isShare_81 : decode cX6_isShare 81 = .ok (.aload_n 0, 1) := by decide +kernel
theorem dX6_isShare_82 : decode cX6_isShare 82 = .ok (.getfield 35, 3) := by decide +kernel
theorem dX6_isShare_85 : decode cX6_isShare 85 = .ok (.iconst 3, 1) := by decide +kernel
theorem dX6_isShare_86 : decode cX6_isShare 86 = .ok (.aload_n 0, 1) := by decide +kernel
theorem dX6_isShare_87 : decode cX6_isShare 87 = .ok (.getfield 193, 3) := by decide +kernel
theorem dX6_isShare_90 : decode cX6_isShare 90 = .ok (.imul, 1) := by decide +kernel
theorem dX6_isShare_91 : decode cX6_isShare 91 = .ok (.iconst 1, 1) := by decide +kernel
theorem dX6_isShare_92 : decode cX6_isShare 92 = .ok (.iadd, 1) := by decide +kernel
theorem dX6_isShare_93 : decode cX6_isShare 93 = .ok (.bipush 10, 2) := by decide +kernel
theorem dX6_isShare_95 : decode cX6_isShare 95 = .ok (.iload_n 1, 1) := by decide +kernel
theorem dX6_isShare_96 : decode cX6_isShare 96 = .ok (.imul, 1) := by decide +kernel
theorem dX6_isShare_97 : decode cX6_isShare 97 = .ok (.iload_n 2, 1) := by decide +kernel
theorem dX6_isShare_98 : decode cX6_isShare 98 = .ok (.iadd, 1) := by decide +kernel
theorem dX6_isShare_99 : decode cX6_isShare 99 = .ok (.iastore, 1) := by decide +kernel
theorem dX6_isShare_100 : decode cX6_isShare 100 = .ok (.aload_n 0, 1) := by decide +kernel
theorem dX6_isShare_101 : decode cX6_isShare 101 = .ok (.dup, 1) := by decide +kernel
theorem dX6_isShare_102 : decode cX6_isShare 102 = .ok (.getfield 187, 3) := by decide +kernel
theorem dX6_isShare_105 : decode cX6_isShare 105 = .ok (.iload_n 2, 1) := by decide +kernel
theorem dX6_isShare_106 : decode cX6_isShare 106 = .ok (.iconst (-1), 1) := by decide +kernel
theorem dX6_isShare_107 : decode cX6_isShare 107 = .ok (.if_icmp .ne 7, 3) := by decide +kernel
theorem dX6_isShare_110 : decode cX6_isShare 110 = .ok (.iconst 0, 1) := by decide +kernel
theorem dX6_isShare_111 : decode cX6_isShare 111 = .ok (.goto 4, 3) := by decide +kernel
theorem dX6_isShare_114 : decode cX6_isShare 114 = .ok (.iconst 1, 1) := by decide +kernel
theorem dX6_isShare_115 : decode cX6_isShare 115 = .ok (.iadd, 1) := by decide +kernel
theorem dX6_isShare_116 : decode cX6_isShare 116 = .ok (.putfield 187, 3) := by decide +kernel
theorem dX6_isShare_119 : decode cX6_isShare 119 = .ok (.iload_n 2, 1) := by decide +kernel
theorem dX6_isShare_120 : decode cX6_isShare 120 = .ok (.iconst (-1), 1) := by decide +kernel
theorem dX6_isShare_121 : decode cX6_isShare 121 = .ok (.if_icmp .eq 7, 3) := by decide +kernel
theorem dX6_isShare_124 : decode cX6_isShare 124 = .ok (.iconst 1, 1) := by decide +kernel
theorem dX6_isShare_125 : decode cX6_isShare 125 = .ok (.goto 4, 3) := by decide +kernel
theorem dX6_isShare_128 : decode cX6_isShare 128 = .ok (.iconst 0, 1) := by decide +kernel
theorem dX6_isShare_129 : decode cX6_isShare 129 = .ok (.ireturn, 1) := by decide +kernel
theorem dX6_isOrder_0 : decode cX6_isOrder 0 = .ok (.aload_n 0, 1) := by decide +kernel
theorem dX6_isOrder_1 : decode cX6_isOrder 1 = .ok (.getfield 187, 3) := by decide +kernel
theorem dX6_isOrder_4 : decode cX6_isOrder 4 = .ok (.aload_n 0, 1) := by decide +kernel
theorem dX6_isOrder_5 : decode cX6_isOrder 5 = .ok (.getfield 184, 3) := by decide +kernel
theorem dX6_isOrder_8 : decode cX6_isOrder 8 = .ok (.if_icmp .ne 5, 3) := by decide +kernel
theorem dX6_isOrder_11 : decode cX6_isOrder 11 = .ok (.iconst 0, 1) := by decide +kernel
theorem dX6_isOrder_12 : decode cX6_isOrder 12 = .ok (.ireturn, 1) := by decide +kernel
theorem dX6_isOrder_13 : decode cX6_isOrder 13 = .ok (.aload_n 0, 1) := by decide +kernel
theorem dX6_isOrder_14 : decode cX6_isOrder 14 = .ok (.getfield 32, 3) := by decide +kernel
theorem dX6_isOrder_17 : decode cX6_isOrder 17 = .ok (.aload_n 0, 1) := by decide +kernel
theorem dX6_isOrder_18 : decode cX6_isOrder 18 = .ok (.getfield 187, 3) := by decide +kernel
theorem dX6_isOrder_21 : decode cX6_isOrder 21 = .ok (.iaload, 1) := by decide +kernel
theorem dX6_isOrder_22 : decode cX6_isOrder 22 = .ok (.istore_n 1, 1) := by decide +kernel
theorem dX6_isOrder_23 : decode cX6_isOrder 23 = .ok (.aload_n 0, 1) := by decide +kernel
theorem dX6_isOrder_24 : decode cX6_isOrder 24 = .ok (.getfield 35, 3) := by decide +kernel
theorem dX6_isOrder_27 : decode cX6_isOrder 27 = .ok (.iconst 3, 1) := by decide +kernel
theorem dX6_isOrder_28 : decode cX6_isOrder 28 = .ok (.aload_n 0, 1) := by decide +kernel
theorem dX6_isOrder_29 : decode cX6_isOrder 29 = .ok (.getfield 193, 3) := by decide +kernel
theorem dX6_isOrder_32 : decode cX6_isOrder 32 = .ok (.imul, 1) := by decide +kernel
theorem dX6_isOrder_33 : decode cX6_isOrder 33 = .ok (.iload_n 1, 1) := by decide +kernel
theorem dX6_isOrder_34 : decode cX6_isOrder 34 = .ok (.iastore, 1) := by decide +kernel
theorem dX6_isOrder_35 : decode cX6_isOrder 35 = .ok (.aload_n 0, 1) := by decide +kernel
theorem dX6_isOrder_36 : decode cX6_isOrder 36 = .ok (.dup, 1) := by decide +kernel
theorem dX6_isOrder_37 : decode cX6_isOrder 37 = .ok (.getfield 187, 3) := by decide +kernel
theorem dX6_isOrder_40 : decode cX6_isOrder 40 = .ok (.iconst 1, 1) := by decide +kernel
theorem dX6_isOrder_41 : decode cX6_isOrder 41 = .ok (.iadd, 1) := by decide +kernel
theorem dX6_isOrder_42 : decode cX6_isOrder 42 = .ok (.putfield 187, 3) := by decide +kernel
theorem dX6_isOrder_45 : decode cX6_isOrder 45 = .ok (.iload_n 1, 1) := by decide +kernel
theorem dX6_isOrder_46 : decode cX6_isOrder 46 = .ok (.tableswitch 126 98 112 #[121, 119, 110, 110, 126, 126, 126, 74, 126, 126, 126, 126, 126, 126, 74], 74) := by decide +kernel
theorem dX6_isOrder_120 : decode cX6_isOrder 120 = .ok (.aload_n 0, 1) := by decide +kernel
theorem dX6_isOrder_121 : decode cX6_isOrder 121 = .ok (.iconst 1, 1) := by decide +kernel
theorem dX6_isOrder_122 : decode cX6_isOrder 122 = .ok (.sipush 9999, 3) := by decide +kernel
theorem dX6_isOrder_125 : decode cX6_isOrder 125 = .ok (.invokevirtual 199, 3) := by decide +kernel
theorem dX6_isOrder_128 : decode cX6_isOrder 128 = .ok (.ifCond .eq 26, 3) := by decide +kernel
theorem dX6_isOrder_131 : decode cX6_isOrder 131 = .ok (.aload_n 0, 1) := by decide +kernel
theorem dX6_isOrder_132 : decode cX6_isOrder 132 = .ok (.bipush 61, 2) := by decide +kernel
theorem dX6_isOrder_134 : decode cX6_isOrder 134 = .ok (.invokevirtual 196, 3) := by decide +kernel
theorem dX6_isOrder_137 : decode cX6_isOrder 137 = .ok (.ifCond .eq 17, 3) := by decide +kernel
theorem dX6_isOrder_140 : decode cX6_isOrder 140 = .ok (.aload_n 0, 1) := by decide +kernel
theorem dX6_isOrder_141 : decode cX6_isOrder 141 = .ok (.iconst 2, 1) := by decide +kernel
theorem dX6_isOrder_142 : decode cX6_isOrder 142 = .ok (.bipush 99, 2) := by decide +kernel
theorem dX6_isOrder_144 : decode cX6_isOrder 144 = .ok (.invokevirtual 199, 3) := by decide +kernel
theorem dX6_isOrder_147 : decode cX6_isOrder 147 = .ok (.ifCond .eq 7, 3) := by decide +kernel
theorem dX6_isOrder_150 : decode cX6_isOrder 150 = .ok (.iconst 1, 1) := by decide +kernel
theorem dX6_isOrder_151 : decode cX6_isOrder 151 = .ok (.goto 4, 3) := by decide +kernel
theorem dX6_isOrder_154 : decode cX6_isOrder 154 = .ok (.iconst 0, 1) := by decide +kernel
theorem dX6_isOrder_155 : decode cX6_isOrder 155 = .ok (.ireturn, 1) := by decide +kernel
theorem dX6_isOrder_156 : decode cX6_isOrder 156 = .ok (.aload_n 0, 1) := by decide +kernel
theorem dX6_isOrder_157 : decode cX6_isOrder 157 = .ok (.iconst 1, 1) := by decide +kernel
theorem dX6_isOrder_158 : decode cX6_isOrder 158 = .ok (.sipush 9999, 3) := by decide +kernel
theorem dX6_isOrder_161 : decode cX6_isOrder 161 = .ok (.invokevirtual 199, 3) := by decide +kernel
theorem dX6_isOrder_164 : decode cX6_isOrder 164 = .ok (.ireturn, 1) := by decide +kernel
theorem dX6_isOrder_165 : decode cX6_isOrder 165 = .ok (.iconst 1, 1) := by decide +kernel
theorem dX6_isOrder_166 : decode cX6_isOrder 166 = .ok (.ireturn, 1) := by decide +kernel
theorem dX6_isOrder_167 : decode cX6_isOrder 167 = .ok (.aload_n 0, 1) := by decide +kernel
theorem dX6_isOrder_168 : decode cX6_isOrder 168 = .ok (.invokevirtual 203, 3) := by decide +kernel
theorem dX6_isOrder_171 : decode cX6_isOrder 171 = .ok (.ireturn, 1) := by decide +kernel
theorem dX6_isOrder_172 : decode cX6_isOrder 172 = .ok (.aload_n 0, 1) := by decide +kernel
theorem dX6_isOrder_173 : decode cX6_isOrder 173 = .ok (.dup, 1) := by decide +kernel
theorem dX6_isOrder_174 : decode cX6_isOrder 174 = .ok (.getfield 187, 3) := by decide +kernel
theorem dX6_isOrder_177 : decode cX6_isOrder 177 = .ok (.iconst 1, 1) := by decide +kernel
theorem dX6_isOrder_178 : decode cX6_isOrder 178 = .ok (.isub, 1) := by decide +kernel
theorem dX6_isOrder_179 : decode cX6_isOrder 179 = .ok (.putfield 187, 3) := by decide +kernel
theorem dX6_isOrder_182 : decode cX6_isOrder 182 = .ok (.iconst 0, 1) := by decide +kernel
theorem dX6_isOrder_183 : decode cX6_isOrder 183 = .ok (.ireturn, 1) := by decide +kernel
theorem dX6_isWhole_0 : decode cX6_isWhole 0 = .ok (.aload_n 0, 1) := by decide +kernel
theorem dX6_isWhole_1 : decode cX6_isWhole 1 = .ok (.iconst 0, 1) := by decide +kernel
theorem dX6_isWhole_2 : decode cX6_isWhole 2 = .ok (.putfield 187, 3) := by decide +kernel
theorem dX6_isWhole_5 : decode cX6_isWhole 5 = .ok (.aload_n 0, 1) := by decide +kernel
theorem dX6_isWhole_6 : decode cX6_isWhole 6 = .ok (.iconst 0, 1) := by decide +kernel
theorem dX6_isWhole_7 : decode cX6_isWhole 7 = .ok (.putfield 193, 3) := by decide +kernel
theorem dX6_isWhole_10 : decode cX6_isWhole 10 = .ok (.iconst 1, 1) := by decide +kernel
theorem dX6_isWhole_11 : decode cX6_isWhole 11 = .ok (.istore_n 1, 1) := by decide +kernel
theorem dX6_isWhole_12 : decode cX6_isWhole 12 = .ok (.iload_n 1, 1) := by decide +kernel
theorem dX6_isWhole_13 : decode cX6_isWhole 13 = .ok (.ifCond .eq 32, 3) := by decide +kernel
theorem dX6_isWhole_16 : decode cX6_isWhole 16 = .ok (.aload_n 0, 1) := by decide +kernel
theorem dX6_isWhole_17 : decode cX6_isWhole 17 = .ok (.invokevirtual 206, 3) := by decide +kernel
theorem dX6_isWhole_20 : decode cX6_isWhole 20 = .ok (.ifCond .ne 5, 3) := by decide +kernel
theorem dX6_isWhole_23 : decode cX6_isWhole 23 = .ok (.iconst 0, 1) := by decide +kernel
theorem dX6_isWhole_24 : decode cX6_isWhole 24 = .ok (.ireturn, 1) := by decide +kernel
theorem dX6_isWhole_25 : decode cX6_isWhole 25 = .ok (.aload_n 0, 1) := by decide +kernel
theorem dX6_isWhole_26 : decode cX6_isWhole 26 = .ok (.dup, 1) := by decide +kernel
theorem dX6_isWhole_27 : decode cX6_isWhole 27 = .ok (.getfield 193, 3) := by decide +kernel
theorem dX6_isWhole_30 : decode cX6_isWhole 30 = .ok (.iconst 1, 1) := by decide +kernel
theorem dX6_isWhole_31 : decode cX6_isWhole 31 = .ok (.iadd, 1) := by decide +kernel
theorem dX6_isWhole_32 : decode cX6_isWhole 32 = .ok (.putfield 193, 3) := by decide +kernel
theorem dX6_isWhole_35 : decode cX6_isWhole 35 = .ok (.aload_n 0, 1) := by decide +kernel
theorem dX6_isWhole_36 : decode cX6_isWhole 36 = .ok (.bipush 59, 2) := by decide +kernel
theorem dX6_isWhole_38 : decode cX6_isWhole 38 = .ok (.invokevirtual 196, 3) := by decide +kernel
theorem dX6_isWhole_41 : decode cX6_isWhole 41 = .ok (.istore_n 1, 1) := by decide +kernel
theorem dX6_isWhole_42 : decode cX6_isWhole 42 = .ok (.goto (-30), 3) := by decide +kernel
theorem dX6_isWhole_45 : decode cX6_isWhole 45 = .ok (.aload_n 0, 1) := by decide +kernel
theorem dX6_isWhole_46 : decode cX6_isWhole 46 = .ok (.getfield 187, 3) := by decide +kernel
theorem dX6_isWhole_49 : decode cX6_isWhole 49 = .ok (.aload_n 0, 1) := by decide +kernel
theorem dX6_isWhole_50 : decode cX6_isWhole 50 = .ok (.getfield 184, 3) := by decide +kernel
theorem dX6_isWhole_53 : decode cX6_isWhole 53 = .ok (.if_icmp .ne 7, 3) := by decide +kernel
theorem dX6_isWhole_56 : decode cX6_isWhole 56 = .ok (.iconst 1, 1) := by decide +kernel
theorem dX6_isWhole_57 : decode cX6_isWhole 57 = .ok (.goto 4, 3) := by decide +kernel
theorem dX6_isWhole_60 : decode cX6_isWhole 60 = .ok (.iconst 0, 1) := by decide +kernel
theorem dX6_isWhole_61 : decode cX6_isWhole 61 = .ok (.ireturn, 1) := by decide +kernel
theorem dX6_firstError_0 : decode cX6_firstError 0 = .ok (.aload_n 0, 1) := by decide +kernel
theorem dX6_firstError_1 : decode cX6_firstError 1 = .ok (.iconst 0, 1) := by decide +kernel
theorem dX6_firstError_2 : decode cX6_firstError 2 = .ok (.putfield 38, 3) := by decide +kernel
theorem dX6_firstError_5 : decode cX6_firstError 5 = .ok (.aload_n 0, 1) := by decide +kernel
theorem dX6_firstError_6 : decode cX6_firstError 6 = .ok (.invokevirtual 209, 3) := by decide +kernel
theorem dX6_firstError_9 : decode cX6_firstError 9 = .ok (.ifCond .eq 10, 3) := by decide +kernel
theorem dX6_firstError_12 : decode cX6_firstError 12 = .ok (.aload_n 0, 1) := by decide +kernel
theorem dX6_firstError_13 : decode cX6_firstError 13 = .ok (.getfield 184, 3) := by decide +kernel
theorem dX6_firstError_16 : decode cX6_firstError 16 = .ok (.goto 7, 3) := by decide +kernel
theorem dX6_firstError_19 : decode cX6_firstError 19 = .ok (.aload_n 0, 1) := by decide +kernel
theorem dX6_firstError_20 : decode cX6_firstError 20 = .ok (.getfield 187, 3) := by decide +kernel
theorem dX6_firstError_23 : decode cX6_firstError 23 = .ok (.ireturn, 1) := by decide +kernel
theorem dX6_follows_0 : decode cX6_follows 0 = .ok (.aload_n 0, 1) := by decide +kernel
theorem dX6_follows_1 : decode cX6_follows 1 = .ok (.getfield 35, 3) := by decide +kernel
theorem dX6_follows_4 : decode cX6_follows 4 = .ok (.iconst 3, 1) := by decide +kernel
theorem dX6_follows_5 : decode cX6_follows 5 = .ok (.iload_n 1, 1) := by decide +kernel
theorem dX6_follows_6 : decode cX6_follows 6 = .ok (.imul, 1) := by decide +kernel
theorem dX6_follows_7 : decode cX6_follows 7 = .ok (.iconst 1, 1) := by decide +kernel
theorem dX6_follows_8 : decode cX6_follows 8 = .ok (.iadd, 1) := by decide +kernel
theorem dX6_follows_9 : decode cX6_follows 9 = .ok (.iaload, 1) := by decide +kernel
theorem dX6_follows_10 : decode cX6_follows 10 = .ok (.istore_n 2, 1) := by decide +kernel
theorem dX6_follows_11 : decode cX6_follows 11 = .ok (.aload_n 0, 1) := by decide +kernel
theorem dX6_follows_12 : decode cX6_follows 12 = .ok (.getfield 35, 3) := by decide +kernel
theorem dX6_follows_15 : decode cX6_follows 15 = .ok (.iconst 3, 1) := by decide +kernel
theorem dX6_follows_16 : decode cX6_follows 16 = .ok (.iload_n 1, 1) := by decide +kernel
theorem dX6_follows_17 : decode cX6_follows 17 = .ok (.imul, 1) := by decide +kernel
theorem dX6_follows_18 : decode cX6_follows 18 = .ok (.iconst 2, 1) := by decide +kernel
theorem dX6_follows_19 : decode cX6_follows 19 = .ok (.iadd, 1) := by decide +kernel
theorem dX6_follows_20 : decode cX6_follows 20 = .ok (.iaload, 1) := by decide +kernel
theorem dX6_follows_21 : decode cX6_follows 21 = .ok (.istore_n 3, 1) := by decide +kernel
theorem dX6_follows_22 : decode cX6_follows 22 = .ok (.aload_n 0, 1) := by decide +kernel
theorem dX6_follows_23 : decode cX6_follows 23 = .ok (.getfield 35, 3) := by decide +kernel
theorem dX6_follows_26 : decode cX6_follows 26 = .ok (.iconst 3, 1) := by decide +kernel
theorem dX6_follows_27 : decode cX6_follows 27 = .ok (.iload_n 1, 1) := by decide +kernel
theorem dX6_follows_28 : decode cX6_follows 28 = .ok (.imul, 1) := by decide +kernel
theorem dX6_follows_29 : decode cX6_follows 29 = .ok (.iaload, 1) := by decide +kernel
theorem dX6_follows_30 : decode cX6_follows 30 = .ok (.tableswitch 184 98 112 #[140, 120, 97, 184, 184, 184, 184, 161, 184, 184, 184, 184, 184, 184, 74], 74) := by decide +kernel
theorem dX6_follows_104 : decode cX6_follows 104 = .ok (.aload_n 0, 1) := by decide +kernel
theorem dX6_follows_105 : decode cX6_follows 105 = .ok (.iload_n 2, 1) := by decide +kernel
theorem dX6_follows_106 : decode cX6_follows 106 = .ok (.invokevirtual 136, 3) := by decide +kernel
theorem dX6_follows_109 : decode cX6_follows 109 = .ok (.ifCond .eq 16, 3) := by decide +kernel
theorem dX6_follows_112 : decode cX6_follows 112 = .ok (.aload_n 0, 1) := by decide +kernel
theorem dX6_follows_113 : decode cX6_follows 113 = .ok (.iload_n 2, 1) := by decide +kernel
theorem dX6_follows_114 : decode cX6_follows 114 = .ok (.iload_n 3, 1) := by decide +kernel
theorem dX6_follows_115 : decode cX6_follows 115 = .ok (.invokevirtual 143, 3) := by decide +kernel
theorem dX6_follows_118 : decode cX6_follows 118 = .ok (.ifCond .le 7, 3) := by decide +kernel
theorem dX6_follows_121 : decode cX6_follows 121 = .ok (.iconst 1, 1) := by decide +kernel
theorem dX6_follows_122 : decode cX6_follows 122 = .ok (.goto 4, 3) := by decide +kernel
theorem dX6_follows_125 : decode cX6_follows 125 = .ok (.iconst 0, 1) := by decide +kernel
theorem dX6_follows_126 : decode cX6_follows 126 = .ok (.ireturn, 1) := by decide +kernel
theorem dX6_follows_127 : decode cX6_follows 127 = .ok (.aload_n 0, 1) := by decide +kernel
theorem dX6_follows_128 : decode cX6_follows 128 = .ok (.iload_n 2, 1) := by decide +kernel
theorem dX6_follows_129 : decode cX6_follows 129 = .ok (.invokevirtual 136, 3) := by decide +kernel
theorem dX6_follows_132 : decode cX6_follows 132 = .ok (.ifCond .eq 16, 3) := by decide +kernel
theorem dX6_follows_135 : decode cX6_follows 135 = .ok (.aload_n 0, 1) := by decide +kernel
theorem dX6_follows_136 : decode cX6_follows 136 = .ok (.iload_n 2, 1) := by decide +kernel
theorem dX6_follows_137 : decode cX6_follows 137 = .ok (.iconst (-1), 1) := by decide +kernel
theorem dX6_follows_138 : decode cX6_follows 138 = .ok (.invokevirtual 143, 3) := by decide +kernel
theorem dX6_follows_141 : decode cX6_follows 141 = .ok (.ifCond .le 7, 3) := by decide +kernel
theorem dX6_follows_144 : decode cX6_follows 144 = .ok (.iconst 1, 1) := by decide +kernel
theorem dX6_follows_145 : decode cX6_follows 145 = .ok (.goto 4, 3) := by decide +kernel
theorem dX6_follows_148 : decode cX6_follows 148 = .ok (.iconst 0, 1) := by decide +kernel
theorem dX6_follows_149 : decode cX6_follows 149 = .ok (.ireturn, 1) := by decide +kernel
theorem dX6_follows_150 : decode cX6_follows 150 = .ok (.aload_n 0, 1) := by decide +kernel
theorem dX6_follows_151 : decode cX6_follows 151 = .ok (.invokevirtual 146, 3) := by decide +kernel
theorem dX6_follows_154 : decode cX6_follows 154 = .ok (.ifCond .eq 14, 3) := by decide +kernel
theorem dX6_follows_157 : decode cX6_follows 157 = .ok (.aload_n 0, 1) := by decide +kernel
theorem dX6_follows_158 : decode cX6_follows 158 = .ok (.invokevirtual 150, 3) := by decide +kernel
theorem dX6_follows_161 : decode cX6_follows 161 = .ok (.ifCond .le 7, 3) := by decide +kernel
theorem dX6_follows_164 : decode cX6_follows 164 = .ok (.iconst 1, 1) := by decide +kernel
theorem dX6_follows_165 : decode cX6_follows 165 = .ok (.goto 4, 3) := by decide +kernel
theorem dX6_follows_168 : decode cX6_follows 168 = .ok (.iconst 0, 1) := by decide +kernel
theorem dX6_follows_169 : decode cX6_follows 169 = .ok (.ireturn, 1) := by decide +kernel
theorem dX6_follows_170 : decode cX6_follows 170 = .ok (.aload_n 0, 1) := by decide +kernel
theorem dX6_follows_171 : decode cX6_follows 171 = .ok (.invokevirtual 162, 3) := by decide +kernel
theorem dX6_follows_174 : decode cX6_follows 174 = .ok (.ifCond .eq 15, 3) := by decide +kernel
theorem dX6_follows_177 : decode cX6_follows 177 = .ok (.aload_n 0, 1) := by decide +kernel
theorem dX6_follows_178 : decode cX6_follows 178 = .ok (.iload_n 2, 1) := by decide +kernel
theorem dX6_follows_179 : decode cX6_follows 179 = .ok (.invokevirtual 165, 3) := by decide +kernel
theorem dX6_follows_182 : decode cX6_follows 182 = .ok (.ifCond .lt 7, 3) := by decide +kernel
theorem dX6_follows_185 : decode cX6_follows 185 = .ok (.iconst 1, 1) := by decide +kernel
theorem dX6_follows_186 : decode cX6_follows 186 = .ok (.goto 4, 3) := by decide +kernel
theorem dX6_follows_189 : decode cX6_follows 189 = .ok (.iconst 0, 1) := by decide +kernel
theorem dX6_follows_190 : decode cX6_follows 190 = .ok (.ireturn, 1) := by decide +kernel
theorem dX6_follows_191 : decode cX6_follows 191 = .ok (.aload_n 0, 1) := by decide +kernel
theorem dX6_follows_192 : decode cX6_follows 192 = .ok (.iload_n 2, 1) := by decide +kernel
theorem dX6_follows_193 : decode cX6_follows 193 = .ok (.invokevirtual 168, 3) := by decide +kernel
theorem dX6_follows_196 : decode cX6_follows 196 = .ok (.ifCond .eq 16, 3) := by decide +kernel
theorem dX6_follows_199 : decode cX6_follows 199 = .ok (.aload_n 0, 1) := by decide +kernel
theorem dX6_follows_200 : decode cX6_follows 200 = .ok (.iload_n 2, 1) := by decide +kernel
theorem dX6_follows_201 : decode cX6_follows 201 = .ok (.iload_n 3, 1) := by decide +kernel
theorem dX6_follows_202 : decode cX6_follows 202 = .ok (.invokevirtual 171, 3) := by decide +kernel
theorem dX6_follows_205 : decode cX6_follows 205 = .ok (.ifCond .lt 7, 3) := by decide +kernel
theorem dX6_follows_208 : decode cX6_follows 208 = .ok (.iconst 1, 1) := by decide +kernel
theorem dX6_follows_209 : decode cX6_follows 209 = .ok (.goto 4, 3) := by decide +kernel
theorem dX6_follows_212 : decode cX6_follows 212 = .ok (.iconst 0, 1) := by decide +kernel
theorem dX6_follows_213 : decode cX6_follows 213 = .ok (.ireturn, 1) := by decide +kernel
theorem dX6_follows_214 : decode cX6_follows 214 = .ok (.aload_n 0, 1) := by decide +kernel
theorem dX6_follows_215 : decode cX6_follows 215 = .ok (.iload_n 2, 1) := by decide +kernel
theorem dX6_follows_216 : decode cX6_follows 216 = .ok (.invokevirtual 174, 3) := by decide +kernel
theorem dX6_follows_219 : decode cX6_follows 219 = .ok (.ifCond .eq 15, 3) := by decide +kernel
theorem dX6_follows_222 : decode cX6_follows 222 = .ok (.aload_n 0, 1) := by decide +kernel
theorem dX6_follows_223 : decode cX6_follows 223 = .ok (.iload_n 2, 1) := by decide +kernel
theorem dX6_follows_224 : decode cX6_follows 224 = .ok (.invokevirtual 177, 3) := by decide +kernel
theorem dX6_follows_227 : decode cX6_follows 227 = .ok (.ifCond .lt 7, 3) := by decide +kernel
theorem dX6_follows_230 : decode cX6_follows 230 = .ok (.iconst 1, 1) := by decide +kernel
theorem dX6_follows_231 : decode cX6_follows 231 = .ok (.goto 4, 3) := by decide +kernel
theorem dX6_follows_234 : decode cX6_follows 234 = .ok (.iconst 0, 1) := by decide +kernel
theorem dX6_follows_235 : decode cX6_follows 235 = .ok (.ireturn, 1) := by decide +kernel
theorem dX6_follow_0 : decode cX6_follow 0 = .ok (.aload_n 0, 1) := by decide +kernel
theorem dX6_follow_1 : decode cX6_follow 1 = .ok (.aload_n 0, 1) := by decide +kernel
theorem dX6_follow_2 : decode cX6_follow 2 = .ok (.invokevirtual 209, 3) := by decide +kernel
theorem dX6_follow_5 : decode cX6_follow 5 = .ok (.ifCond .eq 7, 3) := by decide +kernel
theorem dX6_follow_8 : decode cX6_follow 8 = .ok (.iconst 0, 1) := by decide +kernel
theorem dX6_follow_9 : decode cX6_follow 9 = .ok (.goto 4, 3) := by decide +kernel
theorem dX6_follow_12 : decode cX6_follow 12 = .ok (.iconst 1, 1) := by decide +kernel
theorem dX6_follow_13 : decode cX6_follow 13 = .ok (.putfield 38, 3) := by decide +kernel
theorem dX6_follow_16 : decode cX6_follow 16 = .ok (.aload_n 0, 1) := by decide +kernel
theorem dX6_follow_17 : decode cX6_follow 17 = .ok (.getfield 38, 3) := by decide +kernel
theorem dX6_follow_20 : decode cX6_follow 20 = .ok (.ifCond .le 5, 3) := by decide +kernel
theorem dX6_follow_23 : decode cX6_follow 23 = .ok (.iconst 0, 1) := by decide +kernel
theorem dX6_follow_24 : decode cX6_follow 24 = .ok (.ireturn, 1) := by decide +kernel
theorem dX6_follow_25 : decode cX6_follow 25 = .ok (.aload_n 0, 1) := by decide +kernel
theorem dX6_follow_26 : decode cX6_follow 26 = .ok (.getfield 7, 3) := by decide +kernel
theorem dX6_follow_29 : decode cX6_follow 29 = .ok (.iconst 0, 1) := by decide +kernel
theorem dX6_follow_30 : decode cX6_follow 30 = .ok (.aload_n 0, 1) := by decide +kernel
theorem dX6_follow_31 : decode cX6_follow 31 = .ok (.getfield 23, 3) := by decide +kernel
theorem dX6_follow_34 : decode cX6_follow 34 = .ok (.iconst 0, 1) := by decide +kernel
theorem dX6_follow_35 : decode cX6_follow 35 = .ok (.invokestatic 46, 3) := by decide +kernel
theorem dX6_follow_38 : decode cX6_follow 38 = .ok (.iconst 0, 1) := by decide +kernel
theorem dX6_follow_39 : decode cX6_follow 39 = .ok (.istore_n 1, 1) := by decide +kernel
theorem dX6_follow_40 : decode cX6_follow 40 = .ok (.iload_n 1, 1) := by decide +kernel
theorem dX6_follow_41 : decode cX6_follow 41 = .ok (.aload_n 0, 1) := by decide +kernel
theorem dX6_follow_42 : decode cX6_follow 42 = .ok (.getfield 193, 3) := by decide +kernel
theorem dX6_follow_45 : decode cX6_follow 45 = .ok (.if_icmp .ge 17, 3) := by decide +kernel
theorem dX6_follow_48 : decode cX6_follow 48 = .ok (.aload_n 0, 1) := by decide +kernel
theorem dX6_follow_49 : decode cX6_follow 49 = .ok (.iload_n 1, 1) := by decide +kernel
theorem dX6_follow_50 : decode cX6_follow 50 = .ok (.invokevirtual 212, 3) := by decide +kernel
theorem dX6_follow_53 : decode cX6_follow 53 = .ok (.ifCond .eq 9, 3) := by decide +kernel
theorem dX6_follow_56 : decode cX6_follow 56 = .ok (.iinc 1 1, 3) := by decide +kernel
theorem dX6_follow_59 : decode cX6_follow 59 = .ok (.goto (-19), 3) := by decide +kernel
theorem dX6_follow_62 : decode cX6_follow 62 = .ok (.iload_n 1, 1) := by decide +kernel
theorem dX6_follow_63 : decode cX6_follow 63 = .ok (.aload_n 0, 1) := by decide +kernel
theorem dX6_follow_64 : decode cX6_follow 64 = .ok (.getfield 193, 3) := by decide +kernel
theorem dX6_follow_67 : decode cX6_follow 67 = .ok (.if_icmp .ge 22, 3) := by decide +kernel
theorem dX6_follow_70 : decode cX6_follow 70 = .ok (.aload_n 0, 1) := by decide +kernel
theorem dX6_follow_71 : decode cX6_follow 71 = .ok (.getfield 23, 3) := by decide +kernel
theorem dX6_follow_74 : decode cX6_follow 74 = .ok (.iconst 0, 1) := by decide +kernel
theorem dX6_follow_75 : decode cX6_follow 75 = .ok (.aload_n 0, 1) := by decide +kernel
theorem dX6_follow_76 : decode cX6_follow 76 = .ok (.getfield 7, 3) := by decide +kernel
theorem dX6_follow_79 : decode cX6_follow 79 = .ok (.iconst 0, 1) := by decide +kernel
theorem dX6_follow_80 : decode cX6_follow 80 = .ok (.invokestatic 46, 3) := by decide +kernel
theorem dX6_follow_83 : decode cX6_follow 83 = .ok (.aload_n 0, 1) := by decide +kernel
theorem dX6_follow_84 : decode cX6_follow 84 = .ok (.iconst 2, 1) := by decide +kernel
theorem dX6_follow_85 : decode cX6_follow 85 = .ok (.invokevirtual 215, 3) := by decide +kernel
theorem dX6_follow_88 : decode cX6_follow 88 = .ok (.ireturn, 1) := by decide +kernel
theorem dX6_follow_89 : decode cX6_follow 89 = .ok (.aload_n 0, 1) := by decide +kernel
theorem dX6_follow_90 : decode cX6_follow 90 = .ok (.aload_n 0, 1) := by decide +kernel
theorem dX6_follow_91 : decode cX6_follow 91 = .ok (.getfield 23, 3) := by decide +kernel
theorem dX6_follow_94 : decode cX6_follow 94 = .ok (.invokevirtual 139, 3) := by decide +kernel
theorem dX6_follow_97 : decode cX6_follow 97 = .ok (.aload_n 0, 1) := by decide +kernel
theorem dX6_follow_98 : decode cX6_follow 98 = .ok (.iconst 0, 1) := by decide +kernel
theorem dX6_follow_99 : decode cX6_follow 99 = .ok (.putfield 184, 3) := by decide +kernel
theorem dX6_follow_102 : decode cX6_follow 102 = .ok (.aload_n 0, 1) := by decide +kernel
theorem dX6_follow_103 : decode cX6_follow 103 = .ok (.invokevirtual 113, 3) := by decide +kernel
theorem dX6_follow_106 : decode cX6_follow 106 = .ok (.ireturn, 1) := by decide +kernel
theorem dX6_keep_0 : decode cX6_keep 0 = .ok (.aload_n 0, 1) := by decide +kernel
theorem dX6_keep_1 : decode cX6_keep 1 = .ok (.iload_n 1, 1) := by decide +kernel
theorem dX6_keep_2 : decode cX6_keep 2 = .ok (.iconst 0, 1) := by decide +kernel
theorem dX6_keep_3 : decode cX6_keep 3 = .ok (.iconst 1, 1) := by decide +kernel
theorem dX6_keep_4 : decode cX6_keep 4 = .ok (.invokestatic 50, 3) := by decide +kernel
theorem dX6_keep_7 : decode cX6_keep 7 = .ok (.ifCond .eq 7, 3) := by decide +kernel
theorem dX6_keep_10 : decode cX6_keep 10 = .ok (.iconst 0, 1) := by decide +kernel
theorem dX6_keep_11 : decode cX6_keep 11 = .ok (.goto 4, 3) := by decide +kernel
theorem dX6_keep_14 : decode cX6_keep 14 = .ok (.iconst 1, 1) := by decide +kernel
theorem dX6_keep_15 : decode cX6_keep 15 = .ok (.putfield 38, 3) := by decide +kernel
theorem dX6_keep_18 : decode cX6_keep 18 = .ok (.aload_n 0, 1) := by decide +kernel
theorem dX6_keep_19 : decode cX6_keep 19 = .ok (.getfield 38, 3) := by decide +kernel
theorem dX6_keep_22 : decode cX6_keep 22 = .ok (.ifCond .ne 27, 3) := by decide +kernel
theorem dX6_keep_25 : decode cX6_keep 25 = .ok (.aload_n 0, 1) := by decide +kernel
theorem dX6_keep_26 : decode cX6_keep 26 = .ok (.getfield 7, 3) := by decide +kernel
theorem dX6_keep_29 : decode cX6_keep 29 = .ok (.iconst 0, 1) := by decide +kernel
theorem dX6_keep_30 : decode cX6_keep 30 = .ok (.aload_n 0, 1) := by decide +kernel
theorem dX6_keep_31 : decode cX6_keep 31 = .ok (.getfield 17, 3) := by decide +kernel
theorem dX6_keep_34 : decode cX6_keep 34 = .ok (.sipush 6696, 3) := by decide +kernel
theorem dX6_keep_37 : decode cX6_keep 37 = .ok (.iload_n 1, 1) := by decide +kernel
theorem dX6_keep_38 : decode cX6_keep 38 = .ok (.imul, 1) := by decide +kernel
theorem dX6_keep_39 : decode cX6_keep 39 = .ok (.invokestatic 46, 3) := by decide +kernel
theorem dX6_keep_42 : decode cX6_keep 42 = .ok (.aload_n 0, 1) := by decide +kernel
theorem dX6_keep_43 : decode cX6_keep 43 = .ok (.getfield 20, 3) := by decide +kernel
theorem dX6_keep_46 : decode cX6_keep 46 = .ok (.iload_n 1, 1) := by decide +kernel
theorem dX6_keep_47 : decode cX6_keep 47 = .ok (.iconst 1, 1) := by decide +kernel
theorem dX6_keep_48 : decode cX6_keep 48 = .ok (.iastore, 1) := by decide +kernel
theorem dX6_keep_49 : decode cX6_keep 49 = .ok (.return_, 1) := by decide +kernel
theorem dX6_goBack_0 : decode cX6_goBack 0 = .ok (.aload_n 0, 1) := by decide +kernel
theorem dX6_goBack_1 : decode cX6_goBack 1 = .ok (.iload_n 1, 1) := by decide +kernel
theorem dX6_goBack_2 : decode cX6_goBack 2 = .ok (.iconst 0, 1) := by decide +kernel
theorem dX6_goBack_3 : decode cX6_goBack 3 = .ok (.iconst 1, 1) := by decide +kernel
theorem dX6_goBack_4 : decode cX6_goBack 4 = .ok (.invokestatic 50, 3) := by decide +kernel
theorem dX6_goBack_7 : decode cX6_goBack 7 = .ok (.ifCond .ne 7, 3) := by decide +kernel
theorem dX6_goBack_10 : decode cX6_goBack 10 = .ok (.iconst 1, 1) := by decide +kernel
theorem dX6_goBack_11 : decode cX6_goBack 11 = .ok (.goto 17, 3) := by decide +kernel
theorem dX6_goBack_14 : decode cX6_goBack 14 = .ok (.aload_n 0, 1) := by decide +kernel
theorem dX6_goBack_15 : decode cX6_goBack 15 = .ok (.getfield 20, 3) := by decide +kernel
theorem dX6_goBack_18 : decode cX6_goBack 18 = .ok (.iload_n 1, 1) := by decide +kernel
theorem dX6_goBack_19 : decode cX6_goBack 19 = .ok (.iaload, 1) := by decide +kernel
theorem dX6_goBack_20 : decode cX6_goBack 20 = .ok (.ifCond .ne 7, 3) := by decide +kernel
theorem dX6_goBack_23 : decode cX6_goBack 23 = .ok (.iconst 2, 1) := by decide +kernel
theorem dX6_goBack_24 : decode cX6_goBack 24 = .ok (.goto 4, 3) := by decide +kernel
theorem dX6_goBack_27 : decode cX6_goBack 27 = .ok (.iconst 0, 1) := by decide +kernel
theorem dX6_goBack_28 : decode cX6_goBack 28 = .ok (.putfield 38, 3) := by decide +kernel
theorem dX6_goBack_31 : decode cX6_goBack 31 = .ok (.aload_n 0, 1) := by decide +kernel
theorem dX6_goBack_32 : decode cX6_goBack 32 = .ok (.getfield 38, 3) := by decide +kernel
theorem dX6_goBack_35 : decode cX6_goBack 35 = .ok (.ifCond .ne 28, 3) := by decide +kernel
theorem dX6_goBack_38 : decode cX6_goBack 38 = .ok (.aload_n 0, 1) := by decide +kernel
theorem dX6_goBack_39 : decode cX6_goBack 39 = .ok (.aload_n 0, 1) := by decide +kernel
theorem dX6_goBack_40 : decode cX6_goBack 40 = .ok (.getfield 7, 3) := by decide +kernel
theorem dX6_goBack_43 : decode cX6_goBack 43 = .ok (.invokevirtual 139, 3) := by decide +kernel
theorem dX6_goBack_46 : decode cX6_goBack 46 = .ok (.aload_n 0, 1) := by decide +kernel
theorem dX6_goBack_47 : decode cX6_goBack 47 = .ok (.getfield 17, 3) := by decide +kernel
theorem dX6_goBack_50 : decode cX6_goBack 50 = .ok (.sipush 6696, 3) := by decide +kernel
theorem dX6_goBack_53 : decode cX6_goBack 53 = .ok (.iload_n 1, 1) := by decide +kernel
theorem dX6_goBack_54 : decode cX6_goBack 54 = .ok (.imul, 1) := by decide +kernel
theorem dX6_goBack_55 : decode cX6_goBack 55 = .ok (.aload_n 0, 1) := by decide +kernel
theorem dX6_goBack_56 : decode cX6_goBack 56 = .ok (.getfield 7, 3) := by decide +kernel
theorem dX6_goBack_59 : decode cX6_goBack 59 = .ok (.iconst 0, 1) := by decide +kernel
theorem dX6_goBack_60 : decode cX6_goBack 60 = .ok (.invokestatic 46, 3) := by decide +kernel
theorem dX6_goBack_63 : decode cX6_goBack 63 = .ok (.return_, 1) := by decide +kernel
theorem dX6_undo_0 : decode cX6_undo 0 = .ok (.aload_n 0, 1) := by decide +kernel
theorem dX6_undo_1 : decode cX6_undo 1 = .ok (.aload_n 0, 1) := by decide +kernel
theorem dX6_undo_2 : decode cX6_undo 2 = .ok (.getfield 42, 3) := by decide +kernel
theorem dX6_undo_5 : decode cX6_undo 5 = .ok (.ifCond .ne 7, 3) := by decide +kernel
theorem dX6_undo_8 : decode cX6_undo 8 = .ok (.iconst 1, 1) := by decide +kernel
theorem dX6_undo_9 : decode cX6_undo 9 = .ok (.goto 4, 3) := by decide +kernel
theorem dX6_undo_12 : decode cX6_undo 12 = .ok (.iconst 0, 1) := by decide +kernel
theorem dX6_undo_13 : decode cX6_undo 13 = .ok (.putfield 38, 3) := by decide +kernel
theorem dX6_undo_16 : decode cX6_undo 16 = .ok (.aload_n 0, 1) := by decide +kernel
theorem dX6_undo_17 : decode cX6_undo 17 = .ok (.getfield 38, 3) := by decide +kernel
theorem dX6_undo_20 : decode cX6_undo 20 = .ok (.ifCond .ne 33, 3) := by decide +kernel
theorem dX6_undo_23 : decode cX6_undo 23 = .ok (.aload_n 0, 1) := by decide +kernel
theorem dX6_undo_24 : decode cX6_undo 24 = .ok (.dup, 1) := by decide +kernel
theorem dX6_undo_25 : decode cX6_undo 25 = .ok (.getfield 42, 3) := by decide +kernel
theorem dX6_undo_28 : decode cX6_undo 28 = .ok (.iconst 1, 1) := by decide +kernel
theorem dX6_undo_29 : decode cX6_undo 29 = .ok (.isub, 1) := by decide +kernel
theorem dX6_undo_30 : decode cX6_undo 30 = .ok (.putfield 42, 3) := by decide +kernel
theorem dX6_undo_33 : decode cX6_undo 33 = .ok (.aload_n 0, 1) := by decide +kernel
theorem dX6_undo_34 : decode cX6_undo 34 = .ok (.getfield 14, 3) := by decide +kernel
theorem dX6_undo_37 : decode cX6_undo 37 = .ok (.sipush 6696, 3) := by decide +kernel
theorem dX6_undo_40 : decode cX6_undo 40 = .ok (.aload_n 0, 1) := by decide +kernel
theorem dX6_undo_41 : decode cX6_undo 41 = .ok (.getfield 42, 3) := by decide +kernel
theorem dX6_undo_44 : decode cX6_undo 44 = .ok (.imul, 1) := by decide +kernel
theorem dX6_undo_45 : decode cX6_undo 45 = .ok (.aload_n 0, 1) := by decide +kernel
theorem dX6_undo_46 : decode cX6_undo 46 = .ok (.getfield 7, 3) := by decide +kernel
theorem dX6_undo_49 : decode cX6_undo 49 = .ok (.iconst 0, 1) := by decide +kernel
theorem dX6_undo_50 : decode cX6_undo 50 = .ok (.invokestatic 46, 3) := by decide +kernel
theorem dX6_undo_53 : decode cX6_undo 53 = .ok (.return_, 1) := by decide +kernel
theorem dX6_savedStates_0 : decode cX6_savedStates 0 = .ok (.aload_n 0, 1) := by decide +kernel
theorem dX6_savedStates_1 : decode cX6_savedStates 1 = .ok (.iconst 0, 1) := by decide +kernel
theorem dX6_savedStates_2 : decode cX6_savedStates 2 = .ok (.putfield 38, 3) := by decide +kernel
theorem dX6_savedStates_5 : decode cX6_savedStates 5 = .ok (.aload_n 0, 1) := by decide +kernel
theorem dX6_savedStates_6 : decode cX6_savedStates 6 = .ok (.getfield 42, 3) := by decide +kernel
theorem dX6_savedStates_9 : decode cX6_savedStates 9 = .ok (.ireturn, 1) := by decide +kernel
theorem dX6_isFound_0 : decode cX6_isFound 0 = .ok (.aload_n 0, 1) := by decide +kernel
theorem dX6_isFound_1 : decode cX6_isFound 1 = .ok (.iload_n 1, 1) := by decide +kernel
theorem dX6_isFound_2 : decode cX6_isFound 2 = .ok (.invokestatic 129, 3) := by decide +kernel
theorem dX6_isFound_5 : decode cX6_isFound 5 = .ok (.ifCond .eq 7, 3) := by decide +kernel
theorem dX6_isFound_8 : decode cX6_isFound 8 = .ok (.iconst 0, 1) := by decide +kernel
theorem dX6_isFound_9 : decode cX6_isFound 9 = .ok (.goto 4, 3) := by decide +kernel
theorem dX6_isFound_12 : decode cX6_isFound 12 = .ok (.iconst 1, 1) := by decide +kernel
theorem dX6_isFound_13 : decode cX6_isFound 13 = .ok (.putfield 38, 3) := by decide +kernel
theorem dX6_isFound_16 : decode cX6_isFound 16 = .ok (.aload_n 0, 1) := by decide +kernel
theorem dX6_isFound_17 : decode cX6_isFound 17 = .ok (.getfield 38, 3) := by decide +kernel
theorem dX6_isFound_20 : decode cX6_isFound 20 = .ok (.ifCond .ne 16, 3) := by decide +kernel
theorem dX6_isFound_23 : decode cX6_isFound 23 = .ok (.aload_n 0, 1) := by decide +kernel
theorem dX6_isFound_24 : decode cX6_isFound 24 = .ok (.iload_n 1, 1) := by decide +kernel
theorem dX6_isFound_25 : decode cX6_isFound 25 = .ok (.invokevirtual 110, 3) := by decide +kernel
theorem dX6_isFound_28 : decode cX6_isFound 28 = .ok (.iconst (-1), 1) := by decide +kernel
theorem dX6_isFound_29 : decode cX6_isFound 29 = .ok (.if_icmp .eq 7, 3) := by decide +kernel
theorem dX6_isFound_32 : decode cX6_isFound 32 = .ok (.iconst 1, 1) := by decide +kernel
theorem dX6_isFound_33 : decode cX6_isFound 33 = .ok (.goto 4, 3) := by decide +kernel
theorem dX6_isFound_36 : decode cX6_isFound 36 = .ok (.iconst 0, 1) := by decide +kernel
theorem dX6_isFound_37 : decode cX6_isFound 37 = .ok (.ireturn, 1) := by decide +kernel
theorem dX6_isFoundByTree_0 : decode cX6_isFoundByTree 0 = .ok (.aload_n 0, 1) := by decide +kernel
theorem dX6_isFoundByTree_1 : decode cX6_isFoundByTree 1 = .ok (.iload_n 1, 1) := by decide +kernel
theorem dX6_isFoundByTree_2 : decode cX6_isFoundByTree 2 = .ok (.invokevirtual 218, 3) := by decide +kernel
theorem dX6_isFoundByTree_5 : decode cX6_isFoundByTree 5 = .ok (.ireturn, 1) := by decide +kernel
theorem dX6_isFoundByGoing_0 : decode cX6_isFoundByGoing 0 = .ok (.aload_n 0, 1) := by decide +kernel
theorem dX6_isFoundByGoing_1 : decode cX6_isFoundByGoing 1 = .ok (.iload_n 1, 1) := by decide +kernel
theorem dX6_isFoundByGoing_2 : decode cX6_isFoundByGoing 2 = .ok (.invokevirtual 218, 3) := by decide +kernel
theorem dX6_isFoundByGoing_5 : decode cX6_isFoundByGoing 5 = .ok (.ireturn, 1) := by decide +kernel
theorem dX6_valueOf_0 : decode cX6_valueOf 0 = .ok (.aload_n 0, 1) := by decide +kernel
theorem dX6_valueOf_1 : decode cX6_valueOf 1 = .ok (.iload_n 1, 1) := by decide +kernel
theorem dX6_valueOf_2 : decode cX6_valueOf 2 = .ok (.invokestatic 129, 3) := by decide +kernel
theorem dX6_valueOf_5 : decode cX6_valueOf 5 = .ok (.ifCond .ne 7, 3) := by decide +kernel
theorem dX6_valueOf_8 : decode cX6_valueOf 8 = .ok (.iconst 1, 1) := by decide +kernel
theorem dX6_valueOf_9 : decode cX6_valueOf 9 = .ok (.goto 17, 3) := by decide +kernel
theorem dX6_valueOf_12 : decode cX6_valueOf 12 = .ok (.aload_n 0, 1) := by decide +kernel
theorem dX6_valueOf_13 : decode cX6_valueOf 13 = .ok (.iload_n 1, 1) := by decide +kernel
theorem dX6_valueOf_14 : decode cX6_valueOf 14 = .ok (.invokevirtual 110, 3) := by decide +kernel
theorem dX6_valueOf_17 : decode cX6_valueOf 17 = .ok (.iconst (-1), 1) := by decide +kernel
theorem dX6_valueOf_18 : decode cX6_valueOf 18 = .ok (.if_icmp .ne 7, 3) := by decide +kernel
theorem dX6_valueOf_21 : decode cX6_valueOf 21 = .ok (.iconst 2, 1) := by decide +kernel
theorem dX6_valueOf_22 : decode cX6_valueOf 22 = .ok (.goto 4, 3) := by decide +kernel
theorem dX6_valueOf_25 : decode cX6_valueOf 25 = .ok (.iconst 0, 1) := by decide +kernel
theorem dX6_valueOf_26 : decode cX6_valueOf 26 = .ok (.putfield 38, 3) := by decide +kernel
theorem dX6_valueOf_29 : decode cX6_valueOf 29 = .ok (.aload_n 0, 1) := by decide +kernel
theorem dX6_valueOf_30 : decode cX6_valueOf 30 = .ok (.getfield 38, 3) := by decide +kernel
theorem dX6_valueOf_33 : decode cX6_valueOf 33 = .ok (.ifCond .le 7, 3) := by decide +kernel
theorem dX6_valueOf_36 : decode cX6_valueOf 36 = .ok (.iconst 0, 1) := by decide +kernel
theorem dX6_valueOf_37 : decode cX6_valueOf 37 = .ok (.goto 8, 3) := by decide +kernel
theorem dX6_valueOf_40 : decode cX6_valueOf 40 = .ok (.aload_n 0, 1) := by decide +kernel
theorem dX6_valueOf_41 : decode cX6_valueOf 41 = .ok (.iload_n 1, 1) := by decide +kernel
theorem dX6_valueOf_42 : decode cX6_valueOf 42 = .ok (.invokevirtual 110, 3) := by decide +kernel
theorem dX6_valueOf_45 : decode cX6_valueOf 45 = .ok (.ireturn, 1) := by decide +kernel
theorem dX6_pagesFor_0 : decode cX6_pagesFor 0 = .ok (.aload_n 0, 1) := by decide +kernel
theorem dX6_pagesFor_1 : decode cX6_pagesFor 1 = .ok (.iload_n 1, 1) := by decide +kernel
theorem dX6_pagesFor_2 : decode cX6_pagesFor 2 = .ok (.invokestatic 129, 3) := by decide +kernel
theorem dX6_pagesFor_5 : decode cX6_pagesFor 5 = .ok (.ifCond .eq 7, 3) := by decide +kernel
theorem dX6_pagesFor_8 : decode cX6_pagesFor 8 = .ok (.iconst 0, 1) := by decide +kernel
theorem dX6_pagesFor_9 : decode cX6_pagesFor 9 = .ok (.goto 4, 3) := by decide +kernel
theorem dX6_pagesFor_12 : decode cX6_pagesFor 12 = .ok (.iconst 1, 1) := by decide +kernel
theorem dX6_pagesFor_13 : decode cX6_pagesFor 13 = .ok (.putfield 38, 3) := by decide +kernel
theorem dX6_pagesFor_16 : decode cX6_pagesFor 16 = .ok (.aload_n 0, 1) := by decide +kernel
theorem dX6_pagesFor_17 : decode cX6_pagesFor 17 = .ok (.getfield 38, 3) := by decide +kernel
theorem dX6_pagesFor_20 : decode cX6_pagesFor 20 = .ok (.ifCond .le 7, 3) := by decide +kernel
theorem dX6_pagesFor_23 : decode cX6_pagesFor 23 = .ok (.iconst 0, 1) := by decide +kernel
theorem dX6_pagesFor_24 : decode cX6_pagesFor 24 = .ok (.goto 8, 3) := by decide +kernel
theorem dX6_pagesFor_27 : decode cX6_pagesFor 27 = .ok (.aload_n 0, 1) := by decide +kernel
theorem dX6_pagesFor_28 : decode cX6_pagesFor 28 = .ok (.iload_n 1, 1) := by decide +kernel
theorem dX6_pagesFor_29 : decode cX6_pagesFor 29 = .ok (.invokevirtual 221, 3) := by decide +kernel
theorem dX6_pagesFor_32 : decode cX6_pagesFor 32 = .ok (.ireturn, 1) := by decide +kernel
theorem dX6_counts_0 : decode cX6_counts 0 = .ok (.aload_n 0, 1) := by decide +kernel
theorem dX6_counts_1 : decode cX6_counts 1 = .ok (.iload_n 1, 1) := by decide +kernel
theorem dX6_counts_2 : decode cX6_counts 2 = .ok (.invokestatic 129, 3) := by decide +kernel
theorem dX6_counts_5 : decode cX6_counts 5 = .ok (.ifCond .eq 18, 3) := by decide +kernel
theorem dX6_counts_8 : decode cX6_counts 8 = .ok (.iload_n 2, 1) := by decide +kernel
theorem dX6_counts_9 : decode cX6_counts 9 = .ok (.iload_n 1, 1) := by decide +kernel
theorem dX6_counts_10 : decode cX6_counts 10 = .ok (.sipush 9999, 3) := by decide +kernel
theorem dX6_counts_13 : decode cX6_counts 13 = .ok (.invokestatic 50, 3) := by decide +kernel
theorem dX6_counts_16 : decode cX6_counts 16 = .ok (.ifCond .eq 7, 3) := by decide +kernel
theorem dX6_counts_19 : decode cX6_counts 19 = .ok (.iconst 0, 1) := by decide +kernel
theorem dX6_counts_20 : decode cX6_counts 20 = .ok (.goto 4, 3) := by decide +kernel
theorem dX6_counts_23 : decode cX6_counts 23 = .ok (.iconst 1, 1) := by decide +kernel
theorem dX6_counts_24 : decode cX6_counts 24 = .ok (.putfield 38, 3) := by decide +kernel
theorem dX6_counts_27 : decode cX6_counts 27 = .ok (.aload_n 0, 1) := by decide +kernel
theorem dX6_counts_28 : decode cX6_counts 28 = .ok (.getfield 38, 3) := by decide +kernel
theorem dX6_counts_31 : decode cX6_counts 31 = .ok (.ifCond .le 7, 3) := by decide +kernel
theorem dX6_counts_34 : decode cX6_counts 34 = .ok (.iconst 0, 1) := by decide +kernel
theorem dX6_counts_35 : decode cX6_counts 35 = .ok (.goto 9, 3) := by decide +kernel
theorem dX6_counts_38 : decode cX6_counts 38 = .ok (.aload_n 0, 1) := by decide +kernel
theorem dX6_counts_39 : decode cX6_counts 39 = .ok (.iload_n 1, 1) := by decide +kernel
theorem dX6_counts_40 : decode cX6_counts 40 = .ok (.iload_n 2, 1) := by decide +kernel
theorem dX6_counts_41 : decode cX6_counts 41 = .ok (.invokevirtual 224, 3) := by decide +kernel
theorem dX6_counts_44 : decode cX6_counts 44 = .ok (.ireturn, 1) := by decide +kernel
theorem dX6_countByLeaves_0 : decode cX6_countByLeaves 0 = .ok (.aload_n 0, 1) := by decide +kernel
theorem dX6_countByLeaves_1 : decode cX6_countByLeaves 1 = .ok (.iload_n 1, 1) := by decide +kernel
theorem dX6_countByLeaves_2 : decode cX6_countByLeaves 2 = .ok (.iload_n 2, 1) := by decide +kernel
theorem dX6_countByLeaves_3 : decode cX6_countByLeaves 3 = .ok (.invokevirtual 227, 3) := by decide +kernel
theorem dX6_countByLeaves_6 : decode cX6_countByLeaves 6 = .ok (.ireturn, 1) := by decide +kernel
theorem dX6_countByNext_0 : decode cX6_countByNext 0 = .ok (.aload_n 0, 1) := by decide +kernel
theorem dX6_countByNext_1 : decode cX6_countByNext 1 = .ok (.iload_n 1, 1) := by decide +kernel
theorem dX6_countByNext_2 : decode cX6_countByNext 2 = .ok (.iload_n 2, 1) := by decide +kernel
theorem dX6_countByNext_3 : decode cX6_countByNext 3 = .ok (.invokevirtual 227, 3) := by decide +kernel
theorem dX6_countByNext_6 : decode cX6_countByNext 6 = .ok (.ireturn, 1) := by decide +kernel
theorem dX6_beside_0 : decode cX6_beside 0 = .ok (.aload_n 0, 1) := by decide +kernel
theorem dX6_beside_1 : decode cX6_beside 1 = .ok (.invokevirtual 113, 3) := by decide +kernel
theorem dX6_beside_4 : decode cX6_beside 4 = .ok (.istore_n 3, 1) := by decide +kernel
theorem dX6_beside_5 : decode cX6_beside 5 = .ok (.iload_n 2, 1) := by decide +kernel
theorem dX6_beside_6 : decode cX6_beside 6 = .ok (.ifCond .eq 7, 3) := by decide +kernel
theorem dX6_beside_9 : decode cX6_beside 9 = .ok (.iconst 0, 1) := by decide +kernel
theorem dX6_beside_10 : decode cX6_beside 10 = .ok (.goto 6, 3) := by decide +kernel
theorem dX6_beside_13 : decode cX6_beside 13 = .ok (.iload_n 3, 1) := by decide +kernel
theorem dX6_beside_14 : decode cX6_beside 14 = .ok (.iconst 1, 1) := by decide +kernel
theorem dX6_beside_15 : decode cX6_beside 15 = .ok (.isub, 1) := by decide +kernel
theorem dX6_beside_16 : decode cX6_beside 16 = .ok (.istore 4, 2) := by decide +kernel
theorem dX6_beside_18 : decode cX6_beside 18 = .ok (.iload_n 2, 1) := by decide +kernel
theorem dX6_beside_19 : decode cX6_beside 19 = .ok (.ifCond .eq 28, 3) := by decide +kernel
theorem dX6_beside_22 : decode cX6_beside 22 = .ok (.iload 4, 2) := by decide +kernel
theorem dX6_beside_24 : decode cX6_beside 24 = .ok (.iload_n 3, 1) := by decide +kernel
theorem dX6_beside_25 : decode cX6_beside 25 = .ok (.if_icmp .ge 22, 3) := by decide +kernel
theorem dX6_beside_28 : decode cX6_beside 28 = .ok (.aload_n 0, 1) := by decide +kernel
theorem dX6_beside_29 : decode cX6_beside 29 = .ok (.getfield 29, 3) := by decide +kernel
theorem dX6_beside_32 : decode cX6_beside 32 = .ok (.iconst 2, 1) := by decide +kernel
theorem dX6_beside_33 : decode cX6_beside 33 = .ok (.iload 4, 2) := by decide +kernel
theorem dX6_beside_35 : decode cX6_beside 35 = .ok (.imul, 1) := by decide +kernel
theorem dX6_beside_36 : decode cX6_beside 36 = .ok (.iaload, 1) := by decide +kernel
theorem dX6_beside_37 : decode cX6_beside 37 = .ok (.iload_n 1, 1) := by decide +kernel
theorem dX6_beside_38 : decode cX6_beside 38 = .ok (.if_icmp .gt 9, 3) := by decide +kernel
theorem dX6_beside_41 : decode cX6_beside 41 = .ok (.iinc 4 1, 3) := by decide +kernel
theorem dX6_beside_44 : decode cX6_beside 44 = .ok (.goto (-26), 3) := by decide +kernel
theorem dX6_beside_47 : decode cX6_beside 47 = .ok (.iload_n 2, 1) := by decide +kernel
theorem dX6_beside_48 : decode cX6_beside 48 = .ok (.ifCond .ne 27, 3) := by decide +kernel
theorem dX6_beside_51 : decode cX6_beside 51 = .ok (.iload 4, 2) := by decide +kernel
theorem dX6_beside_53 : decode cX6_beside 53 = .ok (.ifCond .lt 22, 3) := by decide +kernel
theorem dX6_beside_56 : decode cX6_beside 56 = .ok (.aload_n 0, 1) := by decide +kernel
theorem dX6_beside_57 : decode cX6_beside 57 = .ok (.getfield 29, 3) := by decide +kernel
theorem dX6_beside_60 : decode cX6_beside 60 = .ok (.iconst 2, 1) := by decide +kernel
theorem dX6_beside_61 : decode cX6_beside 61 = .ok (.iload 4, 2) := by decide +kernel
theorem dX6_beside_63 : decode cX6_beside 63 = .ok (.imul, 1) := by decide +kernel
theorem dX6_beside_64 : decode cX6_beside 64 = .ok (.iaload, 1) := by decide +kernel
theorem dX6_beside_65 : decode cX6_beside 65 = .ok (.iload_n 1, 1) := by decide +kernel
theorem dX6_beside_66 : decode cX6_beside 66 = .ok (.if_icmp .lt 9, 3) := by decide +kernel
theorem dX6_beside_69 : decode cX6_beside 69 = .ok (.iinc 4 (-1), 3) := by decide +kernel
theorem dX6_beside_72 : decode cX6_beside 72 = .ok (.goto (-25), 3) := by decide +kernel
theorem dX6_beside_75 : decode cX6_beside 75 = .ok (.iload 4, 2) := by decide +kernel
theorem dX6_beside_77 : decode cX6_beside 77 = .ok (.iload_n 3, 1) := by decide +kernel
theorem dX6_beside_78 : decode cX6_beside 78 = .ok (.if_icmp .ne 7, 3) := by decide +kernel
theorem dX6_beside_81 : decode cX6_beside 81 = .ok (.iconst (-1), 1) := by decide +kernel
theorem dX6_beside_82 : decode cX6_beside 82 = .ok (.goto 5, 3) := by decide +kernel
theorem dX6_beside_85 : decode cX6_beside 85 = .ok (.iload 4, 2) := by decide +kernel
theorem dX6_beside_87 : decode cX6_beside 87 = .ok (.ireturn, 1) := by decide +kernel
theorem dX6_keyBeside_0 : decode cX6_keyBeside 0 = .ok (.aload_n 0, 1) := by decide +kernel
theorem dX6_keyBeside_1 : decode cX6_keyBeside 1 = .ok (.iload_n 1, 1) := by decide +kernel
theorem dX6_keyBeside_2 : decode cX6_keyBeside 2 = .ok (.invokestatic 129, 3) := by decide +kernel
theorem dX6_keyBeside_5 : decode cX6_keyBeside 5 = .ok (.ifCond .ne 7, 3) := by decide +kernel
theorem dX6_keyBeside_8 : decode cX6_keyBeside 8 = .ok (.iconst 1, 1) := by decide +kernel
theorem dX6_keyBeside_9 : decode cX6_keyBeside 9 = .ok (.goto 18, 3) := by decide +kernel
theorem dX6_keyBeside_12 : decode cX6_keyBeside 12 = .ok (.aload_n 0, 1) := by decide +kernel
theorem dX6_keyBeside_13 : decode cX6_keyBeside 13 = .ok (.iload_n 1, 1) := by decide +kernel
theorem dX6_keyBeside_14 : decode cX6_keyBeside 14 = .ok (.iload_n 2, 1) := by decide +kernel
theorem dX6_keyBeside_15 : decode cX6_keyBeside 15 = .ok (.invokevirtual 230, 3) := by decide +kernel
theorem dX6_keyBeside_18 : decode cX6_keyBeside 18 = .ok (.iconst (-1), 1) := by decide +kernel
theorem dX6_keyBeside_19 : decode cX6_keyBeside 19 = .ok (.if_icmp .ne 7, 3) := by decide +kernel
theorem dX6_keyBeside_22 : decode cX6_keyBeside 22 = .ok (.iconst 2, 1) := by decide +kernel
theorem dX6_keyBeside_23 : decode cX6_keyBeside 23 = .ok (.goto 4, 3) := by decide +kernel
theorem dX6_keyBeside_26 : decode cX6_keyBeside 26 = .ok (.iconst 0, 1) := by decide +kernel
theorem dX6_keyBeside_27 : decode cX6_keyBeside 27 = .ok (.putfield 38, 3) := by decide +kernel
theorem dX6_keyBeside_30 : decode cX6_keyBeside 30 = .ok (.aload_n 0, 1) := by decide +kernel
theorem dX6_keyBeside_31 : decode cX6_keyBeside 31 = .ok (.getfield 38, 3) := by decide +kernel
theorem dX6_keyBeside_34 : decode cX6_keyBeside 34 = .ok (.ifCond .le 7, 3) := by decide +kernel
theorem dX6_keyBeside_37 : decode cX6_keyBeside 37 = .ok (.iconst 0, 1) := by decide +kernel
theorem dX6_keyBeside_38 : decode cX6_keyBeside 38 = .ok (.goto 16, 3) := by decide +kernel
theorem dX6_keyBeside_41 : decode cX6_keyBeside 41 = .ok (.aload_n 0, 1) := by decide +kernel
theorem dX6_keyBeside_42 : decode cX6_keyBeside 42 = .ok (.getfield 29, 3) := by decide +kernel
theorem dX6_keyBeside_45 : decode cX6_keyBeside 45 = .ok (.iconst 2, 1) := by decide +kernel
theorem dX6_keyBeside_46 : decode cX6_keyBeside 46 = .ok (.aload_n 0, 1) := by decide +kernel
theorem dX6_keyBeside_47 : decode cX6_keyBeside 47 = .ok (.iload_n 1, 1) := by decide +kernel
theorem dX6_keyBeside_48 : decode cX6_keyBeside 48 = .ok (.iload_n 2, 1) := by decide +kernel
theorem dX6_keyBeside_49 : decode cX6_keyBeside 49 = .ok (.invokevirtual 230, 3) := by decide +kernel
theorem dX6_keyBeside_52 : decode cX6_keyBeside 52 = .ok (.imul, 1) := by decide +kernel
theorem dX6_keyBeside_53 : decode cX6_keyBeside 53 = .ok (.iaload, 1) := by decide +kernel
theorem dX6_keyBeside_54 : decode cX6_keyBeside 54 = .ok (.ireturn, 1) := by decide +kernel
theorem dX6_nextKey_0 : decode cX6_nextKey 0 = .ok (.aload_n 0, 1) := by decide +kernel
theorem dX6_nextKey_1 : decode cX6_nextKey 1 = .ok (.iload_n 1, 1) := by decide +kernel
theorem dX6_nextKey_2 : decode cX6_nextKey 2 = .ok (.iconst 1, 1) := by decide +kernel
theorem dX6_nextKey_3 : decode cX6_nextKey 3 = .ok (.invokevirtual 234, 3) := by decide +kernel
theorem dX6_nextKey_6 : decode cX6_nextKey 6 = .ok (.ireturn, 1) := by decide +kernel
theorem dX6_keyBefore_0 : decode cX6_keyBefore 0 = .ok (.aload_n 0, 1) := by decide +kernel
theorem dX6_keyBefore_1 : decode cX6_keyBefore 1 = .ok (.iload_n 1, 1) := by decide +kernel
theorem dX6_keyBefore_2 : decode cX6_keyBefore 2 = .ok (.iconst 0, 1) := by decide +kernel
theorem dX6_keyBefore_3 : decode cX6_keyBefore 3 = .ok (.invokevirtual 234, 3) := by decide +kernel
theorem dX6_keyBefore_6 : decode cX6_keyBefore 6 = .ok (.ireturn, 1) := by decide +kernel
theorem dX6_found_0 : decode cX6_found 0 = .ok (.aload_n 0, 1) := by decide +kernel
theorem dX6_found_1 : decode cX6_found 1 = .ok (.iconst 0, 1) := by decide +kernel
theorem dX6_found_2 : decode cX6_found 2 = .ok (.putfield 38, 3) := by decide +kernel
theorem dX6_found_5 : decode cX6_found 5 = .ok (.aload_n 0, 1) := by decide +kernel
theorem dX6_found_6 : decode cX6_found 6 = .ok (.invokevirtual 113, 3) := by decide +kernel
theorem dX6_found_9 : decode cX6_found 9 = .ok (.ireturn, 1) := by decide +kernel
theorem dX6_keyAt_0 : decode cX6_keyAt 0 = .ok (.aload_n 0, 1) := by decide +kernel
theorem dX6_keyAt_1 : decode cX6_keyAt 1 = .ok (.iload_n 1, 1) := by decide +kernel
theorem dX6_keyAt_2 : decode cX6_keyAt 2 = .ok (.iconst 0, 1) := by decide +kernel
theorem dX6_keyAt_3 : decode cX6_keyAt 3 = .ok (.aload_n 0, 1) := by decide +kernel
theorem dX6_keyAt_4 : decode cX6_keyAt 4 = .ok (.invokevirtual 113, 3) := by decide +kernel
theorem dX6_keyAt_7 : decode cX6_keyAt 7 = .ok (.iconst 1, 1) := by decide +kernel
theorem dX6_keyAt_8 : decode cX6_keyAt 8 = .ok (.isub, 1) := by decide +kernel
theorem dX6_keyAt_9 : decode cX6_keyAt 9 = .ok (.invokestatic 50, 3) := by decide +kernel
theorem dX6_keyAt_12 : decode cX6_keyAt 12 = .ok (.ifCond .eq 7, 3) := by decide +kernel
theorem dX6_keyAt_15 : decode cX6_keyAt 15 = .ok (.iconst 0, 1) := by decide +kernel
theorem dX6_keyAt_16 : decode cX6_keyAt 16 = .ok (.goto 4, 3) := by decide +kernel
theorem dX6_keyAt_19 : decode cX6_keyAt 19 = .ok (.iconst 1, 1) := by decide +kernel
theorem dX6_keyAt_20 : decode cX6_keyAt 20 = .ok (.putfield 38, 3) := by decide +kernel
theorem dX6_keyAt_23 : decode cX6_keyAt 23 = .ok (.aload_n 0, 1) := by decide +kernel
theorem dX6_keyAt_24 : decode cX6_keyAt 24 = .ok (.getfield 38, 3) := by decide +kernel
theorem dX6_keyAt_27 : decode cX6_keyAt 27 = .ok (.ifCond .le 7, 3) := by decide +kernel
theorem dX6_keyAt_30 : decode cX6_keyAt 30 = .ok (.iconst 0, 1) := by decide +kernel
theorem dX6_keyAt_31 : decode cX6_keyAt 31 = .ok (.goto 11, 3) := by decide +kernel
theorem dX6_keyAt_34 : decode cX6_keyAt 34 = .ok (.aload_n 0, 1) := by decide +kernel
theorem dX6_keyAt_35 : decode cX6_keyAt 35 = .ok (.getfield 29, 3) := by decide +kernel
theorem dX6_keyAt_38 : decode cX6_keyAt 38 = .ok (.iconst 2, 1) := by decide +kernel
theorem dX6_keyAt_39 : decode cX6_keyAt 39 = .ok (.iload_n 1, 1) := by decide +kernel
theorem dX6_keyAt_40 : decode cX6_keyAt 40 = .ok (.imul, 1) := by decide +kernel
theorem dX6_keyAt_41 : decode cX6_keyAt 41 = .ok (.iaload, 1) := by decide +kernel
theorem dX6_keyAt_42 : decode cX6_keyAt 42 = .ok (.ireturn, 1) := by decide +kernel
theorem dX6_runs_0 : decode cX6_runs 0 = .ok (.aload_n 0, 1) := by decide +kernel
theorem dX6_runs_1 : decode cX6_runs 1 = .ok (.iconst 0, 1) := by decide +kernel
theorem dX6_runs_2 : decode cX6_runs 2 = .ok (.putfield 38, 3) := by decide +kernel
theorem dX6_runs_5 : decode cX6_runs 5 = .ok (.aload_n 0, 1) := by decide +kernel
theorem dX6_runs_6 : decode cX6_runs 6 = .ok (.getfield 7, 3) := by decide +kernel
theorem dX6_runs_9 : decode cX6_runs 9 = .ok (.bipush 6, 2) := by decide +kernel
theorem dX6_runs_11 : decode cX6_runs 11 = .ok (.iaload, 1) := by decide +kernel
theorem dX6_runs_12 : decode cX6_runs 12 = .ok (.ireturn, 1) := by decide +kernel
theorem dX6_isRun_0 : decode cX6_isRun 0 = .ok (.iload_n 1, 1) := by decide +kernel
theorem dX6_isRun_1 : decode cX6_isRun 1 = .ok (.iconst 0, 1) := by decide +kernel
theorem dX6_isRun_2 : decode cX6_isRun 2 = .ok (.aload_n 0, 1) := by decide +kernel
theorem dX6_isRun_3 : decode cX6_isRun 3 = .ok (.getfield 7, 3) := by decide +kernel
theorem dX6_isRun_6 : decode cX6_isRun 6 = .ok (.bipush 6, 2) := by decide +kernel
theorem dX6_isRun_8 : decode cX6_isRun 8 = .ok (.iaload, 1) := by decide +kernel
theorem dX6_isRun_9 : decode cX6_isRun 9 = .ok (.invokestatic 50, 3) := by decide +kernel
theorem dX6_isRun_12 : decode cX6_isRun 12 = .ok (.ireturn, 1) := by decide +kernel
theorem dX6_isPlace_0 : decode cX6_isPlace 0 = .ok (.aload_n 0, 1) := by decide +kernel
theorem dX6_isPlace_1 : decode cX6_isPlace 1 = .ok (.iload_n 1, 1) := by decide +kernel
theorem dX6_isPlace_2 : decode cX6_isPlace 2 = .ok (.invokevirtual 237, 3) := by decide +kernel
theorem dX6_isPlace_5 : decode cX6_isPlace 5 = .ok (.ifCond .eq 22, 3) := by decide +kernel
theorem dX6_isPlace_8 : decode cX6_isPlace 8 = .ok (.iload_n 2, 1) := by decide +kernel
theorem dX6_isPlace_9 : decode cX6_isPlace 9 = .ok (.iconst 0, 1) := by decide +kernel
theorem dX6_isPlace_10 : decode cX6_isPlace 10 = .ok (.aload_n 0, 1) := by decide +kernel
theorem dX6_isPlace_11 : decode cX6_isPlace 11 = .ok (.iload_n 1, 1) := by decide +kernel
theorem dX6_isPlace_12 : decode cX6_isPlace 12 = .ok (.invokevirtual 54, 3) := by decide +kernel
theorem dX6_isPlace_15 : decode cX6_isPlace 15 = .ok (.iconst 1, 1) := by decide +kernel
theorem dX6_isPlace_16 : decode cX6_isPlace 16 = .ok (.isub, 1) := by decide +kernel
theorem dX6_isPlace_17 : decode cX6_isPlace 17 = .ok (.invokestatic 50, 3) := by decide +kernel
theorem dX6_isPlace_20 : decode cX6_isPlace 20 = .ok (.ifCond .eq 7, 3) := by decide +kernel
theorem dX6_isPlace_23 : decode cX6_isPlace 23 = .ok (.iconst 1, 1) := by decide +kernel
theorem dX6_isPlace_24 : decode cX6_isPlace 24 = .ok (.goto 4, 3) := by decide +kernel
theorem dX6_isPlace_27 : decode cX6_isPlace 27 = .ok (.iconst 0, 1) := by decide +kernel
theorem dX6_isPlace_28 : decode cX6_isPlace 28 = .ok (.ireturn, 1) := by decide +kernel
theorem dX6_sizeOf_0 : decode cX6_sizeOf 0 = .ok (.aload_n 0, 1) := by decide +kernel
theorem dX6_sizeOf_1 : decode cX6_sizeOf 1 = .ok (.aload_n 0, 1) := by decide +kernel
theorem dX6_sizeOf_2 : decode cX6_sizeOf 2 = .ok (.iload_n 1, 1) := by decide +kernel
theorem dX6_sizeOf_3 : decode cX6_sizeOf 3 = .ok (.invokevirtual 237, 3) := by decide +kernel
theorem dX6_sizeOf_6 : decode cX6_sizeOf 6 = .ok (.ifCond .eq 7, 3) := by decide +kernel
theorem dX6_sizeOf_9 : decode cX6_sizeOf 9 = .ok (.iconst 0, 1) := by decide +kernel
theorem dX6_sizeOf_10 : decode cX6_sizeOf 10 = .ok (.goto 4, 3) := by decide +kernel
theorem dX6_sizeOf_13 : decode cX6_sizeOf 13 = .ok (.iconst 1, 1) := by decide +kernel
theorem dX6_sizeOf_14 : decode cX6_sizeOf 14 = .ok (.putfield 38, 3) := by decide +kernel
theorem dX6_sizeOf_17 : decode cX6_sizeOf 17 = .ok (.aload_n 0, 1) := by decide +kernel
theorem dX6_sizeOf_18 : decode cX6_sizeOf 18 = .ok (.getfield 38, 3) := by decide +kernel
theorem dX6_sizeOf_21 : decode cX6_sizeOf 21 = .ok (.ifCond .le 7, 3) := by decide +kernel
theorem dX6_sizeOf_24 : decode cX6_sizeOf 24 = .ok (.iconst 0, 1) := by decide +kernel
theorem dX6_sizeOf_25 : decode cX6_sizeOf 25 = .ok (.goto 8, 3) := by decide +kernel
theorem dX6_sizeOf_28 : decode cX6_sizeOf 28 = .ok (.aload_n 0, 1) := by decide +kernel
theorem dX6_sizeOf_29 : decode cX6_sizeOf 29 = .ok (.iload_n 1, 1) := by decide +kernel
theorem dX6_sizeOf_30 : decode cX6_sizeOf 30 = .ok (.invokevirtual 54, 3) := by decide +kernel
theorem dX6_sizeOf_33 : decode cX6_sizeOf 33 = .ok (.ireturn, 1) := by decide +kernel
theorem dX6_keyIn_0 : decode cX6_keyIn 0 = .ok (.aload_n 0, 1) := by decide +kernel
theorem dX6_keyIn_1 : decode cX6_keyIn 1 = .ok (.aload_n 0, 1) := by decide +kernel
theorem dX6_keyIn_2 : decode cX6_keyIn 2 = .ok (.iload_n 1, 1) := by decide +kernel
theorem dX6_keyIn_3 : decode cX6_keyIn 3 = .ok (.iload_n 2, 1) := by decide +kernel
theorem dX6_keyIn_4 : decode cX6_keyIn 4 = .ok (.invokevirtual 240, 3) := by decide +kernel
theorem dX6_keyIn_7 : decode cX6_keyIn 7 = .ok (.ifCond .eq 7, 3) := by decide +kernel
theorem dX6_keyIn_10 : decode cX6_keyIn 10 = .ok (.iconst 0, 1) := by decide +kernel
theorem dX6_keyIn_11 : decode cX6_keyIn 11 = .ok (.goto 4, 3) := by decide +kernel
theorem dX6_keyIn_14 : decode cX6_keyIn 14 = .ok (.iconst 1, 1) := by decide +kernel
theorem dX6_keyIn_15 : decode cX6_keyIn 15 = .ok (.putfield 38, 3) := by decide +kernel
theorem dX6_keyIn_18 : decode cX6_keyIn 18 = .ok (.aload_n 0, 1) := by decide +kernel
theorem dX6_keyIn_19 : decode cX6_keyIn 19 = .ok (.getfield 38, 3) := by decide +kernel
theorem dX6_keyIn_22 : decode cX6_keyIn 22 = .ok (.ifCond .le 7, 3) := by decide +kernel
theorem dX6_keyIn_25 : decode cX6_keyIn 25 = .ok (.iconst 0, 1) := by decide +kernel
theorem dX6_keyIn_26 : decode cX6_keyIn 26 = .ok (.goto 9, 3) := by decide +kernel
theorem dX6_keyIn_29 : decode cX6_keyIn 29 = .ok (.aload_n 0, 1) := by decide +kernel
theorem dX6_keyIn_30 : decode cX6_keyIn 30 = .ok (.iload_n 1, 1) := by decide +kernel
theorem dX6_keyIn_31 : decode cX6_keyIn 31 = .ok (.iload_n 2, 1) := by decide +kernel
theorem dX6_keyIn_32 : decode cX6_keyIn 32 = .ok (.invokevirtual 58, 3) := by decide +kernel
theorem dX6_keyIn_35 : decode cX6_keyIn 35 = .ok (.ireturn, 1) := by decide +kernel
theorem dX6_isGoneIn_0 : decode cX6_isGoneIn 0 = .ok (.aload_n 0, 1) := by decide +kernel
theorem dX6_isGoneIn_1 : decode cX6_isGoneIn 1 = .ok (.aload_n 0, 1) := by decide +kernel
theorem dX6_isGoneIn_2 : decode cX6_isGoneIn 2 = .ok (.iload_n 1, 1) := by decide +kernel
theorem dX6_isGoneIn_3 : decode cX6_isGoneIn 3 = .ok (.iload_n 2, 1) := by decide +kernel
theorem dX6_isGoneIn_4 : decode cX6_isGoneIn 4 = .ok (.invokevirtual 240, 3) := by decide +kernel
theorem dX6_isGoneIn_7 : decode cX6_isGoneIn 7 = .ok (.ifCond .eq 7, 3) := by decide +kernel
theorem dX6_isGoneIn_10 : decode cX6_isGoneIn 10 = .ok (.iconst 0, 1) := by decide +kernel
theorem dX6_isGoneIn_11 : decode cX6_isGoneIn 11 = .ok (.goto 4, 3) := by decide +kernel
theorem dX6_isGoneIn_14 : decode cX6_isGoneIn 14 = .ok (.iconst 1, 1) := by decide +kernel
theorem dX6_isGoneIn_15 : decode cX6_isGoneIn 15 = .ok (.putfield 38, 3) := by decide +kernel
theorem dX6_isGoneIn_18 : decode cX6_isGoneIn 18 = .ok (.aload_n 0, 1) := by decide +kernel
theorem dX6_isGoneIn_19 : decode cX6_isGoneIn 19 = .ok (.getfield 38, 3) := by decide +kernel
theorem dX6_isGoneIn_22 : decode cX6_isGoneIn 22 = .ok (.ifCond .ne 17, 3) := by decide +kernel
theorem dX6_isGoneIn_25 : decode cX6_isGoneIn 25 = .ok (.aload_n 0, 1) := by decide +kernel
theorem dX6_isGoneIn_26 : decode cX6_isGoneIn 26 = .ok (.iload_n 1, 1) := by decide +kernel
theorem dX6_isGoneIn_27 : decode cX6_isGoneIn 27 = .ok (.iload_n 2, 1) := by decide +kernel
theorem dX6_isGoneIn_28 : decode cX6_isGoneIn 28 = .ok (.invokevirtual 65, 3) := by decide +kernel
theorem dX6_isGoneIn_31 : decode cX6_isGoneIn 31 = .ok (.iconst (-1), 1) := by decide +kernel
theorem dX6_isGoneIn_32 : decode cX6_isGoneIn 32 = .ok (.if_icmp .ne 7, 3) := by decide +kernel
theorem dX6_isGoneIn_35 : decode cX6_isGoneIn 35 = .ok (.iconst 1, 1) := by decide +kernel
theorem dX6_isGoneIn_36 : decode cX6_isGoneIn 36 = .ok (.goto 4, 3) := by decide +kernel
theorem dX6_isGoneIn_39 : decode cX6_isGoneIn 39 = .ok (.iconst 0, 1) := by decide +kernel
theorem dX6_isGoneIn_40 : decode cX6_isGoneIn 40 = .ok (.ireturn, 1) := by decide +kernel
theorem dX6_runOf_0 : decode cX6_runOf 0 = .ok (.aload_n 0, 1) := by decide +kernel
theorem dX6_runOf_1 : decode cX6_runOf 1 = .ok (.iload_n 1, 1) := by decide +kernel
theorem dX6_runOf_2 : decode cX6_runOf 2 = .ok (.invokestatic 129, 3) := by decide +kernel
theorem dX6_runOf_5 : decode cX6_runOf 5 = .ok (.ifCond .ne 7, 3) := by decide +kernel
theorem dX6_runOf_8 : decode cX6_runOf 8 = .ok (.iconst 1, 1) := by decide +kernel
theorem dX6_runOf_9 : decode cX6_runOf 9 = .ok (.goto 17, 3) := by decide +kernel
theorem dX6_runOf_12 : decode cX6_runOf 12 = .ok (.aload_n 0, 1) := by decide +kernel
theorem dX6_runOf_13 : decode cX6_runOf 13 = .ok (.iload_n 1, 1) := by decide +kernel
theorem dX6_runOf_14 : decode cX6_runOf 14 = .ok (.invokevirtual 85, 3) := by decide +kernel
theorem dX6_runOf_17 : decode cX6_runOf 17 = .ok (.iconst (-1), 1) := by decide +kernel
theorem dX6_runOf_18 : decode cX6_runOf 18 = .ok (.if_icmp .ne 7, 3) := by decide +kernel
theorem dX6_runOf_21 : decode cX6_runOf 21 = .ok (.iconst 2, 1) := by decide +kernel
theorem dX6_runOf_22 : decode cX6_runOf 22 = .ok (.goto 4, 3) := by decide +kernel
theorem dX6_runOf_25 : decode cX6_runOf 25 = .ok (.iconst 0, 1) := by decide +kernel
theorem dX6_runOf_26 : decode cX6_runOf 26 = .ok (.putfield 38, 3) := by decide +kernel
theorem dX6_runOf_29 : decode cX6_runOf 29 = .ok (.aload_n 0, 1) := by decide +kernel
theorem dX6_runOf_30 : decode cX6_runOf 30 = .ok (.getfield 38, 3) := by decide +kernel
theorem dX6_runOf_33 : decode cX6_runOf 33 = .ok (.ifCond .le 7, 3) := by decide +kernel
theorem dX6_runOf_36 : decode cX6_runOf 36 = .ok (.iconst 0, 1) := by decide +kernel
theorem dX6_runOf_37 : decode cX6_runOf 37 = .ok (.goto 8, 3) := by decide +kernel
theorem dX6_runOf_40 : decode cX6_runOf 40 = .ok (.aload_n 0, 1) := by decide +kernel
theorem dX6_runOf_41 : decode cX6_runOf 41 = .ok (.iload_n 1, 1) := by decide +kernel
theorem dX6_runOf_42 : decode cX6_runOf 42 = .ok (.invokevirtual 85, 3) := by decide +kernel
theorem dX6_runOf_45 : decode cX6_runOf 45 = .ok (.ireturn, 1) := by decide +kernel
theorem dX6_entries_0 : decode cX6_entries 0 = .ok (.aload_n 0, 1) := by decide +kernel
theorem dX6_entries_1 : decode cX6_entries 1 = .ok (.iconst 0, 1) := by decide +kernel
theorem dX6_entries_2 : decode cX6_entries 2 = .ok (.putfield 38, 3) := by decide +kernel
theorem dX6_entries_5 : decode cX6_entries 5 = .ok (.aload_n 0, 1) := by decide +kernel
theorem dX6_entries_6 : decode cX6_entries 6 = .ok (.getfield 7, 3) := by decide +kernel
theorem dX6_entries_9 : decode cX6_entries 9 = .ok (.bipush 7, 2) := by decide +kernel
theorem dX6_entries_11 : decode cX6_entries 11 = .ok (.iaload, 1) := by decide +kernel
theorem dX6_entries_12 : decode cX6_entries 12 = .ok (.ireturn, 1) := by decide +kernel
theorem dX6_leaves_0 : decode cX6_leaves 0 = .ok (.aload_n 0, 1) := by decide +kernel
theorem dX6_leaves_1 : decode cX6_leaves 1 = .ok (.iconst 0, 1) := by decide +kernel
theorem dX6_leaves_2 : decode cX6_leaves 2 = .ok (.putfield 38, 3) := by decide +kernel
theorem dX6_leaves_5 : decode cX6_leaves 5 = .ok (.aload_n 0, 1) := by decide +kernel
theorem dX6_leaves_6 : decode cX6_leaves 6 = .ok (.getfield 7, 3) := by decide +kernel
theorem dX6_leaves_9 : decode cX6_leaves 9 = .ok (.bipush 8, 2) := by decide +kernel
theorem dX6_leaves_11 : decode cX6_leaves 11 = .ok (.iaload, 1) := by decide +kernel
theorem dX6_leaves_12 : decode cX6_leaves 12 = .ok (.ireturn, 1) := by decide +kernel
theorem dX6_isLeaf_0 : decode cX6_isLeaf 0 = .ok (.iload_n 1, 1) := by decide +kernel
theorem dX6_isLeaf_1 : decode cX6_isLeaf 1 = .ok (.iconst 0, 1) := by decide +kernel
theorem dX6_isLeaf_2 : decode cX6_isLeaf 2 = .ok (.aload_n 0, 1) := by decide +kernel
theorem dX6_isLeaf_3 : decode cX6_isLeaf 3 = .ok (.getfield 7, 3) := by decide +kernel
theorem dX6_isLeaf_6 : decode cX6_isLeaf 6 = .ok (.bipush 8, 2) := by decide +kernel
theorem dX6_isLeaf_8 : decode cX6_isLeaf 8 = .ok (.iaload, 1) := by decide +kernel
theorem dX6_isLeaf_9 : decode cX6_isLeaf 9 = .ok (.iconst 1, 1) := by decide +kernel
theorem dX6_isLeaf_10 : decode cX6_isLeaf 10 = .ok (.isub, 1) := by decide +kernel
theorem dX6_isLeaf_11 : decode cX6_isLeaf 11 = .ok (.invokestatic 50, 3) := by decide +kernel
theorem dX6_isLeaf_14 : decode cX6_isLeaf 14 = .ok (.ireturn, 1) := by decide +kernel
theorem dX6_entriesOf_0 : decode cX6_entriesOf 0 = .ok (.aload_n 0, 1) := by decide +kernel
theorem dX6_entriesOf_1 : decode cX6_entriesOf 1 = .ok (.aload_n 0, 1) := by decide +kernel
theorem dX6_entriesOf_2 : decode cX6_entriesOf 2 = .ok (.iload_n 1, 1) := by decide +kernel
theorem dX6_entriesOf_3 : decode cX6_entriesOf 3 = .ok (.invokevirtual 243, 3) := by decide +kernel
theorem dX6_entriesOf_6 : decode cX6_entriesOf 6 = .ok (.ifCond .eq 7, 3) := by decide +kernel
theorem dX6_entriesOf_9 : decode cX6_entriesOf 9 = .ok (.iconst 0, 1) := by decide +kernel
theorem dX6_entriesOf_10 : decode cX6_entriesOf 10 = .ok (.goto 4, 3) := by decide +kernel
theorem dX6_entriesOf_13 : decode cX6_entriesOf 13 = .ok (.iconst 1, 1) := by decide +kernel
theorem dX6_entriesOf_14 : decode cX6_entriesOf 14 = .ok (.putfield 38, 3) := by decide +kernel
theorem dX6_entriesOf_17 : decode cX6_entriesOf 17 = .ok (.aload_n 0, 1) := by decide +kernel
theorem dX6_entriesOf_18 : decode cX6_entriesOf 18 = .ok (.getfield 38, 3) := by decide +kernel
theorem dX6_entriesOf_21 : decode cX6_entriesOf 21 = .ok (.ifCond .le 7, 3) := by decide +kernel
theorem dX6_entriesOf_24 : decode cX6_entriesOf 24 = .ok (.iconst 0, 1) := by decide +kernel
theorem dX6_entriesOf_25 : decode cX6_entriesOf 25 = .ok (.goto 8, 3) := by decide +kernel
theorem dX6_entriesOf_28 : decode cX6_entriesOf 28 = .ok (.aload_n 0, 1) := by decide +kernel
theorem dX6_entriesOf_29 : decode cX6_entriesOf 29 = .ok (.iload_n 1, 1) := by decide +kernel
theorem dX6_entriesOf_30 : decode cX6_entriesOf 30 = .ok (.invokevirtual 98, 3) := by decide +kernel
theorem dX6_entriesOf_33 : decode cX6_entriesOf 33 = .ok (.ireturn, 1) := by decide +kernel
theorem dX6_entryAt_0 : decode cX6_entryAt 0 = .ok (.iconst 0, 1) := by decide +kernel
theorem dX6_entryAt_1 : decode cX6_entryAt 1 = .ok (.istore_n 3, 1) := by decide +kernel
theorem dX6_entryAt_2 : decode cX6_entryAt 2 = .ok (.iload_n 3, 1) := by decide +kernel
theorem dX6_entryAt_3 : decode cX6_entryAt 3 = .ok (.aload_n 0, 1) := by decide +kernel
theorem dX6_entryAt_4 : decode cX6_entryAt 4 = .ok (.getfield 7, 3) := by decide +kernel
theorem dX6_entryAt_7 : decode cX6_entryAt 7 = .ok (.bipush 7, 2) := by decide +kernel
theorem dX6_entryAt_9 : decode cX6_entryAt 9 = .ok (.iaload, 1) := by decide +kernel
theorem dX6_entryAt_10 : decode cX6_entryAt 10 = .ok (.if_icmp .ge 124, 3) := by decide +kernel
theorem dX6_entryAt_13 : decode cX6_entryAt 13 = .ok (.iconst 0, 1) := by decide +kernel
theorem dX6_entryAt_14 : decode cX6_entryAt 14 = .ok (.istore 4, 2) := by decide +kernel
theorem dX6_entryAt_16 : decode cX6_entryAt 16 = .ok (.aload_n 0, 1) := by decide +kernel
theorem dX6_entryAt_17 : decode cX6_entryAt 17 = .ok (.iload_n 3, 1) := by decide +kernel
theorem dX6_entryAt_18 : decode cX6_entryAt 18 = .ok (.iconst 2, 1) := by decide +kernel
theorem dX6_entryAt_19 : decode cX6_entryAt 19 = .ok (.invokevirtual 72, 3) := by decide +kernel
theorem dX6_entryAt_22 : decode cX6_entryAt 22 = .ok (.iload_n 1, 1) := by decide +kernel
theorem dX6_entryAt_23 : decode cX6_entryAt 23 = .ok (.if_icmp .ne 16, 3) := by decide +kernel
theorem dX6_entryAt_26 : decode cX6_entryAt 26 = .ok (.aload_n 0, 1) := by decide +kernel
theorem dX6_entryAt_27 : decode cX6_entryAt 27 = .ok (.iload_n 3, 1) := by decide +kernel
theorem dX6_entryAt_28 : decode cX6_entryAt 28 = .ok (.iconst 3, 1) := by decide +kernel
theorem dX6_entryAt_29 : decode cX6_entryAt 29 = .ok (.invokevirtual 72, 3) := by decide +kernel
theorem dX6_entryAt_32 : decode cX6_entryAt 32 = .ok (.ifCond .ne 7, 3) := by decide +kernel
theorem dX6_entryAt_35 : decode cX6_entryAt 35 = .ok (.iconst 1, 1) := by decide +kernel
theorem dX6_entryAt_36 : decode cX6_entryAt 36 = .ok (.goto 4, 3) := by decide +kernel
theorem dX6_entryAt_39 : decode cX6_entryAt 39 = .ok (.iconst 0, 1) := by decide +kernel
theorem dX6_entryAt_40 : decode cX6_entryAt 40 = .ok (.istore 5, 2) := by decide +kernel
theorem dX6_entryAt_42 : decode cX6_entryAt 42 = .ok (.iconst 0, 1) := by decide +kernel
theorem dX6_entryAt_43 : decode cX6_entryAt 43 = .ok (.istore 6, 2) := by decide +kernel
theorem dX6_entryAt_45 : decode cX6_entryAt 45 = .ok (.iload 6, 2) := by decide +kernel
theorem dX6_entryAt_47 : decode cX6_entryAt 47 = .ok (.aload_n 0, 1) := by decide +kernel
theorem dX6_entryAt_48 : decode cX6_entryAt 48 = .ok (.getfield 7, 3) := by decide +kernel
theorem dX6_entryAt_51 : decode cX6_entryAt 51 = .ok (.bipush 7, 2) := by decide +kernel
theorem dX6_entryAt_53 : decode cX6_entryAt 53 = .ok (.iaload, 1) := by decide +kernel
theorem dX6_entryAt_54 : decode cX6_entryAt 54 = .ok (.if_icmp .ge 61, 3) := by decide +kernel
theorem dX6_entryAt_57 : decode cX6_entryAt 57 = .ok (.iload 5, 2) := by decide +kernel
theorem dX6_entryAt_59 : decode cX6_entryAt 59 = .ok (.ifCond .eq 56, 3) := by decide +kernel
theorem dX6_entryAt_62 : decode cX6_entryAt 62 = .ok (.iload 4, 2) := by decide +kernel
theorem dX6_entryAt_64 : decode cX6_entryAt 64 = .ok (.aload_n 0, 1) := by decide +kernel
theorem dX6_entryAt_65 : decode cX6_entryAt 65 = .ok (.iload 6, 2) := by decide +kernel
theorem dX6_entryAt_67 : decode cX6_entryAt 67 = .ok (.iconst 2, 1) := by decide +kernel
theorem dX6_entryAt_68 : decode cX6_entryAt 68 = .ok (.invokevirtual 72, 3) := by decide +kernel
theorem dX6_entryAt_71 : decode cX6_entryAt 71 = .ok (.iload_n 1, 1) := by decide +kernel
theorem dX6_entryAt_72 : decode cX6_entryAt 72 = .ok (.if_icmp .ne 33, 3) := by decide +kernel
theorem dX6_entryAt_75 : decode cX6_entryAt 75 = .ok (.aload_n 0, 1) := by decide +kernel
theorem dX6_entryAt_76 : decode cX6_entryAt 76 = .ok (.iload 6, 2) := by decide +kernel
theorem dX6_entryAt_78 : decode cX6_entryAt 78 = .ok (.iconst 3, 1) := by decide +kernel
theorem dX6_entryAt_79 : decode cX6_entryAt 79 = .ok (.invokevirtual 72, 3) := by decide +kernel
theorem dX6_entryAt_82 : decode cX6_entryAt 82 = .ok (.ifCond .ne 23, 3) := by decide +kernel
theorem dX6_entryAt_85 : decode cX6_entryAt 85 = .ok (.aload_n 0, 1) := by decide +kernel
theorem dX6_entryAt_86 : decode cX6_entryAt 86 = .ok (.iload 6, 2) := by decide +kernel
theorem dX6_entryAt_88 : decode cX6_entryAt 88 = .ok (.iconst 0, 1) := by decide +kernel
theorem dX6_entryAt_89 : decode cX6_entryAt 89 = .ok (.invokevirtual 72, 3) := by decide +kernel
theorem dX6_entryAt_92 : decode cX6_entryAt 92 = .ok (.aload_n 0, 1) := by decide +kernel
theorem dX6_entryAt_93 : decode cX6_entryAt 93 = .ok (.iload_n 3, 1) := by decide +kernel
theorem dX6_entryAt_94 : decode cX6_entryAt 94 = .ok (.iconst 0, 1) := by decide +kernel
theorem dX6_entryAt_95 : decode cX6_entryAt 95 = .ok (.invokevirtual 72, 3) := by decide +kernel
theorem dX6_entryAt_98 : decode cX6_entryAt 98 = .ok (.if_icmp .ge 7, 3) := by decide +kernel
theorem dX6_entryAt_101 : decode cX6_entryAt 101 = .ok (.iconst 1, 1) := by decide +kernel
theorem dX6_entryAt_102 : decode cX6_entryAt 102 = .ok (.goto 4, 3) := by decide +kernel
theorem dX6_entryAt_105 : decode cX6_entryAt 105 = .ok (.iconst 0, 1) := by decide +kernel
theorem dX6_entryAt_106 : decode cX6_entryAt 106 = .ok (.iadd, 1) := by decide +kernel
theorem dX6_entryAt_107 : decode cX6_entryAt 107 = .ok (.istore 4, 2) := by decide +kernel
theorem dX6_entryAt_109 : decode cX6_entryAt 109 = .ok (.iinc 6 1, 3) := by decide +kernel
theorem dX6_entryAt_112 : decode cX6_entryAt 112 = .ok (.goto (-67), 3) := by decide +kernel
theorem dX6_entryAt_115 : decode cX6_entryAt 115 = .ok (.iload 5, 2) := by decide +kernel
theorem dX6_entryAt_117 : decode cX6_entryAt 117 = .ok (.ifCond .eq 11, 3) := by decide +kernel
theorem dX6_entryAt_120 : decode cX6_entryAt 120 = .ok (.iload 4, 2) := by decide +kernel
theorem dX6_entryAt_122 : decode cX6_entryAt 122 = .ok (.iload_n 2, 1) := by decide +kernel
theorem dX6_entryAt_123 : decode cX6_entryAt 123 = .ok (.if_icmp .ne 5, 3) := by decide +kernel
theorem dX6_entryAt_126 : decode cX6_entryAt 126 = .ok (.iload_n 3, 1) := by decide +kernel
theorem dX6_entryAt_127 : decode cX6_entryAt 127 = .ok (.ireturn, 1) := by decide +kernel
theorem dX6_entryAt_128 : decode cX6_entryAt 128 = .ok (.iinc 3 1, 3) := by decide +kernel
theorem dX6_entryAt_131 : decode cX6_entryAt 131 = .ok (.goto (-129), 3) := by decide +kernel
theorem dX6_entryAt_134 : decode cX6_entryAt 134 = .ok (.iconst (-1), 1) := by decide +kernel
theorem dX6_entryAt_135 : decode cX6_entryAt 135 = .ok (.ireturn, 1) := by decide +kernel
theorem dX6_leafKey_0 : decode cX6_leafKey 0 = .ok (.aload_n 0, 1) := by decide +kernel
theorem dX6_leafKey_1 : decode cX6_leafKey 1 = .ok (.aload_n 0, 1) := by decide +kernel
theorem dX6_leafKey_2 : decode cX6_leafKey 2 = .ok (.iload_n 1, 1) := by decide +kernel
theorem dX6_leafKey_3 : decode cX6_leafKey 3 = .ok (.invokevirtual 243, 3) := by decide +kernel
theorem dX6_leafKey_6 : decode cX6_leafKey 6 = .ok (.ifCond .eq 17, 3) := by decide +kernel
theorem dX6_leafKey_9 : decode cX6_leafKey 9 = .ok (.aload_n 0, 1) := by decide +kernel
theorem dX6_leafKey_10 : decode cX6_leafKey 10 = .ok (.iload_n 1, 1) := by decide +kernel
theorem dX6_leafKey_11 : decode cX6_leafKey 11 = .ok (.iload_n 2, 1) := by decide +kernel
theorem dX6_leafKey_12 : decode cX6_leafKey 12 = .ok (.invokevirtual 246, 3) := by decide +kernel
theorem dX6_leafKey_15 : decode cX6_leafKey 15 = .ok (.iconst (-1), 1) := by decide +kernel
theorem dX6_leafKey_16 : decode cX6_leafKey 16 = .ok (.if_icmp .eq 7, 3) := by decide +kernel
theorem dX6_leafKey_19 : decode cX6_leafKey 19 = .ok (.iconst 0, 1) := by decide +kernel
theorem dX6_leafKey_20 : decode cX6_leafKey 20 = .ok (.goto 4, 3) := by decide +kernel
theorem dX6_leafKey_23 : decode cX6_leafKey 23 = .ok (.iconst 1, 1) := by decide +kernel
theorem dX6_leafKey_24 : decode cX6_leafKey 24 = .ok (.putfield 38, 3) := by decide +kernel
theorem dX6_leafKey_27 : decode cX6_leafKey 27 = .ok (.aload_n 0, 1) := by decide +kernel
theorem dX6_leafKey_28 : decode cX6_leafKey 28 = .ok (.getfield 38, 3) := by decide +kernel
theorem dX6_leafKey_31 : decode cX6_leafKey 31 = .ok (.ifCond .le 7, 3) := by decide +kernel
theorem dX6_leafKey_34 : decode cX6_leafKey 34 = .ok (.iconst 0, 1) := by decide +kernel
theorem dX6_leafKey_35 : decode cX6_leafKey 35 = .ok (.goto 14, 3) := by decide +kernel
theorem dX6_leafKey_38 : decode cX6_leafKey 38 = .ok (.aload_n 0, 1) := by decide +kernel
theorem dX6_leafKey_39 : decode cX6_leafKey 39 = .ok (.aload_n 0, 1) := by decide +kernel
theorem dX6_leafKey_40 : decode cX6_leafKey 40 = .ok (.iload_n 1, 1) := by decide +kernel
theorem dX6_leafKey_41 : decode cX6_leafKey 41 = .ok (.iload_n 2, 1) := by decide +kernel
theorem dX6_leafKey_42 : decode cX6_leafKey 42 = .ok (.invokevirtual 246, 3) := by decide +kernel
theorem dX6_leafKey_45 : decode cX6_leafKey 45 = .ok (.iconst 0, 1) := by decide +kernel
theorem dX6_leafKey_46 : decode cX6_leafKey 46 = .ok (.invokevirtual 72, 3) := by decide +kernel
theorem dX6_leafKey_49 : decode cX6_leafKey 49 = .ok (.ireturn, 1) := by decide +kernel
theorem dX6_overflowOf_0 : decode cX6_overflowOf 0 = .ok (.aload_n 0, 1) := by decide +kernel
theorem dX6_overflowOf_1 : decode cX6_overflowOf 1 = .ok (.aload_n 0, 1) := by decide +kernel
theorem dX6_overflowOf_2 : decode cX6_overflowOf 2 = .ok (.iload_n 1, 1) := by decide +kernel
theorem dX6_overflowOf_3 : decode cX6_overflowOf 3 = .ok (.invokevirtual 243, 3) := by decide +kernel
theorem dX6_overflowOf_6 : decode cX6_overflowOf 6 = .ok (.ifCond .eq 7, 3) := by decide +kernel
theorem dX6_overflowOf_9 : decode cX6_overflowOf 9 = .ok (.iconst 0, 1) := by decide +kernel
theorem dX6_overflowOf_10 : decode cX6_overflowOf 10 = .ok (.goto 4, 3) := by decide +kernel
theorem dX6_overflowOf_13 : decode cX6_overflowOf 13 = .ok (.iconst 1, 1) := by decide +kernel
theorem dX6_overflowOf_14 : decode cX6_overflowOf 14 = .ok (.putfield 38, 3) := by decide +kernel
theorem dX6_overflowOf_17 : decode cX6_overflowOf 17 = .ok (.aload_n 0, 1) := by decide +kernel
theorem dX6_overflowOf_18 : decode cX6_overflowOf 18 = .ok (.getfield 38, 3) := by decide +kernel
theorem dX6_overflowOf_21 : decode cX6_overflowOf 21 = .ok (.ifCond .le 7, 3) := by decide +kernel
theorem dX6_overflowOf_24 : decode cX6_overflowOf 24 = .ok (.iconst 0, 1) := by decide +kernel
theorem dX6_overflowOf_25 : decode cX6_overflowOf 25 = .ok (.goto 8, 3) := by decide +kernel
theorem dX6_overflowOf_28 : decode cX6_overflowOf 28 = .ok (.aload_n 0, 1) := by decide +kernel
theorem dX6_overflowOf_29 : decode cX6_overflowOf 29 = .ok (.iload_n 1, 1) := by decide +kernel
theorem dX6_overflowOf_30 : decode cX6_overflowOf 30 = .ok (.invokevirtual 78, 3) := by decide +kernel
theorem dX6_overflowOf_33 : decode cX6_overflowOf 33 = .ok (.ireturn, 1) := by decide +kernel
theorem dX6_overflowLeaves_0 : decode cX6_overflowLeaves 0 = .ok (.aload_n 0, 1) := by decide +kernel
theorem dX6_overflowLeaves_1 : decode cX6_overflowLeaves 1 = .ok (.aload_n 0, 1) := by decide +kernel
theorem dX6_overflowLeaves_2 : decode cX6_overflowLeaves 2 = .ok (.iload_n 1, 1) := by decide +kernel
theorem dX6_overflowLeaves_3 : decode cX6_overflowLeaves 3 = .ok (.invokevirtual 243, 3) := by decide +kernel
theorem dX6_overflowLeaves_6 : decode cX6_overflowLeaves 6 = .ok (.ifCond .eq 7, 3) := by decide +kernel
theorem dX6_overflowLeaves_9 : decode cX6_overflowLeaves 9 = .ok (.iconst 0, 1) := by decide +kernel
theorem dX6_overflowLeaves_10 : decode cX6_overflowLeaves 10 = .ok (.goto 4, 3) := by decide +kernel
theorem dX6_overflowLeaves_13 : decode cX6_overflowLeaves 13 = .ok (.iconst 1, 1) := by decide +kernel
theorem dX6_overflowLeaves_14 : decode cX6_overflowLeaves 14 = .ok (.putfield 38, 3) := by decide +kernel
theorem dX6_overflowLeaves_17 : decode cX6_overflowLeaves 17 = .ok (.aload_n 0, 1) := by decide +kernel
theorem dX6_overflowLeaves_18 : decode cX6_overflowLeaves 18 = .ok (.getfield 38, 3) := by decide +kernel
theorem dX6_overflowLeaves_21 : decode cX6_overflowLeaves 21 = .ok (.ifCond .le 7, 3) := by decide +kernel
theorem dX6_overflowLeaves_24 : decode cX6_overflowLeaves 24 = .ok (.iconst 0, 1) := by decide +kernel
theorem dX6_overflowLeaves_25 : decode cX6_overflowLeaves 25 = .ok (.goto 8, 3) := by decide +kernel
theorem dX6_overflowLeaves_28 : decode cX6_overflowLeaves 28 = .ok (.aload_n 0, 1) := by decide +kernel
theorem dX6_overflowLeaves_29 : decode cX6_overflowLeaves 29 = .ok (.iload_n 1, 1) := by decide +kernel
theorem dX6_overflowLeaves_30 : decode cX6_overflowLeaves 30 = .ok (.invokevirtual 123, 3) := by decide +kernel
theorem dX6_overflowLeaves_33 : decode cX6_overflowLeaves 33 = .ok (.ireturn, 1) := by decide +kernel
theorem dX6_levels_0 : decode cX6_levels 0 = .ok (.aload_n 0, 1) := by decide +kernel
theorem dX6_levels_1 : decode cX6_levels 1 = .ok (.iconst 0, 1) := by decide +kernel
theorem dX6_levels_2 : decode cX6_levels 2 = .ok (.putfield 38, 3) := by decide +kernel
theorem dX6_levels_5 : decode cX6_levels 5 = .ok (.aload_n 0, 1) := by decide +kernel
theorem dX6_levels_6 : decode cX6_levels 6 = .ok (.invokevirtual 120, 3) := by decide +kernel
theorem dX6_levels_9 : decode cX6_levels 9 = .ok (.ireturn, 1) := by decide +kernel
theorem dX6_isLevel_0 : decode cX6_isLevel 0 = .ok (.iload_n 1, 1) := by decide +kernel
theorem dX6_isLevel_1 : decode cX6_isLevel 1 = .ok (.iconst 0, 1) := by decide +kernel
theorem dX6_isLevel_2 : decode cX6_isLevel 2 = .ok (.aload_n 0, 1) := by decide +kernel
theorem dX6_isLevel_3 : decode cX6_isLevel 3 = .ok (.invokevirtual 120, 3) := by decide +kernel
theorem dX6_isLevel_6 : decode cX6_isLevel 6 = .ok (.iconst 1, 1) := by decide +kernel
theorem dX6_isLevel_7 : decode cX6_isLevel 7 = .ok (.isub, 1) := by decide +kernel
theorem dX6_isLevel_8 : decode cX6_isLevel 8 = .ok (.invokestatic 50, 3) := by decide +kernel
theorem dX6_isLevel_11 : decode cX6_isLevel 11 = .ok (.ireturn, 1) := by decide +kernel
theorem dX6_nodes_0 : decode cX6_nodes 0 = .ok (.aload_n 0, 1) := by decide +kernel
theorem dX6_nodes_1 : decode cX6_nodes 1 = .ok (.getfield 7, 3) := by decide +kernel
theorem dX6_nodes_4 : decode cX6_nodes 4 = .ok (.bipush 8, 2) := by decide +kernel
theorem dX6_nodes_6 : decode cX6_nodes 6 = .ok (.iaload, 1) := by decide +kernel
theorem dX6_nodes_7 : decode cX6_nodes 7 = .ok (.istore_n 2, 1) := by decide +kernel
theorem dX6_nodes_8 : decode cX6_nodes 8 = .ok (.iconst 0, 1) := by decide +kernel
theorem dX6_nodes_9 : decode cX6_nodes 9 = .ok (.istore_n 3, 1) := by decide +kernel
theorem dX6_nodes_10 : decode cX6_nodes 10 = .ok (.iload_n 3, 1) := by decide +kernel
theorem dX6_nodes_11 : decode cX6_nodes 11 = .ok (.iload_n 1, 1) := by decide +kernel
theorem dX6_nodes_12 : decode cX6_nodes 12 = .ok (.if_icmp .gt 27, 3) := by decide +kernel
theorem dX6_nodes_15 : decode cX6_nodes 15 = .ok (.iload_n 2, 1) := by decide +kernel
theorem dX6_nodes_16 : decode cX6_nodes 16 = .ok (.aload_n 0, 1) := by decide +kernel
theorem dX6_nodes_17 : decode cX6_nodes 17 = .ok (.getfield 7, 3) := by decide +kernel
theorem dX6_nodes_20 : decode cX6_nodes 20 = .ok (.iconst 3, 1) := by decide +kernel
theorem dX6_nodes_21 : decode cX6_nodes 21 = .ok (.iaload, 1) := by decide +kernel
theorem dX6_nodes_22 : decode cX6_nodes 22 = .ok (.iadd, 1) := by decide +kernel
theorem dX6_nodes_23 : decode cX6_nodes 23 = .ok (.iconst 1, 1) := by decide +kernel
theorem dX6_nodes_24 : decode cX6_nodes 24 = .ok (.isub, 1) := by decide +kernel
theorem dX6_nodes_25 : decode cX6_nodes 25 = .ok (.aload_n 0, 1) := by decide +kernel
theorem dX6_nodes_26 : decode cX6_nodes 26 = .ok (.getfield 7, 3) := by decide +kernel
theorem dX6_nodes_29 : decode cX6_nodes 29 = .ok (.iconst 3, 1) := by decide +kernel
theorem dX6_nodes_30 : decode cX6_nodes 30 = .ok (.iaload, 1) := by decide +kernel
theorem dX6_nodes_31 : decode cX6_nodes 31 = .ok (.idiv, 1) := by decide +kernel
theorem dX6_nodes_32 : decode cX6_nodes 32 = .ok (.istore_n 2, 1) := by decide +kernel
theorem dX6_nodes_33 : decode cX6_nodes 33 = .ok (.iinc 3 1, 3) := by decide +kernel
theorem dX6_nodes_36 : decode cX6_nodes 36 = .ok (.goto (-26), 3) := by decide +kernel
theorem dX6_nodes_39 : decode cX6_nodes 39 = .ok (.iload_n 2, 1) := by decide +kernel
theorem dX6_nodes_40 : decode cX6_nodes 40 = .ok (.ireturn, 1) := by decide +kernel
theorem dX6_nodesAt_0 : decode cX6_nodesAt 0 = .ok (.aload_n 0, 1) := by decide +kernel
theorem dX6_nodesAt_1 : decode cX6_nodesAt 1 = .ok (.aload_n 0, 1) := by decide +kernel
theorem dX6_nodesAt_2 : decode cX6_nodesAt 2 = .ok (.iload_n 1, 1) := by decide +kernel
theorem dX6_nodesAt_3 : decode cX6_nodesAt 3 = .ok (.invokevirtual 249, 3) := by decide +kernel
theorem dX6_nodesAt_6 : decode cX6_nodesAt 6 = .ok (.ifCond .eq 7, 3) := by decide +kernel
theorem dX6_nodesAt_9 : decode cX6_nodesAt 9 = .ok (.iconst 0, 1) := by decide +kernel
theorem dX6_nodesAt_10 : decode cX6_nodesAt 10 = .ok (.goto 4, 3) := by decide +kernel
theorem dX6_nodesAt_13 : decode cX6_nodesAt 13 = .ok (.iconst 1, 1) := by decide +kernel
theorem dX6_nodesAt_14 : decode cX6_nodesAt 14 = .ok (.putfield 38, 3) := by decide +kernel
theorem dX6_nodesAt_17 : decode cX6_nodesAt 17 = .ok (.aload_n 0, 1) := by decide +kernel
theorem dX6_nodesAt_18 : decode cX6_nodesAt 18 = .ok (.getfield 38, 3) := by decide +kernel
theorem dX6_nodesAt_21 : decode cX6_nodesAt 21 = .ok (.ifCond .le 7, 3) := by decide +kernel
theorem dX6_nodesAt_24 : decode cX6_nodesAt 24 = .ok (.iconst 0, 1) := by decide +kernel
theorem dX6_nodesAt_25 : decode cX6_nodesAt 25 = .ok (.goto 8, 3) := by decide +kernel
theorem dX6_nodesAt_28 : decode cX6_nodesAt 28 = .ok (.aload_n 0, 1) := by decide +kernel
theorem dX6_nodesAt_29 : decode cX6_nodesAt 29 = .ok (.iload_n 1, 1) := by decide +kernel
theorem dX6_nodesAt_30 : decode cX6_nodesAt 30 = .ok (.invokevirtual 252, 3) := by decide +kernel
theorem dX6_nodesAt_33 : decode cX6_nodesAt 33 = .ok (.ireturn, 1) := by decide +kernel
theorem dX6_isNode_0 : decode cX6_isNode 0 = .ok (.aload_n 0, 1) := by decide +kernel
theorem dX6_isNode_1 : decode cX6_isNode 1 = .ok (.iload_n 1, 1) := by decide +kernel
theorem dX6_isNode_2 : decode cX6_isNode 2 = .ok (.invokevirtual 249, 3) := by decide +kernel
theorem dX6_isNode_5 : decode cX6_isNode 5 = .ok (.ifCond .eq 22, 3) := by decide +kernel
theorem dX6_isNode_8 : decode cX6_isNode 8 = .ok (.iload_n 2, 1) := by decide +kernel
theorem dX6_isNode_9 : decode cX6_isNode 9 = .ok (.iconst 0, 1) := by decide +kernel
theorem dX6_isNode_10 : decode cX6_isNode 10 = .ok (.aload_n 0, 1) := by decide +kernel
theorem dX6_isNode_11 : decode cX6_isNode 11 = .ok (.iload_n 1, 1) := by decide +kernel
theorem dX6_isNode_12 : decode cX6_isNode 12 = .ok (.invokevirtual 252, 3) := by decide +kernel
theorem dX6_isNode_15 : decode cX6_isNode 15 = .ok (.iconst 1, 1) := by decide +kernel
theorem dX6_isNode_16 : decode cX6_isNode 16 = .ok (.isub, 1) := by decide +kernel
theorem dX6_isNode_17 : decode cX6_isNode 17 = .ok (.invokestatic 50, 3) := by decide +kernel
theorem dX6_isNode_20 : decode cX6_isNode 20 = .ok (.ifCond .eq 7, 3) := by decide +kernel
theorem dX6_isNode_23 : decode cX6_isNode 23 = .ok (.iconst 1, 1) := by decide +kernel
theorem dX6_isNode_24 : decode cX6_isNode 24 = .ok (.goto 4, 3) := by decide +kernel
theorem dX6_isNode_27 : decode cX6_isNode 27 = .ok (.iconst 0, 1) := by decide +kernel
theorem dX6_isNode_28 : decode cX6_isNode 28 = .ok (.ireturn, 1) := by decide +kernel
theorem dX6_children_0 : decode cX6_children 0 = .ok (.aload_n 0, 1) := by decide +kernel
theorem dX6_children_1 : decode cX6_children 1 = .ok (.iload_n 1, 1) := by decide +kernel
theorem dX6_children_2 : decode cX6_children 2 = .ok (.iconst 1, 1) := by decide +kernel
theorem dX6_children_3 : decode cX6_children 3 = .ok (.isub, 1) := by decide +kernel
theorem dX6_children_4 : decode cX6_children 4 = .ok (.invokevirtual 252, 3) := by decide +kernel
theorem dX6_children_7 : decode cX6_children 7 = .ok (.aload_n 0, 1) := by decide +kernel
theorem dX6_children_8 : decode cX6_children 8 = .ok (.getfield 7, 3) := by decide +kernel
theorem dX6_children_11 : decode cX6_children 11 = .ok (.iconst 3, 1) := by decide +kernel
theorem dX6_children_12 : decode cX6_children 12 = .ok (.iaload, 1) := by decide +kernel
theorem dX6_children_13 : decode cX6_children 13 = .ok (.iload_n 2, 1) := by decide +kernel
theorem dX6_children_14 : decode cX6_children 14 = .ok (.imul, 1) := by decide +kernel
theorem dX6_children_15 : decode cX6_children 15 = .ok (.isub, 1) := by decide +kernel
theorem dX6_children_16 : decode cX6_children 16 = .ok (.istore_n 3, 1) := by decide +kernel
theorem dX6_children_17 : decode cX6_children 17 = .ok (.iload_n 3, 1) := by decide +kernel
theorem dX6_children_18 : decode cX6_children 18 = .ok (.aload_n 0, 1) := by decide +kernel
theorem dX6_children_19 : decode cX6_children 19 = .ok (.getfield 7, 3) := by decide +kernel
theorem dX6_children_22 : decode cX6_children 22 = .ok (.iconst 3, 1) := by decide +kernel
theorem dX6_children_23 : decode cX6_children 23 = .ok (.iaload, 1) := by decide +kernel
theorem dX6_children_24 : decode cX6_children 24 = .ok (.if_icmp .ge 7, 3) := by decide +kernel
theorem dX6_children_27 : decode cX6_children 27 = .ok (.iload_n 3, 1) := by decide +kernel
theorem dX6_children_28 : decode cX6_children 28 = .ok (.goto 9, 3) := by decide +kernel
theorem dX6_children_31 : decode cX6_children 31 = .ok (.aload_n 0, 1) := by decide +kernel
theorem dX6_children_32 : decode cX6_children 32 = .ok (.getfield 7, 3) := by decide +kernel
theorem dX6_children_35 : decode cX6_children 35 = .ok (.iconst 3, 1) := by decide +kernel
theorem dX6_children_36 : decode cX6_children 36 = .ok (.iaload, 1) := by decide +kernel
theorem dX6_children_37 : decode cX6_children 37 = .ok (.ireturn, 1) := by decide +kernel
theorem dX6_childrenOf_0 : decode cX6_childrenOf 0 = .ok (.aload_n 0, 1) := by decide +kernel
theorem dX6_childrenOf_1 : decode cX6_childrenOf 1 = .ok (.aload_n 0, 1) := by decide +kernel
theorem dX6_childrenOf_2 : decode cX6_childrenOf 2 = .ok (.iload_n 1, 1) := by decide +kernel
theorem dX6_childrenOf_3 : decode cX6_childrenOf 3 = .ok (.iload_n 2, 1) := by decide +kernel
theorem dX6_childrenOf_4 : decode cX6_childrenOf 4 = .ok (.invokevirtual 255, 3) := by decide +kernel
theorem dX6_childrenOf_7 : decode cX6_childrenOf 7 = .ok (.ifCond .eq 7, 3) := by decide +kernel
theorem dX6_childrenOf_10 : decode cX6_childrenOf 10 = .ok (.iconst 0, 1) := by decide +kernel
theorem dX6_childrenOf_11 : decode cX6_childrenOf 11 = .ok (.goto 4, 3) := by decide +kernel
theorem dX6_childrenOf_14 : decode cX6_childrenOf 14 = .ok (.iconst 1, 1) := by decide +kernel
theorem dX6_childrenOf_15 : decode cX6_childrenOf 15 = .ok (.putfield 38, 3) := by decide +kernel
theorem dX6_childrenOf_18 : decode cX6_childrenOf 18 = .ok (.aload_n 0, 1) := by decide +kernel
theorem dX6_childrenOf_19 : decode cX6_childrenOf 19 = .ok (.getfield 38, 3) := by decide +kernel
theorem dX6_childrenOf_22 : decode cX6_childrenOf 22 = .ok (.ifCond .le 7, 3) := by decide +kernel
theorem dX6_childrenOf_25 : decode cX6_childrenOf 25 = .ok (.iconst 0, 1) := by decide +kernel
theorem dX6_childrenOf_26 : decode cX6_childrenOf 26 = .ok (.goto 9, 3) := by decide +kernel
theorem dX6_childrenOf_29 : decode cX6_childrenOf 29 = .ok (.aload_n 0, 1) := by decide +kernel
theorem dX6_childrenOf_30 : decode cX6_childrenOf 30 = .ok (.iload_n 1, 1) := by decide +kernel
theorem dX6_childrenOf_31 : decode cX6_childrenOf 31 = .ok (.iload_n 2, 1) := by decide +kernel
theorem dX6_childrenOf_32 : decode cX6_childrenOf 32 = .ok (.invokevirtual 258, 3) := by decide +kernel
theorem dX6_childrenOf_35 : decode cX6_childrenOf 35 = .ok (.ireturn, 1) := by decide +kernel
theorem dX6_boundBy_0 : decode cX6_boundBy 0 = .ok (.iload_n 2, 1) := by decide +kernel
theorem dX6_boundBy_1 : decode cX6_boundBy 1 = .ok (.istore_n 3, 1) := by decide +kernel
theorem dX6_boundBy_2 : decode cX6_boundBy 2 = .ok (.iconst 0, 1) := by decide +kernel
theorem dX6_boundBy_3 : decode cX6_boundBy 3 = .ok (.istore 4, 2) := by decide +kernel
theorem dX6_boundBy_5 : decode cX6_boundBy 5 = .ok (.iload 4, 2) := by decide +kernel
theorem dX6_boundBy_7 : decode cX6_boundBy 7 = .ok (.iload_n 1, 1) := by decide +kernel
theorem dX6_boundBy_8 : decode cX6_boundBy 8 = .ok (.if_icmp .gt 18, 3) := by decide +kernel
theorem dX6_boundBy_11 : decode cX6_boundBy 11 = .ok (.iload_n 3, 1) := by decide +kernel
theorem dX6_boundBy_12 : decode cX6_boundBy 12 = .ok (.aload_n 0, 1) := by decide +kernel
theorem dX6_boundBy_13 : decode cX6_boundBy 13 = .ok (.getfield 7, 3) := by decide +kernel
theorem dX6_boundBy_16 : decode cX6_boundBy 16 = .ok (.iconst 3, 1) := by decide +kernel
theorem dX6_boundBy_17 : decode cX6_boundBy 17 = .ok (.iaload, 1) := by decide +kernel
theorem dX6_boundBy_18 : decode cX6_boundBy 18 = .ok (.imul, 1) := by decide +kernel
theorem dX6_boundBy_19 : decode cX6_boundBy 19 = .ok (.istore_n 3, 1) := by decide +kernel
theorem dX6_boundBy_20 : decode cX6_boundBy 20 = .ok (.iinc 4 1, 3) := by decide +kernel
theorem dX6_boundBy_23 : decode cX6_boundBy 23 = .ok (.goto (-18), 3) := by decide +kernel
theorem dX6_boundBy_26 : decode cX6_boundBy 26 = .ok (.aload_n 0, 1) := by decide +kernel
theorem dX6_boundBy_27 : decode cX6_boundBy 27 = .ok (.iload_n 3, 1) := by decide +kernel
theorem dX6_boundBy_28 : decode cX6_boundBy 28 = .ok (.invokevirtual 75, 3) := by decide +kernel
theorem dX6_boundBy_31 : decode cX6_boundBy 31 = .ok (.ireturn, 1) := by decide +kernel
theorem dX6_boundOf_0 : decode cX6_boundOf 0 = .ok (.aload_n 0, 1) := by decide +kernel
theorem dX6_boundOf_1 : decode cX6_boundOf 1 = .ok (.aload_n 0, 1) := by decide +kernel
theorem dX6_boundOf_2 : decode cX6_boundOf 2 = .ok (.iload_n 1, 1) := by decide +kernel
theorem dX6_boundOf_3 : decode cX6_boundOf 3 = .ok (.iload_n 2, 1) := by decide +kernel
theorem dX6_boundOf_4 : decode cX6_boundOf 4 = .ok (.invokevirtual 255, 3) := by decide +kernel
theorem dX6_boundOf_7 : decode cX6_boundOf 7 = .ok (.ifCond .eq 7, 3) := by decide +kernel
theorem dX6_boundOf_10 : decode cX6_boundOf 10 = .ok (.iconst 0, 1) := by decide +kernel
theorem dX6_boundOf_11 : decode cX6_boundOf 11 = .ok (.goto 4, 3) := by decide +kernel
theorem dX6_boundOf_14 : decode cX6_boundOf 14 = .ok (.iconst 1, 1) := by decide +kernel
theorem dX6_boundOf_15 : decode cX6_boundOf 15 = .ok (.putfield 38, 3) := by decide +kernel
theorem dX6_boundOf_18 : decode cX6_boundOf 18 = .ok (.aload_n 0, 1) := by decide +kernel
theorem dX6_boundOf_19 : decode cX6_boundOf 19 = .ok (.getfield 38, 3) := by decide +kernel
theorem dX6_boundOf_22 : decode cX6_boundOf 22 = .ok (.ifCond .le 7, 3) := by decide +kernel
theorem dX6_boundOf_25 : decode cX6_boundOf 25 = .ok (.iconst 0, 1) := by decide +kernel
theorem dX6_boundOf_26 : decode cX6_boundOf 26 = .ok (.goto 9, 3) := by decide +kernel
theorem dX6_boundOf_29 : decode cX6_boundOf 29 = .ok (.aload_n 0, 1) := by decide +kernel
theorem dX6_boundOf_30 : decode cX6_boundOf 30 = .ok (.iload_n 1, 1) := by decide +kernel
theorem dX6_boundOf_31 : decode cX6_boundOf 31 = .ok (.iload_n 2, 1) := by decide +kernel
theorem dX6_boundOf_32 : decode cX6_boundOf 32 = .ok (.invokevirtual 261, 3) := by decide +kernel
theorem dX6_boundOf_35 : decode cX6_boundOf 35 = .ok (.ireturn, 1) := by decide +kernel
theorem dX6_leafFor_0 : decode cX6_leafFor 0 = .ok (.aload_n 0, 1) := by decide +kernel
theorem dX6_leafFor_1 : decode cX6_leafFor 1 = .ok (.iload_n 1, 1) := by decide +kernel
theorem dX6_leafFor_2 : decode cX6_leafFor 2 = .ok (.invokestatic 129, 3) := by decide +kernel
theorem dX6_leafFor_5 : decode cX6_leafFor 5 = .ok (.ifCond .ne 7, 3) := by decide +kernel
theorem dX6_leafFor_8 : decode cX6_leafFor 8 = .ok (.iconst 1, 1) := by decide +kernel
theorem dX6_leafFor_9 : decode cX6_leafFor 9 = .ok (.goto 18, 3) := by decide +kernel
theorem dX6_leafFor_12 : decode cX6_leafFor 12 = .ok (.aload_n 0, 1) := by decide +kernel
theorem dX6_leafFor_13 : decode cX6_leafFor 13 = .ok (.getfield 7, 3) := by decide +kernel
theorem dX6_leafFor_16 : decode cX6_leafFor 16 = .ok (.bipush 8, 2) := by decide +kernel
theorem dX6_leafFor_18 : decode cX6_leafFor 18 = .ok (.iaload, 1) := by decide +kernel
theorem dX6_leafFor_19 : decode cX6_leafFor 19 = .ok (.ifCond .ne 7, 3) := by decide +kernel
theorem dX6_leafFor_22 : decode cX6_leafFor 22 = .ok (.iconst 2, 1) := by decide +kernel
theorem dX6_leafFor_23 : decode cX6_leafFor 23 = .ok (.goto 4, 3) := by decide +kernel
theorem dX6_leafFor_26 : decode cX6_leafFor 26 = .ok (.iconst 0, 1) := by decide +kernel
theorem dX6_leafFor_27 : decode cX6_leafFor 27 = .ok (.putfield 38, 3) := by decide +kernel
theorem dX6_leafFor_30 : decode cX6_leafFor 30 = .ok (.aload_n 0, 1) := by decide +kernel
theorem dX6_leafFor_31 : decode cX6_leafFor 31 = .ok (.getfield 38, 3) := by decide +kernel
theorem dX6_leafFor_34 : decode cX6_leafFor 34 = .ok (.ifCond .le 7, 3) := by decide +kernel
theorem dX6_leafFor_37 : decode cX6_leafFor 37 = .ok (.iconst 0, 1) := by decide +kernel
theorem dX6_leafFor_38 : decode cX6_leafFor 38 = .ok (.goto 8, 3) := by decide +kernel
theorem dX6_leafFor_41 : decode cX6_leafFor 41 = .ok (.aload_n 0, 1) := by decide +kernel
theorem dX6_leafFor_42 : decode cX6_leafFor 42 = .ok (.iload_n 1, 1) := by decide +kernel
theorem dX6_leafFor_43 : decode cX6_leafFor 43 = .ok (.invokevirtual 95, 3) := by decide +kernel
theorem dX6_leafFor_46 : decode cX6_leafFor 46 = .ok (.ireturn, 1) := by decide +kernel
theorem dX6_builds_0 : decode cX6_builds 0 = .ok (.aload_n 0, 1) := by decide +kernel
theorem dX6_builds_1 : decode cX6_builds 1 = .ok (.iconst 0, 1) := by decide +kernel
theorem dX6_builds_2 : decode cX6_builds 2 = .ok (.putfield 38, 3) := by decide +kernel
theorem dX6_builds_5 : decode cX6_builds 5 = .ok (.aload_n 0, 1) := by decide +kernel
theorem dX6_builds_6 : decode cX6_builds 6 = .ok (.getfield 7, 3) := by decide +kernel
theorem dX6_builds_9 : decode cX6_builds 9 = .ok (.iconst 4, 1) := by decide +kernel
theorem dX6_builds_10 : decode cX6_builds 10 = .ok (.iaload, 1) := by decide +kernel
theorem dX6_builds_11 : decode cX6_builds 11 = .ok (.ireturn, 1) := by decide +kernel
theorem dX6_written_0 : decode cX6_written 0 = .ok (.aload_n 0, 1) := by decide +kernel
theorem dX6_written_1 : decode cX6_written 1 = .ok (.iconst 0, 1) := by decide +kernel
theorem dX6_written_2 : decode cX6_written 2 = .ok (.putfield 38, 3) := by decide +kernel
theorem dX6_written_5 : decode cX6_written 5 = .ok (.aload_n 0, 1) := by decide +kernel
theorem dX6_written_6 : decode cX6_written 6 = .ok (.getfield 7, 3) := by decide +kernel
theorem dX6_written_9 : decode cX6_written 9 = .ok (.iconst 5, 1) := by decide +kernel
theorem dX6_written_10 : decode cX6_written 10 = .ok (.iaload, 1) := by decide +kernel
theorem dX6_written_11 : decode cX6_written 11 = .ok (.ireturn, 1) := by decide +kernel
theorem dX6_allTold_0 : decode cX6_allTold 0 = .ok (.iconst 0, 1) := by decide +kernel
theorem dX6_allTold_1 : decode cX6_allTold 1 = .ok (.istore_n 1, 1) := by decide +kernel
theorem dX6_allTold_2 : decode cX6_allTold 2 = .ok (.iconst 0, 1) := by decide +kernel
theorem dX6_allTold_3 : decode cX6_allTold 3 = .ok (.istore_n 2, 1) := by decide +kernel
theorem dX6_allTold_4 : decode cX6_allTold 4 = .ok (.iload_n 2, 1) := by decide +kernel
theorem dX6_allTold_5 : decode cX6_allTold 5 = .ok (.aload_n 0, 1) := by decide +kernel
theorem dX6_allTold_6 : decode cX6_allTold 6 = .ok (.getfield 7, 3) := by decide +kernel
theorem dX6_allTold_9 : decode cX6_allTold 9 = .ok (.bipush 6, 2) := by decide +kernel
theorem dX6_allTold_11 : decode cX6_allTold 11 = .ok (.iaload, 1) := by decide +kernel
theorem dX6_allTold_12 : decode cX6_allTold 12 = .ok (.if_icmp .gt 17, 3) := by decide +kernel
theorem dX6_allTold_15 : decode cX6_allTold 15 = .ok (.iload_n 1, 1) := by decide +kernel
theorem dX6_allTold_16 : decode cX6_allTold 16 = .ok (.aload_n 0, 1) := by decide +kernel
theorem dX6_allTold_17 : decode cX6_allTold 17 = .ok (.iload_n 2, 1) := by decide +kernel
theorem dX6_allTold_18 : decode cX6_allTold 18 = .ok (.invokevirtual 54, 3) := by decide +kernel
theorem dX6_allTold_21 : decode cX6_allTold 21 = .ok (.iadd, 1) := by decide +kernel
theorem dX6_allTold_22 : decode cX6_allTold 22 = .ok (.istore_n 1, 1) := by decide +kernel
theorem dX6_allTold_23 : decode cX6_allTold 23 = .ok (.iinc 2 1, 3) := by decide +kernel
theorem dX6_allTold_26 : decode cX6_allTold 26 = .ok (.goto (-22), 3) := by decide +kernel
theorem dX6_allTold_29 : decode cX6_allTold 29 = .ok (.iload_n 1, 1) := by decide +kernel
theorem dX6_allTold_30 : decode cX6_allTold 30 = .ok (.ireturn, 1) := by decide +kernel
theorem dX6_told_0 : decode cX6_told 0 = .ok (.aload_n 0, 1) := by decide +kernel
theorem dX6_told_1 : decode cX6_told 1 = .ok (.iconst 0, 1) := by decide +kernel
theorem dX6_told_2 : decode cX6_told 2 = .ok (.putfield 38, 3) := by decide +kernel
theorem dX6_told_5 : decode cX6_told 5 = .ok (.aload_n 0, 1) := by decide +kernel
theorem dX6_told_6 : decode cX6_told 6 = .ok (.invokevirtual 264, 3) := by decide +kernel
theorem dX6_told_9 : decode cX6_told 9 = .ok (.ireturn, 1) := by decide +kernel
theorem dX6_share_0 : decode cX6_share 0 = .ok (.dconst 0, 1) := by decide +kernel
theorem dX6_share_1 : decode cX6_share 1 = .ok (.dstore_n 1, 1) := by decide +kernel
theorem dX6_share_2 : decode cX6_share 2 = .ok (.iconst 0, 1) := by decide +kernel
theorem dX6_share_3 : decode cX6_share 3 = .ok (.istore_n 3, 1) := by decide +kernel
theorem dX6_share_4 : decode cX6_share 4 = .ok (.iload_n 3, 1) := by decide +kernel
theorem dX6_share_5 : decode cX6_share 5 = .ok (.aload_n 0, 1) := by decide +kernel
theorem dX6_share_6 : decode cX6_share 6 = .ok (.getfield 7, 3) := by decide +kernel
theorem dX6_share_9 : decode cX6_share 9 = .ok (.bipush 7, 2) := by decide +kernel
theorem dX6_share_11 : decode cX6_share 11 = .ok (.iaload, 1) := by decide +kernel
theorem dX6_share_12 : decode cX6_share 12 = .ok (.if_icmp .ge 26, 3) := by decide +kernel
theorem dX6_share_15 : decode cX6_share 15 = .ok (.dload_n 1, 1) := by decide +kernel
theorem dX6_share_16 : decode cX6_share 16 = .ok (.aload_n 0, 1) := by decide +kernel
theorem dX6_share_17 : decode cX6_share 17 = .ok (.iload_n 3, 1) := by decide +kernel
theorem dX6_share_18 : decode cX6_share 18 = .ok (.iconst 3, 1) := by decide +kernel
theorem dX6_share_19 : decode cX6_share 19 = .ok (.invokevirtual 72, 3) := by decide +kernel
theorem dX6_share_22 : decode cX6_share 22 = .ok (.ifCond .le 7, 3) := by decide +kernel
theorem dX6_share_25 : decode cX6_share 25 = .ok (.dconst 1, 1) := by decide +kernel
theorem dX6_share_26 : decode cX6_share 26 = .ok (.goto 4, 3) := by decide +kernel
theorem dX6_share_29 : decode cX6_share 29 = .ok (.dconst 0, 1) := by decide +kernel
theorem dX6_share_30 : decode cX6_share 30 = .ok (.dadd, 1) := by decide +kernel
theorem dX6_share_31 : decode cX6_share 31 = .ok (.dstore_n 1, 1) := by decide +kernel
theorem dX6_share_32 : decode cX6_share 32 = .ok (.iinc 3 1, 3) := by decide +kernel
theorem dX6_share_35 : decode cX6_share 35 = .ok (.goto (-31), 3) := by decide +kernel
theorem dX6_share_38 : decode cX6_share 38 = .ok (.aload_n 0, 1) := by decide +kernel
theorem dX6_share_39 : decode cX6_share 39 = .ok (.getfield 7, 3) := by decide +kernel
theorem dX6_share_42 : decode cX6_share 42 = .ok (.bipush 7, 2) := by decide +kernel
theorem dX6_share_44 : decode cX6_share 44 = .ok (.iaload, 1) := by decide +kernel
theorem dX6_share_45 : decode cX6_share 45 = .ok (.ifCond .ne 7, 3) := by decide +kernel
theorem dX6_share_48 : decode cX6_share 48 = .ok (.dconst 0, 1) := by decide +kernel
theorem dX6_share_49 : decode cX6_share 49 = .ok (.goto 13, 3) := by decide +kernel
theorem dX6_share_52 : decode cX6_share 52 = .ok (.dload_n 1, 1) := by decide +kernel
theorem dX6_share_53 : decode cX6_share 53 = .ok (.aload_n 0, 1) := by decide +kernel
theorem dX6_share_54 : decode cX6_share 54 = .ok (.getfield 7, 3) := by decide +kernel
theorem dX6_share_57 : decode cX6_share 57 = .ok (.bipush 7, 2) := by decide +kernel
theorem dX6_share_59 : decode cX6_share 59 = .ok (.iaload, 1) := by decide +kernel
theorem dX6_share_60 : decode cX6_share 60 = .ok (.i2d, 1) := by decide +kernel
theorem dX6_share_61 : decode cX6_share 61 = .ok (.ddiv, 1) := by decide +kernel
theorem dX6_share_62 : decode cX6_share 62 = .ok (.dreturn, 1) := by decide +kernel
theorem dX6_overflowShare_0 : decode cX6_overflowShare 0 = .ok (.aload_n 0, 1) := by decide +kernel
theorem dX6_overflowShare_1 : decode cX6_overflowShare 1 = .ok (.iconst 0, 1) := by decide +kernel
theorem dX6_overflowShare_2 : decode cX6_overflowShare 2 = .ok (.putfield 38, 3) := by decide +kernel
theorem dX6_overflowShare_5 : decode cX6_overflowShare 5 = .ok (.aload_n 0, 1) := by decide +kernel
theorem dX6_overflowShare_6 : decode cX6_overflowShare 6 = .ok (.invokevirtual 267, 3) := by decide +kernel
theorem dX6_overflowShare_9 : decode cX6_overflowShare 9 = .ok (.dreturn, 1) := by decide +kernel
theorem dX6_mean_0 : decode cX6_mean 0 = .ok (.dconst 0, 1) := by decide +kernel
theorem dX6_mean_1 : decode cX6_mean 1 = .ok (.dstore_n 1, 1) := by decide +kernel
theorem dX6_mean_2 : decode cX6_mean 2 = .ok (.aload_n 0, 1) := by decide +kernel
theorem dX6_mean_3 : decode cX6_mean 3 = .ok (.invokevirtual 113, 3) := by decide +kernel
theorem dX6_mean_6 : decode cX6_mean 6 = .ok (.istore_n 3, 1) := by decide +kernel
theorem dX6_mean_7 : decode cX6_mean 7 = .ok (.iconst 0, 1) := by decide +kernel
theorem dX6_mean_8 : decode cX6_mean 8 = .ok (.istore 4, 2) := by decide +kernel
theorem dX6_mean_10 : decode cX6_mean 10 = .ok (.iload 4, 2) := by decide +kernel
theorem dX6_mean_12 : decode cX6_mean 12 = .ok (.iload_n 3, 1) := by decide +kernel
theorem dX6_mean_13 : decode cX6_mean 13 = .ok (.if_icmp .ge 26, 3) := by decide +kernel
theorem dX6_mean_16 : decode cX6_mean 16 = .ok (.dload_n 1, 1) := by decide +kernel
theorem dX6_mean_17 : decode cX6_mean 17 = .ok (.aload_n 0, 1) := by decide +kernel
theorem dX6_mean_18 : decode cX6_mean 18 = .ok (.aload_n 0, 1) := by decide +kernel
theorem dX6_mean_19 : decode cX6_mean 19 = .ok (.getfield 29, 3) := by decide +kernel
theorem dX6_mean_22 : decode cX6_mean 22 = .ok (.iconst 2, 1) := by decide +kernel
theorem dX6_mean_23 : decode cX6_mean 23 = .ok (.iload 4, 2) := by decide +kernel
theorem dX6_mean_25 : decode cX6_mean 25 = .ok (.imul, 1) := by decide +kernel
theorem dX6_mean_26 : decode cX6_mean 26 = .ok (.iaload, 1) := by decide +kernel
theorem dX6_mean_27 : decode cX6_mean 27 = .ok (.invokevirtual 221, 3) := by decide +kernel
theorem dX6_mean_30 : decode cX6_mean 30 = .ok (.i2d, 1) := by decide +kernel
theorem dX6_mean_31 : decode cX6_mean 31 = .ok (.dadd, 1) := by decide +kernel
theorem dX6_mean_32 : decode cX6_mean 32 = .ok (.dstore_n 1, 1) := by decide +kernel
theorem dX6_mean_33 : decode cX6_mean 33 = .ok (.iinc 4 1, 3) := by decide +kernel
theorem dX6_mean_36 : decode cX6_mean 36 = .ok (.goto (-26), 3) := by decide +kernel
theorem dX6_mean_39 : decode cX6_mean 39 = .ok (.iload_n 3, 1) := by decide +kernel
theorem dX6_mean_40 : decode cX6_mean 40 = .ok (.ifCond .ne 7, 3) := by decide +kernel
theorem dX6_mean_43 : decode cX6_mean 43 = .ok (.dconst 0, 1) := by decide +kernel
theorem dX6_mean_44 : decode cX6_mean 44 = .ok (.goto 7, 3) := by decide +kernel
theorem dX6_mean_47 : decode cX6_mean 47 = .ok (.dload_n 1, 1) := by decide +kernel
theorem dX6_mean_48 : decode cX6_mean 48 = .ok (.iload_n 3, 1) := by decide +kernel
theorem dX6_mean_49 : decode cX6_mean 49 = .ok (.i2d, 1) := by decide +kernel
theorem dX6_mean_50 : decode cX6_mean 50 = .ok (.ddiv, 1) := by decide +kernel
theorem dX6_mean_51 : decode cX6_mean 51 = .ok (.dreturn, 1) := by decide +kernel
theorem dX6_meanPages_0 : decode cX6_meanPages 0 = .ok (.aload_n 0, 1) := by decide +kernel
theorem dX6_meanPages_1 : decode cX6_meanPages 1 = .ok (.iconst 0, 1) := by decide +kernel
theorem dX6_meanPages_2 : decode cX6_meanPages 2 = .ok (.putfield 38, 3) := by decide +kernel
theorem dX6_meanPages_5 : decode cX6_meanPages 5 = .ok (.aload_n 0, 1) := by decide +kernel
theorem dX6_meanPages_6 : decode cX6_meanPages 6 = .ok (.invokevirtual 271, 3) := by decide +kernel
theorem dX6_meanPages_9 : decode cX6_meanPages 9 = .ok (.dreturn, 1) := by decide +kernel
theorem dX6_worst_0 : decode cX6_worst 0 = .ok (.iconst 0, 1) := by decide +kernel
theorem dX6_worst_1 : decode cX6_worst 1 = .ok (.istore_n 1, 1) := by decide +kernel
theorem dX6_worst_2 : decode cX6_worst 2 = .ok (.aload_n 0, 1) := by decide +kernel
theorem dX6_worst_3 : decode cX6_worst 3 = .ok (.invokevirtual 113, 3) := by decide +kernel
theorem dX6_worst_6 : decode cX6_worst 6 = .ok (.istore_n 2, 1) := by decide +kernel
theorem dX6_worst_7 : decode cX6_worst 7 = .ok (.iconst 0, 1) := by decide +kernel
theorem dX6_worst_8 : decode cX6_worst 8 = .ok (.istore_n 3, 1) := by decide +kernel
theorem dX6_worst_9 : decode cX6_worst 9 = .ok (.iload_n 3, 1) := by decide +kernel
theorem dX6_worst_10 : decode cX6_worst 10 = .ok (.iload_n 2, 1) := by decide +kernel
theorem dX6_worst_11 : decode cX6_worst 11 = .ok (.if_icmp .ge 42, 3) := by decide +kernel
theorem dX6_worst_14 : decode cX6_worst 14 = .ok (.aload_n 0, 1) := by decide +kernel
theorem dX6_worst_15 : decode cX6_worst 15 = .ok (.aload_n 0, 1) := by decide +kernel
theorem dX6_worst_16 : decode cX6_worst 16 = .ok (.getfield 29, 3) := by decide +kernel
theorem dX6_worst_19 : decode cX6_worst 19 = .ok (.iconst 2, 1) := by decide +kernel
theorem dX6_worst_20 : decode cX6_worst 20 = .ok (.iload_n 3, 1) := by decide +kernel
theorem dX6_worst_21 : decode cX6_worst 21 = .ok (.imul, 1) := by decide +kernel
theorem dX6_worst_22 : decode cX6_worst 22 = .ok (.iaload, 1) := by decide +kernel
theorem dX6_worst_23 : decode cX6_worst 23 = .ok (.invokevirtual 221, 3) := by decide +kernel
theorem dX6_worst_26 : decode cX6_worst 26 = .ok (.iload_n 1, 1) := by decide +kernel
theorem dX6_worst_27 : decode cX6_worst 27 = .ok (.if_icmp .le 18, 3) := by decide +kernel
theorem dX6_worst_30 : decode cX6_worst 30 = .ok (.aload_n 0, 1) := by decide +kernel
theorem dX6_worst_31 : decode cX6_worst 31 = .ok (.aload_n 0, 1) := by decide +kernel
theorem dX6_worst_32 : decode cX6_worst 32 = .ok (.getfield 29, 3) := by decide +kernel
theorem dX6_worst_35 : decode cX6_worst 35 = .ok (.iconst 2, 1) := by decide +kernel
theorem dX6_worst_36 : decode cX6_worst 36 = .ok (.iload_n 3, 1) := by decide +kernel
theorem dX6_worst_37 : decode cX6_worst 37 = .ok (.imul, 1) := by decide +kernel
theorem dX6_worst_38 : decode cX6_worst 38 = .ok (.iaload, 1) := by decide +kernel
theorem dX6_worst_39 : decode cX6_worst 39 = .ok (.invokevirtual 221, 3) := by decide +kernel
theorem dX6_worst_42 : decode cX6_worst 42 = .ok (.goto 4, 3) := by decide +kernel
theorem dX6_worst_45 : decode cX6_worst 45 = .ok (.iload_n 1, 1) := by decide +kernel
theorem dX6_worst_46 : decode cX6_worst 46 = .ok (.istore_n 1, 1) := by decide +kernel
theorem dX6_worst_47 : decode cX6_worst 47 = .ok (.iinc 3 1, 3) := by decide +kernel
theorem dX6_worst_50 : decode cX6_worst 50 = .ok (.goto (-41), 3) := by decide +kernel
theorem dX6_worst_53 : decode cX6_worst 53 = .ok (.iload_n 1, 1) := by decide +kernel
theorem dX6_worst_54 : decode cX6_worst 54 = .ok (.ireturn, 1) := by decide +kernel
theorem dX6_worstPages_0 : decode cX6_worstPages 0 = .ok (.aload_n 0, 1) := by decide +kernel
theorem dX6_worstPages_1 : decode cX6_worstPages 1 = .ok (.iconst 0, 1) := by decide +kernel
theorem dX6_worstPages_2 : decode cX6_worstPages 2 = .ok (.putfield 38, 3) := by decide +kernel
theorem dX6_worstPages_5 : decode cX6_worstPages 5 = .ok (.aload_n 0, 1) := by decide +kernel
theorem dX6_worstPages_6 : decode cX6_worstPages 6 = .ok (.invokevirtual 274, 3) := by decide +kernel
theorem dX6_worstPages_9 : decode cX6_worstPages 9 = .ok (.ireturn, 1) := by decide +kernel
theorem dX6_leavesBuilt_0 : decode cX6_leavesBuilt 0 = .ok (.aload_n 0, 1) := by decide +kernel
theorem dX6_leavesBuilt_1 : decode cX6_leavesBuilt 1 = .ok (.invokevirtual 113, 3) := by decide +kernel
theorem dX6_leavesBuilt_4 : decode cX6_leavesBuilt 4 = .ok (.aload_n 0, 1) := by decide +kernel
theorem dX6_leavesBuilt_5 : decode cX6_leavesBuilt 5 = .ok (.getfield 7, 3) := by decide +kernel
theorem dX6_leavesBuilt_8 : decode cX6_leavesBuilt 8 = .ok (.iconst 0, 1) := by decide +kernel
theorem dX6_leavesBuilt_9 : decode cX6_leavesBuilt 9 = .ok (.iaload, 1) := by decide +kernel
theorem dX6_leavesBuilt_10 : decode cX6_leavesBuilt 10 = .ok (.iload_n 1, 1) := by decide +kernel
theorem dX6_leavesBuilt_11 : decode cX6_leavesBuilt 11 = .ok (.invokestatic 277, 3) := by decide +kernel
theorem dX6_leavesBuilt_14 : decode cX6_leavesBuilt 14 = .ok (.ireturn, 1) := by decide +kernel
theorem dX6_leavesIfBuilt_0 : decode cX6_leavesIfBuilt 0 = .ok (.aload_n 0, 1) := by decide +kernel
theorem dX6_leavesIfBuilt_1 : decode cX6_leavesIfBuilt 1 = .ok (.iload_n 1, 1) := by decide +kernel
theorem dX6_leavesIfBuilt_2 : decode cX6_leavesIfBuilt 2 = .ok (.invokestatic 159, 3) := by decide +kernel
theorem dX6_leavesIfBuilt_5 : decode cX6_leavesIfBuilt 5 = .ok (.ifCond .eq 7, 3) := by decide +kernel
theorem dX6_leavesIfBuilt_8 : decode cX6_leavesIfBuilt 8 = .ok (.iconst 0, 1) := by decide +kernel
theorem dX6_leavesIfBuilt_9 : decode cX6_leavesIfBuilt 9 = .ok (.goto 4, 3) := by decide +kernel
theorem dX6_leavesIfBuilt_12 : decode cX6_leavesIfBuilt 12 = .ok (.iconst 1, 1) := by decide +kernel
theorem dX6_leavesIfBuilt_13 : decode cX6_leavesIfBuilt 13 = .ok (.putfield 38, 3) := by decide +kernel
theorem dX6_leavesIfBuilt_16 : decode cX6_leavesIfBuilt 16 = .ok (.aload_n 0, 1) := by decide +kernel
theorem dX6_leavesIfBuilt_17 : decode cX6_leavesIfBuilt 17 = .ok (.getfield 38, 3) := by decide +kernel
theorem dX6_leavesIfBuilt_20 : decode cX6_leavesIfBuilt 20 = .ok (.ifCond .le 7, 3) := by decide +kernel
theorem dX6_leavesIfBuilt_23 : decode cX6_leavesIfBuilt 23 = .ok (.iconst 0, 1) := by decide +kernel
theorem dX6_leavesIfBuilt_24 : decode cX6_leavesIfBuilt 24 = .ok (.goto 8, 3) := by decide +kernel
theorem dX6_leavesIfBuilt_27 : decode cX6_leavesIfBuilt 27 = .ok (.aload_n 0, 1) := by decide +kernel
theorem dX6_leavesIfBuilt_28 : decode cX6_leavesIfBuilt 28 = .ok (.iload_n 1, 1) := by decide +kernel
theorem dX6_leavesIfBuilt_29 : decode cX6_leavesIfBuilt 29 = .ok (.invokevirtual 280, 3) := by decide +kernel
theorem dX6_leavesIfBuilt_32 : decode cX6_leavesIfBuilt 32 = .ok (.ireturn, 1) := by decide +kernel
theorem dX6_levelsIfBuilt_0 : decode cX6_levelsIfBuilt 0 = .ok (.aload_n 0, 1) := by decide +kernel
theorem dX6_levelsIfBuilt_1 : decode cX6_levelsIfBuilt 1 = .ok (.iload_n 1, 1) := by decide +kernel
theorem dX6_levelsIfBuilt_2 : decode cX6_levelsIfBuilt 2 = .ok (.invokestatic 159, 3) := by decide +kernel
theorem dX6_levelsIfBuilt_5 : decode cX6_levelsIfBuilt 5 = .ok (.ifCond .eq 7, 3) := by decide +kernel
theorem dX6_levelsIfBuilt_8 : decode cX6_levelsIfBuilt 8 = .ok (.iconst 0, 1) := by decide +kernel
theorem dX6_levelsIfBuilt_9 : decode cX6_levelsIfBuilt 9 = .ok (.goto 4, 3) := by decide +kernel
theorem dX6_levelsIfBuilt_12 : decode cX6_levelsIfBuilt 12 = .ok (.iconst 1, 1) := by decide +kernel
theorem dX6_levelsIfBuilt_13 : decode cX6_levelsIfBuilt 13 = .ok (.putfield 38, 3) := by decide +kernel
theorem dX6_levelsIfBuilt_16 : decode cX6_levelsIfBuilt 16 = .ok (.aload_n 0, 1) := by decide +kernel
theorem dX6_levelsIfBuilt_17 : decode cX6_levelsIfBuilt 17 = .ok (.getfield 38, 3) := by decide +kernel
theorem dX6_levelsIfBuilt_20 : decode cX6_levelsIfBuilt 20 = .ok (.ifCond .le 7, 3) := by decide +kernel
theorem dX6_levelsIfBuilt_23 : decode cX6_levelsIfBuilt 23 = .ok (.iconst 0, 1) := by decide +kernel
theorem dX6_levelsIfBuilt_24 : decode cX6_levelsIfBuilt 24 = .ok (.goto 18, 3) := by decide +kernel
theorem dX6_levelsIfBuilt_27 : decode cX6_levelsIfBuilt 27 = .ok (.aload_n 0, 1) := by decide +kernel
theorem dX6_levelsIfBuilt_28 : decode cX6_levelsIfBuilt 28 = .ok (.aload_n 0, 1) := by decide +kernel
theorem dX6_levelsIfBuilt_29 : decode cX6_levelsIfBuilt 29 = .ok (.iload_n 1, 1) := by decide +kernel
theorem dX6_levelsIfBuilt_30 : decode cX6_levelsIfBuilt 30 = .ok (.invokevirtual 280, 3) := by decide +kernel
theorem dX6_levelsIfBuilt_33 : decode cX6_levelsIfBuilt 33 = .ok (.aload_n 0, 1) := by decide +kernel
theorem dX6_levelsIfBuilt_34 : decode cX6_levelsIfBuilt 34 = .ok (.getfield 7, 3) := by decide +kernel
theorem dX6_levelsIfBuilt_37 : decode cX6_levelsIfBuilt 37 = .ok (.iconst 1, 1) := by decide +kernel
theorem dX6_levelsIfBuilt_38 : decode cX6_levelsIfBuilt 38 = .ok (.iaload, 1) := by decide +kernel
theorem dX6_levelsIfBuilt_39 : decode cX6_levelsIfBuilt 39 = .ok (.invokevirtual 117, 3) := by decide +kernel
theorem dX6_levelsIfBuilt_42 : decode cX6_levelsIfBuilt 42 = .ok (.ireturn, 1) := by decide +kernel
theorem dX6_runsIn_0 : decode cX6_runsIn 0 = .ok (.ldc2_w 283, 3) := by decide +kernel
theorem dX6_runsIn_3 : decode cX6_runsIn 3 = .ok (.lload_n 1, 1) := by decide +kernel
theorem dX6_runsIn_4 : decode cX6_runsIn 4 = .ok (.lmul, 1) := by decide +kernel
theorem dX6_runsIn_5 : decode cX6_runsIn 5 = .ok (.aload_n 0, 1) := by decide +kernel
theorem dX6_runsIn_6 : decode cX6_runsIn 6 = .ok (.getfield 7, 3) := by decide +kernel
theorem dX6_runsIn_9 : decode cX6_runsIn 9 = .ok (.bipush 6, 2) := by decide +kernel
theorem dX6_runsIn_11 : decode cX6_runsIn 11 = .ok (.iaload, 1) := by decide +kernel
theorem dX6_runsIn_12 : decode cX6_runsIn 12 = .ok (.i2l, 1) := by decide +kernel
theorem dX6_runsIn_13 : decode cX6_runsIn 13 = .ok (.ladd, 1) := by decide +kernel
theorem dX6_runsIn_14 : decode cX6_runsIn 14 = .ok (.lstore_n 3, 1) := by decide +kernel
theorem dX6_runsIn_15 : decode cX6_runsIn 15 = .ok (.iconst 0, 1) := by decide +kernel
theorem dX6_runsIn_16 : decode cX6_runsIn 16 = .ok (.istore 5, 2) := by decide +kernel
theorem dX6_runsIn_18 : decode cX6_runsIn 18 = .ok (.iload 5, 2) := by decide +kernel
theorem dX6_runsIn_20 : decode cX6_runsIn 20 = .ok (.aload_n 0, 1) := by decide +kernel
theorem dX6_runsIn_21 : decode cX6_runsIn 21 = .ok (.getfield 7, 3) := by decide +kernel
theorem dX6_runsIn_24 : decode cX6_runsIn 24 = .ok (.bipush 6, 2) := by decide +kernel
theorem dX6_runsIn_26 : decode cX6_runsIn 26 = .ok (.iaload, 1) := by decide +kernel
theorem dX6_runsIn_27 : decode cX6_runsIn 27 = .ok (.if_icmp .gt 82, 3) := by decide +kernel
theorem dX6_runsIn_30 : decode cX6_runsIn 30 = .ok (.ldc2_w 283, 3) := by decide +kernel
theorem dX6_runsIn_33 : decode cX6_runsIn 33 = .ok (.lload_n 3, 1) := by decide +kernel
theorem dX6_runsIn_34 : decode cX6_runsIn 34 = .ok (.lmul, 1) := by decide +kernel
theorem dX6_runsIn_35 : decode cX6_runsIn 35 = .ok (.aload_n 0, 1) := by decide +kernel
theorem dX6_runsIn_36 : decode cX6_runsIn 36 = .ok (.iload 5, 2) := by decide +kernel
theorem dX6_runsIn_38 : decode cX6_runsIn 38 = .ok (.invokevirtual 54, 3) := by decide +kernel
theorem dX6_runsIn_41 : decode cX6_runsIn 41 = .ok (.i2l, 1) := by decide +kernel
theorem dX6_runsIn_42 : decode cX6_runsIn 42 = .ok (.ladd, 1) := by decide +kernel
theorem dX6_runsIn_43 : decode cX6_runsIn 43 = .ok (.lstore_n 3, 1) := by decide +kernel
theorem dX6_runsIn_44 : decode cX6_runsIn 44 = .ok (.iconst 0, 1) := by decide +kernel
theorem dX6_runsIn_45 : decode cX6_runsIn 45 = .ok (.istore 6, 2) := by decide +kernel
theorem dX6_runsIn_47 : decode cX6_runsIn 47 = .ok (.iload 6, 2) := by decide +kernel
theorem dX6_runsIn_49 : decode cX6_runsIn 49 = .ok (.aload_n 0, 1) := by decide +kernel
theorem dX6_runsIn_50 : decode cX6_runsIn 50 = .ok (.iload 5, 2) := by decide +kernel
theorem dX6_runsIn_52 : decode cX6_runsIn 52 = .ok (.invokevirtual 54, 3) := by decide +kernel
theorem dX6_runsIn_55 : decode cX6_runsIn 55 = .ok (.if_icmp .ge 48, 3) := by decide +kernel
theorem dX6_runsIn_58 : decode cX6_runsIn 58 = .ok (.ldc2_w 283, 3) := by decide +kernel
theorem dX6_runsIn_61 : decode cX6_runsIn 61 = .ok (.ldc2_w 283, 3) := by decide +kernel
theorem dX6_runsIn_64 : decode cX6_runsIn 64 = .ok (.lload_n 3, 1) := by decide +kernel
theorem dX6_runsIn_65 : decode cX6_runsIn 65 = .ok (.lmul, 1) := by decide +kernel
theorem dX6_runsIn_66 : decode cX6_runsIn 66 = .ok (.aload_n 0, 1) := by decide +kernel
theorem dX6_runsIn_67 : decode cX6_runsIn 67 = .ok (.iload 5, 2) := by decide +kernel
theorem dX6_runsIn_69 : decode cX6_runsIn 69 = .ok (.iload 6, 2) := by decide +kernel
theorem dX6_runsIn_71 : decode cX6_runsIn 71 = .ok (.invokevirtual 58, 3) := by decide +kernel
theorem dX6_runsIn_74 : decode cX6_runsIn 74 = .ok (.i2l, 1) := by decide +kernel
theorem dX6_runsIn_75 : decode cX6_runsIn 75 = .ok (.ladd, 1) := by decide +kernel
theorem dX6_runsIn_76 : decode cX6_runsIn 76 = .ok (.lmul, 1) := by decide +kernel
theorem dX6_runsIn_77 : decode cX6_runsIn 77 = .ok (.aload_n 0, 1) := by decide +kernel
theorem dX6_runsIn_78 : decode cX6_runsIn 78 = .ok (.iload 5, 2) := by decide +kernel
theorem dX6_runsIn_80 : decode cX6_runsIn 80 = .ok (.iload 6, 2) := by decide +kernel
theorem dX6_runsIn_82 : decode cX6_runsIn 82 = .ok (.invokevirtual 65, 3) := by decide +kernel
theorem dX6_runsIn_85 : decode cX6_runsIn 85 = .ok (.iconst (-1), 1) := by decide +kernel
theorem dX6_runsIn_86 : decode cX6_runsIn 86 = .ok (.if_icmp .ne 7, 3) := by decide +kernel
theorem dX6_runsIn_89 : decode cX6_runsIn 89 = .ok (.iconst 1, 1) := by decide +kernel
theorem dX6_runsIn_90 : decode cX6_runsIn 90 = .ok (.goto 4, 3) := by decide +kernel
theorem dX6_runsIn_93 : decode cX6_runsIn 93 = .ok (.iconst 0, 1) := by decide +kernel
theorem dX6_runsIn_94 : decode cX6_runsIn 94 = .ok (.i2l, 1) := by decide +kernel
theorem dX6_runsIn_95 : decode cX6_runsIn 95 = .ok (.ladd, 1) := by decide +kernel
theorem dX6_runsIn_96 : decode cX6_runsIn 96 = .ok (.lstore_n 3, 1) := by decide +kernel
theorem dX6_runsIn_97 : decode cX6_runsIn 97 = .ok (.iinc 6 1, 3) := by decide +kernel
theorem dX6_runsIn_100 : decode cX6_runsIn 100 = .ok (.goto (-53), 3) := by decide +kernel
theorem dX6_runsIn_103 : decode cX6_runsIn 103 = .ok (.iinc 5 1, 3) := by decide +kernel
theorem dX6_runsIn_106 : decode cX6_runsIn 106 = .ok (.goto (-88), 3) := by decide +kernel
theorem dX6_runsIn_109 : decode cX6_runsIn 109 = .ok (.lload_n 3, 1) := by decide +kernel
theorem dX6_runsIn_110 : decode cX6_runsIn 110 = .ok (.lreturn, 1) := by decide +kernel
theorem dX6_leavesIn_0 : decode cX6_leavesIn 0 = .ok (.ldc2_w 283, 3) := by decide +kernel
theorem dX6_leavesIn_3 : decode cX6_leavesIn 3 = .ok (.ldc2_w 283, 3) := by decide +kernel
theorem dX6_leavesIn_6 : decode cX6_leavesIn 6 = .ok (.lload_n 1, 1) := by decide +kernel
theorem dX6_leavesIn_7 : decode cX6_leavesIn 7 = .ok (.lmul, 1) := by decide +kernel
theorem dX6_leavesIn_8 : decode cX6_leavesIn 8 = .ok (.aload_n 0, 1) := by decide +kernel
theorem dX6_leavesIn_9 : decode cX6_leavesIn 9 = .ok (.getfield 7, 3) := by decide +kernel
theorem dX6_leavesIn_12 : decode cX6_leavesIn 12 = .ok (.bipush 7, 2) := by decide +kernel
theorem dX6_leavesIn_14 : decode cX6_leavesIn 14 = .ok (.iaload, 1) := by decide +kernel
theorem dX6_leavesIn_15 : decode cX6_leavesIn 15 = .ok (.i2l, 1) := by decide +kernel
theorem dX6_leavesIn_16 : decode cX6_leavesIn 16 = .ok (.ladd, 1) := by decide +kernel
theorem dX6_leavesIn_17 : decode cX6_leavesIn 17 = .ok (.lmul, 1) := by decide +kernel
theorem dX6_leavesIn_18 : decode cX6_leavesIn 18 = .ok (.aload_n 0, 1) := by decide +kernel
theorem dX6_leavesIn_19 : decode cX6_leavesIn 19 = .ok (.getfield 7, 3) := by decide +kernel
theorem dX6_leavesIn_22 : decode cX6_leavesIn 22 = .ok (.bipush 8, 2) := by decide +kernel
theorem dX6_leavesIn_24 : decode cX6_leavesIn 24 = .ok (.iaload, 1) := by decide +kernel
theorem dX6_leavesIn_25 : decode cX6_leavesIn 25 = .ok (.i2l, 1) := by decide +kernel
theorem dX6_leavesIn_26 : decode cX6_leavesIn 26 = .ok (.ladd, 1) := by decide +kernel
theorem dX6_leavesIn_27 : decode cX6_leavesIn 27 = .ok (.lstore_n 3, 1) := by decide +kernel
theorem dX6_leavesIn_28 : decode cX6_leavesIn 28 = .ok (.iconst 0, 1) := by decide +kernel
theorem dX6_leavesIn_29 : decode cX6_leavesIn 29 = .ok (.istore 5, 2) := by decide +kernel
theorem dX6_leavesIn_31 : decode cX6_leavesIn 31 = .ok (.iload 5, 2) := by decide +kernel
theorem dX6_leavesIn_33 : decode cX6_leavesIn 33 = .ok (.aload_n 0, 1) := by decide +kernel
theorem dX6_leavesIn_34 : decode cX6_leavesIn 34 = .ok (.getfield 7, 3) := by decide +kernel
theorem dX6_leavesIn_37 : decode cX6_leavesIn 37 = .ok (.bipush 8, 2) := by decide +kernel
theorem dX6_leavesIn_39 : decode cX6_leavesIn 39 = .ok (.iaload, 1) := by decide +kernel
theorem dX6_leavesIn_40 : decode cX6_leavesIn 40 = .ok (.if_icmp .ge 107, 3) := by decide +kernel
theorem dX6_leavesIn_43 : decode cX6_leavesIn 43 = .ok (.aload_n 0, 1) := by decide +kernel
theorem dX6_leavesIn_44 : decode cX6_leavesIn 44 = .ok (.iload 5, 2) := by decide +kernel
theorem dX6_leavesIn_46 : decode cX6_leavesIn 46 = .ok (.invokevirtual 98, 3) := by decide +kernel
theorem dX6_leavesIn_49 : decode cX6_leavesIn 49 = .ok (.istore 6, 2) := by decide +kernel
theorem dX6_leavesIn_51 : decode cX6_leavesIn 51 = .ok (.ldc2_w 283, 3) := by decide +kernel
theorem dX6_leavesIn_54 : decode cX6_leavesIn 54 = .ok (.lload_n 3, 1) := by decide +kernel
theorem dX6_leavesIn_55 : decode cX6_leavesIn 55 = .ok (.lmul, 1) := by decide +kernel
theorem dX6_leavesIn_56 : decode cX6_leavesIn 56 = .ok (.iload 6, 2) := by decide +kernel
theorem dX6_leavesIn_58 : decode cX6_leavesIn 58 = .ok (.i2l, 1) := by decide +kernel
theorem dX6_leavesIn_59 : decode cX6_leavesIn 59 = .ok (.ladd, 1) := by decide +kernel
theorem dX6_leavesIn_60 : decode cX6_leavesIn 60 = .ok (.lstore_n 3, 1) := by decide +kernel
theorem dX6_leavesIn_61 : decode cX6_leavesIn 61 = .ok (.iconst 0, 1) := by decide +kernel
theorem dX6_leavesIn_62 : decode cX6_leavesIn 62 = .ok (.istore 7, 2) := by decide +kernel
theorem dX6_leavesIn_64 : decode cX6_leavesIn 64 = .ok (.iload 7, 2) := by decide +kernel
theorem dX6_leavesIn_66 : decode cX6_leavesIn 66 = .ok (.iload 6, 2) := by decide +kernel
theorem dX6_leavesIn_68 : decode cX6_leavesIn 68 = .ok (.if_icmp .ge 47, 3) := by decide +kernel
theorem dX6_leavesIn_71 : decode cX6_leavesIn 71 = .ok (.aload_n 0, 1) := by decide +kernel
theorem dX6_leavesIn_72 : decode cX6_leavesIn 72 = .ok (.iload 5, 2) := by decide +kernel
theorem dX6_leavesIn_74 : decode cX6_leavesIn 74 = .ok (.iload 7, 2) := by decide +kernel
theorem dX6_leavesIn_76 : decode cX6_leavesIn 76 = .ok (.invokevirtual 246, 3) := by decide +kernel
theorem dX6_leavesIn_79 : decode cX6_leavesIn 79 = .ok (.istore 8, 2) := by decide +kernel
theorem dX6_leavesIn_81 : decode cX6_leavesIn 81 = .ok (.ldc2_w 283, 3) := by decide +kernel
theorem dX6_leavesIn_84 : decode cX6_leavesIn 84 = .ok (.ldc2_w 283, 3) := by decide +kernel
theorem dX6_leavesIn_87 : decode cX6_leavesIn 87 = .ok (.lload_n 3, 1) := by decide +kernel
theorem dX6_leavesIn_88 : decode cX6_leavesIn 88 = .ok (.lmul, 1) := by decide +kernel
theorem dX6_leavesIn_89 : decode cX6_leavesIn 89 = .ok (.aload_n 0, 1) := by decide +kernel
theorem dX6_leavesIn_90 : decode cX6_leavesIn 90 = .ok (.iload 8, 2) := by decide +kernel
theorem dX6_leavesIn_92 : decode cX6_leavesIn 92 = .ok (.iconst 0, 1) := by decide +kernel
theorem dX6_leavesIn_93 : decode cX6_leavesIn 93 = .ok (.invokevirtual 72, 3) := by decide +kernel
theorem dX6_leavesIn_96 : decode cX6_leavesIn 96 = .ok (.i2l, 1) := by decide +kernel
theorem dX6_leavesIn_97 : decode cX6_leavesIn 97 = .ok (.ladd, 1) := by decide +kernel
theorem dX6_leavesIn_98 : decode cX6_leavesIn 98 = .ok (.lmul, 1) := by decide +kernel
theorem dX6_leavesIn_99 : decode cX6_leavesIn 99 = .ok (.aload_n 0, 1) := by decide +kernel
theorem dX6_leavesIn_100 : decode cX6_leavesIn 100 = .ok (.iload 8, 2) := by decide +kernel
theorem dX6_leavesIn_102 : decode cX6_leavesIn 102 = .ok (.iconst 1, 1) := by decide +kernel
theorem dX6_leavesIn_103 : decode cX6_leavesIn 103 = .ok (.invokevirtual 72, 3) := by decide +kernel
theorem dX6_leavesIn_106 : decode cX6_leavesIn 106 = .ok (.i2l, 1) := by decide +kernel
theorem dX6_leavesIn_107 : decode cX6_leavesIn 107 = .ok (.ladd, 1) := by decide +kernel
theorem dX6_leavesIn_108 : decode cX6_leavesIn 108 = .ok (.lstore_n 3, 1) := by decide +kernel
theorem dX6_leavesIn_109 : decode cX6_leavesIn 109 = .ok (.iinc 7 1, 3) := by decide +kernel
theorem dX6_leavesIn_112 : decode cX6_leavesIn 112 = .ok (.goto (-48), 3) := by decide +kernel
theorem dX6_leavesIn_115 : decode cX6_leavesIn 115 = .ok (.ldc2_w 283, 3) := by decide +kernel
theorem dX6_leavesIn_118 : decode cX6_leavesIn 118 = .ok (.ldc2_w 283, 3) := by decide +kernel
theorem dX6_leavesIn_121 : decode cX6_leavesIn 121 = .ok (.lload_n 3, 1) := by decide +kernel
theorem dX6_leavesIn_122 : decode cX6_leavesIn 122 = .ok (.lmul, 1) := by decide +kernel
theorem dX6_leavesIn_123 : decode cX6_leavesIn 123 = .ok (.aload_n 0, 1) := by decide +kernel
theorem dX6_leavesIn_124 : decode cX6_leavesIn 124 = .ok (.iload 5, 2) := by decide +kernel
theorem dX6_leavesIn_126 : decode cX6_leavesIn 126 = .ok (.invokevirtual 78, 3) := by decide +kernel
theorem dX6_leavesIn_129 : decode cX6_leavesIn 129 = .ok (.i2l, 1) := by decide +kernel
theorem dX6_leavesIn_130 : decode cX6_leavesIn 130 = .ok (.ladd, 1) := by decide +kernel
theorem dX6_leavesIn_131 : decode cX6_leavesIn 131 = .ok (.lmul, 1) := by decide +kernel
theorem dX6_leavesIn_132 : decode cX6_leavesIn 132 = .ok (.aload_n 0, 1) := by decide +kernel
theorem dX6_leavesIn_133 : decode cX6_leavesIn 133 = .ok (.iload 5, 2) := by decide +kernel
theorem dX6_leavesIn_135 : decode cX6_leavesIn 135 = .ok (.invokevirtual 123, 3) := by decide +kernel
theorem dX6_leavesIn_138 : decode cX6_leavesIn 138 = .ok (.i2l, 1) := by decide +kernel
theorem dX6_leavesIn_139 : decode cX6_leavesIn 139 = .ok (.ladd, 1) := by decide +kernel
theorem dX6_leavesIn_140 : decode cX6_leavesIn 140 = .ok (.lstore_n 3, 1) := by decide +kernel
theorem dX6_leavesIn_141 : decode cX6_leavesIn 141 = .ok (.iinc 5 1, 3) := by decide +kernel
theorem dX6_leavesIn_144 : decode cX6_leavesIn 144 = .ok (.goto (-113), 3) := by decide +kernel
theorem dX6_leavesIn_147 : decode cX6_leavesIn 147 = .ok (.lload_n 3, 1) := by decide +kernel
theorem dX6_leavesIn_148 : decode cX6_leavesIn 148 = .ok (.lreturn, 1) := by decide +kernel
theorem dX6_nodesIn_0 : decode cX6_nodesIn 0 = .ok (.aload_n 0, 1) := by decide +kernel
theorem dX6_nodesIn_1 : decode cX6_nodesIn 1 = .ok (.invokevirtual 120, 3) := by decide +kernel
theorem dX6_nodesIn_4 : decode cX6_nodesIn 4 = .ok (.istore_n 3, 1) := by decide +kernel
theorem dX6_nodesIn_5 : decode cX6_nodesIn 5 = .ok (.ldc2_w 283, 3) := by decide +kernel
theorem dX6_nodesIn_8 : decode cX6_nodesIn 8 = .ok (.lload_n 1, 1) := by decide +kernel
theorem dX6_nodesIn_9 : decode cX6_nodesIn 9 = .ok (.lmul, 1) := by decide +kernel
theorem dX6_nodesIn_10 : decode cX6_nodesIn 10 = .ok (.iload_n 3, 1) := by decide +kernel
theorem dX6_nodesIn_11 : decode cX6_nodesIn 11 = .ok (.i2l, 1) := by decide +kernel
theorem dX6_nodesIn_12 : decode cX6_nodesIn 12 = .ok (.ladd, 1) := by decide +kernel
theorem dX6_nodesIn_13 : decode cX6_nodesIn 13 = .ok (.lstore 4, 2) := by decide +kernel
theorem dX6_nodesIn_15 : decode cX6_nodesIn 15 = .ok (.iconst 0, 1) := by decide +kernel
theorem dX6_nodesIn_16 : decode cX6_nodesIn 16 = .ok (.istore 6, 2) := by decide +kernel
theorem dX6_nodesIn_18 : decode cX6_nodesIn 18 = .ok (.iload 6, 2) := by decide +kernel
theorem dX6_nodesIn_20 : decode cX6_nodesIn 20 = .ok (.iload_n 3, 1) := by decide +kernel
theorem dX6_nodesIn_21 : decode cX6_nodesIn 21 = .ok (.if_icmp .ge 77, 3) := by decide +kernel
theorem dX6_nodesIn_24 : decode cX6_nodesIn 24 = .ok (.aload_n 0, 1) := by decide +kernel
theorem dX6_nodesIn_25 : decode cX6_nodesIn 25 = .ok (.iload 6, 2) := by decide +kernel
theorem dX6_nodesIn_27 : decode cX6_nodesIn 27 = .ok (.invokevirtual 252, 3) := by decide +kernel
theorem dX6_nodesIn_30 : decode cX6_nodesIn 30 = .ok (.istore 7, 2) := by decide +kernel
theorem dX6_nodesIn_32 : decode cX6_nodesIn 32 = .ok (.ldc2_w 283, 3) := by decide +kernel
theorem dX6_nodesIn_35 : decode cX6_nodesIn 35 = .ok (.lload 4, 2) := by decide +kernel
theorem dX6_nodesIn_37 : decode cX6_nodesIn 37 = .ok (.lmul, 1) := by decide +kernel
theorem dX6_nodesIn_38 : decode cX6_nodesIn 38 = .ok (.iload 7, 2) := by decide +kernel
theorem dX6_nodesIn_40 : decode cX6_nodesIn 40 = .ok (.i2l, 1) := by decide +kernel
theorem dX6_nodesIn_41 : decode cX6_nodesIn 41 = .ok (.ladd, 1) := by decide +kernel
theorem dX6_nodesIn_42 : decode cX6_nodesIn 42 = .ok (.lstore 4, 2) := by decide +kernel
theorem dX6_nodesIn_44 : decode cX6_nodesIn 44 = .ok (.iconst 0, 1) := by decide +kernel
theorem dX6_nodesIn_45 : decode cX6_nodesIn 45 = .ok (.istore 8, 2) := by decide +kernel
theorem dX6_nodesIn_47 : decode cX6_nodesIn 47 = .ok (.iload 8, 2) := by decide +kernel
theorem dX6_nodesIn_49 : decode cX6_nodesIn 49 = .ok (.iload 7, 2) := by decide +kernel
theorem dX6_nodesIn_51 : decode cX6_nodesIn 51 = .ok (.if_icmp .ge 41, 3) := by decide +kernel
theorem dX6_nodesIn_54 : decode cX6_nodesIn 54 = .ok (.ldc2_w 283, 3) := by decide +kernel
theorem dX6_nodesIn_57 : decode cX6_nodesIn 57 = .ok (.ldc2_w 283, 3) := by decide +kernel
theorem dX6_nodesIn_60 : decode cX6_nodesIn 60 = .ok (.lload 4, 2) := by decide +kernel
theorem dX6_nodesIn_62 : decode cX6_nodesIn 62 = .ok (.lmul, 1) := by decide +kernel
theorem dX6_nodesIn_63 : decode cX6_nodesIn 63 = .ok (.aload_n 0, 1) := by decide +kernel
theorem dX6_nodesIn_64 : decode cX6_nodesIn 64 = .ok (.iload 6, 2) := by decide +kernel
theorem dX6_nodesIn_66 : decode cX6_nodesIn 66 = .ok (.iload 8, 2) := by decide +kernel
theorem dX6_nodesIn_68 : decode cX6_nodesIn 68 = .ok (.invokevirtual 258, 3) := by decide +kernel
theorem dX6_nodesIn_71 : decode cX6_nodesIn 71 = .ok (.i2l, 1) := by decide +kernel
theorem dX6_nodesIn_72 : decode cX6_nodesIn 72 = .ok (.ladd, 1) := by decide +kernel
theorem dX6_nodesIn_73 : decode cX6_nodesIn 73 = .ok (.lmul, 1) := by decide +kernel
theorem dX6_nodesIn_74 : decode cX6_nodesIn 74 = .ok (.aload_n 0, 1) := by decide +kernel
theorem dX6_nodesIn_75 : decode cX6_nodesIn 75 = .ok (.iload 6, 2) := by decide +kernel
theorem dX6_nodesIn_77 : decode cX6_nodesIn 77 = .ok (.iload 8, 2) := by decide +kernel
theorem dX6_nodesIn_79 : decode cX6_nodesIn 79 = .ok (.invokevirtual 261, 3) := by decide +kernel
theorem dX6_nodesIn_82 : decode cX6_nodesIn 82 = .ok (.i2l, 1) := by decide +kernel
theorem dX6_nodesIn_83 : decode cX6_nodesIn 83 = .ok (.ladd, 1) := by decide +kernel
theorem dX6_nodesIn_84 : decode cX6_nodesIn 84 = .ok (.lstore 4, 2) := by decide +kernel
theorem dX6_nodesIn_86 : decode cX6_nodesIn 86 = .ok (.iinc 8 1, 3) := by decide +kernel
theorem dX6_nodesIn_89 : decode cX6_nodesIn 89 = .ok (.goto (-42), 3) := by decide +kernel
theorem dX6_nodesIn_92 : decode cX6_nodesIn 92 = .ok (.iinc 6 1, 3) := by decide +kernel
theorem dX6_nodesIn_95 : decode cX6_nodesIn 95 = .ok (.goto (-77), 3) := by decide +kernel
theorem dX6_nodesIn_98 : decode cX6_nodesIn 98 = .ok (.lload 4, 2) := by decide +kernel
theorem dX6_nodesIn_100 : decode cX6_nodesIn 100 = .ok (.lreturn, 1) := by decide +kernel
theorem dX6_keysIn_0 : decode cX6_keysIn 0 = .ok (.aload_n 0, 1) := by decide +kernel
theorem dX6_keysIn_1 : decode cX6_keysIn 1 = .ok (.invokevirtual 113, 3) := by decide +kernel
theorem dX6_keysIn_4 : decode cX6_keysIn 4 = .ok (.istore_n 3, 1) := by decide +kernel
theorem dX6_keysIn_5 : decode cX6_keysIn 5 = .ok (.ldc2_w 283, 3) := by decide +kernel
theorem dX6_keysIn_8 : decode cX6_keysIn 8 = .ok (.lload_n 1, 1) := by decide +kernel
theorem dX6_keysIn_9 : decode cX6_keysIn 9 = .ok (.lmul, 1) := by decide +kernel
theorem dX6_keysIn_10 : decode cX6_keysIn 10 = .ok (.iload_n 3, 1) := by decide +kernel
theorem dX6_keysIn_11 : decode cX6_keysIn 11 = .ok (.i2l, 1) := by decide +kernel
theorem dX6_keysIn_12 : decode cX6_keysIn 12 = .ok (.ladd, 1) := by decide +kernel
theorem dX6_keysIn_13 : decode cX6_keysIn 13 = .ok (.lstore 4, 2) := by decide +kernel
theorem dX6_keysIn_15 : decode cX6_keysIn 15 = .ok (.iconst 0, 1) := by decide +kernel
theorem dX6_keysIn_16 : decode cX6_keysIn 16 = .ok (.istore 6, 2) := by decide +kernel
theorem dX6_keysIn_18 : decode cX6_keysIn 18 = .ok (.iload 6, 2) := by decide +kernel
theorem dX6_keysIn_20 : decode cX6_keysIn 20 = .ok (.iload_n 3, 1) := by decide +kernel
theorem dX6_keysIn_21 : decode cX6_keysIn 21 = .ok (.if_icmp .ge 74, 3) := by decide +kernel
theorem dX6_keysIn_24 : decode cX6_keysIn 24 = .ok (.ldc2_w 283, 3) := by decide +kernel
theorem dX6_keysIn_27 : decode cX6_keysIn 27 = .ok (.ldc2_w 283, 3) := by decide +kernel
theorem dX6_keysIn_30 : decode cX6_keysIn 30 = .ok (.lload 4, 2) := by decide +kernel
theorem dX6_keysIn_32 : decode cX6_keysIn 32 = .ok (.lmul, 1) := by decide +kernel
theorem dX6_keysIn_33 : decode cX6_keysIn 33 = .ok (.aload_n 0, 1) := by decide +kernel
theorem dX6_keysIn_34 : decode cX6_keysIn 34 = .ok (.getfield 29, 3) := by decide +kernel
theorem dX6_keysIn_37 : decode cX6_keysIn 37 = .ok (.iconst 2, 1) := by decide +kernel
theorem dX6_keysIn_38 : decode cX6_keysIn 38 = .ok (.iload 6, 2) := by decide +kernel
theorem dX6_keysIn_40 : decode cX6_keysIn 40 = .ok (.imul, 1) := by decide +kernel
theorem dX6_keysIn_41 : decode cX6_keysIn 41 = .ok (.iaload, 1) := by decide +kernel
theorem dX6_keysIn_42 : decode cX6_keysIn 42 = .ok (.i2l, 1) := by decide +kernel
theorem dX6_keysIn_43 : decode cX6_keysIn 43 = .ok (.ladd, 1) := by decide +kernel
theorem dX6_keysIn_44 : decode cX6_keysIn 44 = .ok (.lmul, 1) := by decide +kernel
theorem dX6_keysIn_45 : decode cX6_keysIn 45 = .ok (.aload_n 0, 1) := by decide +kernel
theorem dX6_keysIn_46 : decode cX6_keysIn 46 = .ok (.getfield 29, 3) := by decide +kernel
theorem dX6_keysIn_49 : decode cX6_keysIn 49 = .ok (.iconst 2, 1) := by decide +kernel
theorem dX6_keysIn_50 : decode cX6_keysIn 50 = .ok (.iload 6, 2) := by decide +kernel
theorem dX6_keysIn_52 : decode cX6_keysIn 52 = .ok (.imul, 1) := by decide +kernel
theorem dX6_keysIn_53 : decode cX6_keysIn 53 = .ok (.iconst 1, 1) := by decide +kernel
theorem dX6_keysIn_54 : decode cX6_keysIn 54 = .ok (.iadd, 1) := by decide +kernel
theorem dX6_keysIn_55 : decode cX6_keysIn 55 = .ok (.iaload, 1) := by decide +kernel
theorem dX6_keysIn_56 : decode cX6_keysIn 56 = .ok (.i2l, 1) := by decide +kernel
theorem dX6_keysIn_57 : decode cX6_keysIn 57 = .ok (.ladd, 1) := by decide +kernel
theorem dX6_keysIn_58 : decode cX6_keysIn 58 = .ok (.lstore 4, 2) := by decide +kernel
theorem dX6_keysIn_60 : decode cX6_keysIn 60 = .ok (.ldc2_w 283, 3) := by decide +kernel
theorem dX6_keysIn_63 : decode cX6_keysIn 63 = .ok (.ldc2_w 283, 3) := by decide +kernel
theorem dX6_keysIn_66 : decode cX6_keysIn 66 = .ok (.lload 4, 2) := by decide +kernel
theorem dX6_keysIn_68 : decode cX6_keysIn 68 = .ok (.lmul, 1) := by decide +kernel
theorem dX6_keysIn_69 : decode cX6_keysIn 69 = .ok (.aload_n 0, 1) := by decide +kernel
theorem dX6_keysIn_70 : decode cX6_keysIn 70 = .ok (.aload_n 0, 1) := by decide +kernel
theorem dX6_keysIn_71 : decode cX6_keysIn 71 = .ok (.getfield 29, 3) := by decide +kernel
theorem dX6_keysIn_74 : decode cX6_keysIn 74 = .ok (.iconst 2, 1) := by decide +kernel
theorem dX6_keysIn_75 : decode cX6_keysIn 75 = .ok (.iload 6, 2) := by decide +kernel
theorem dX6_keysIn_77 : decode cX6_keysIn 77 = .ok (.imul, 1) := by decide +kernel
theorem dX6_keysIn_78 : decode cX6_keysIn 78 = .ok (.iaload, 1) := by decide +kernel
theorem dX6_keysIn_79 : decode cX6_keysIn 79 = .ok (.invokevirtual 221, 3) := by decide +kernel
theorem dX6_keysIn_82 : decode cX6_keysIn 82 = .ok (.i2l, 1) := by decide +kernel
theorem dX6_keysIn_83 : decode cX6_keysIn 83 = .ok (.ladd, 1) := by decide +kernel
theorem dX6_keysIn_84 : decode cX6_keysIn 84 = .ok (.lmul, 1) := by decide +kernel
theorem dX6_keysIn_85 : decode cX6_keysIn 85 = .ok (.lconst 1, 1) := by decide +kernel
theorem dX6_keysIn_86 : decode cX6_keysIn 86 = .ok (.ladd, 1) := by decide +kernel
theorem dX6_keysIn_87 : decode cX6_keysIn 87 = .ok (.lstore 4, 2) := by decide +kernel
theorem dX6_keysIn_89 : decode cX6_keysIn 89 = .ok (.iinc 6 1, 3) := by decide +kernel
theorem dX6_keysIn_92 : decode cX6_keysIn 92 = .ok (.goto (-74), 3) := by decide +kernel
theorem dX6_keysIn_95 : decode cX6_keysIn 95 = .ok (.iconst 0, 1) := by decide +kernel
theorem dX6_keysIn_96 : decode cX6_keysIn 96 = .ok (.istore 6, 2) := by decide +kernel
theorem dX6_keysIn_98 : decode cX6_keysIn 98 = .ok (.iload 6, 2) := by decide +kernel
theorem dX6_keysIn_100 : decode cX6_keysIn 100 = .ok (.iconst 2, 1) := by decide +kernel
theorem dX6_keysIn_101 : decode cX6_keysIn 101 = .ok (.if_icmp .ge 56, 3) := by decide +kernel
theorem dX6_keysIn_104 : decode cX6_keysIn 104 = .ok (.iload 6, 2) := by decide +kernel
theorem dX6_keysIn_106 : decode cX6_keysIn 106 = .ok (.ifCond .ne 14, 3) := by decide +kernel
theorem dX6_keysIn_109 : decode cX6_keysIn 109 = .ok (.aload_n 0, 1) := by decide +kernel
theorem dX6_keysIn_110 : decode cX6_keysIn 110 = .ok (.iconst 0, 1) := by decide +kernel
theorem dX6_keysIn_111 : decode cX6_keysIn 111 = .ok (.sipush 9999, 3) := by decide +kernel
theorem dX6_keysIn_114 : decode cX6_keysIn 114 = .ok (.invokevirtual 224, 3) := by decide +kernel
theorem dX6_keysIn_117 : decode cX6_keysIn 117 = .ok (.goto 12, 3) := by decide +kernel
theorem dX6_keysIn_120 : decode cX6_keysIn 120 = .ok (.aload_n 0, 1) := by decide +kernel
theorem dX6_keysIn_121 : decode cX6_keysIn 121 = .ok (.bipush 100, 2) := by decide +kernel
theorem dX6_keysIn_123 : decode cX6_keysIn 123 = .ok (.sipush 500, 3) := by decide +kernel
theorem dX6_keysIn_126 : decode cX6_keysIn 126 = .ok (.invokevirtual 224, 3) := by decide +kernel
theorem dX6_keysIn_129 : decode cX6_keysIn 129 = .ok (.istore 7, 2) := by decide +kernel
theorem dX6_keysIn_131 : decode cX6_keysIn 131 = .ok (.ldc2_w 283, 3) := by decide +kernel
theorem dX6_keysIn_134 : decode cX6_keysIn 134 = .ok (.ldc2_w 283, 3) := by decide +kernel
theorem dX6_keysIn_137 : decode cX6_keysIn 137 = .ok (.lload 4, 2) := by decide +kernel
theorem dX6_keysIn_139 : decode cX6_keysIn 139 = .ok (.lmul, 1) := by decide +kernel
theorem dX6_keysIn_140 : decode cX6_keysIn 140 = .ok (.iload 7, 2) := by decide +kernel
theorem dX6_keysIn_142 : decode cX6_keysIn 142 = .ok (.i2l, 1) := by decide +kernel
theorem dX6_keysIn_143 : decode cX6_keysIn 143 = .ok (.ladd, 1) := by decide +kernel
theorem dX6_keysIn_144 : decode cX6_keysIn 144 = .ok (.lmul, 1) := by decide +kernel
theorem dX6_keysIn_145 : decode cX6_keysIn 145 = .ok (.iload 7, 2) := by decide +kernel
theorem dX6_keysIn_147 : decode cX6_keysIn 147 = .ok (.i2l, 1) := by decide +kernel
theorem dX6_keysIn_148 : decode cX6_keysIn 148 = .ok (.ladd, 1) := by decide +kernel
theorem dX6_keysIn_149 : decode cX6_keysIn 149 = .ok (.lstore 4, 2) := by decide +kernel
theorem dX6_keysIn_151 : decode cX6_keysIn 151 = .ok (.iinc 6 1, 3) := by decide +kernel
theorem dX6_keysIn_154 : decode cX6_keysIn 154 = .ok (.goto (-56), 3) := by decide +kernel
theorem dX6_keysIn_157 : decode cX6_keysIn 157 = .ok (.lload 4, 2) := by decide +kernel
theorem dX6_keysIn_159 : decode cX6_keysIn 159 = .ok (.lreturn, 1) := by decide +kernel
theorem dX6_digest_0 : decode cX6_digest 0 = .ok (.aload_n 0, 1) := by decide +kernel
theorem dX6_digest_1 : decode cX6_digest 1 = .ok (.iconst 0, 1) := by decide +kernel
theorem dX6_digest_2 : decode cX6_digest 2 = .ok (.putfield 38, 3) := by decide +kernel
theorem dX6_digest_5 : decode cX6_digest 5 = .ok (.aload_n 0, 1) := by decide +kernel
theorem dX6_digest_6 : decode cX6_digest 6 = .ok (.aload_n 0, 1) := by decide +kernel
theorem dX6_digest_7 : decode cX6_digest 7 = .ok (.aload_n 0, 1) := by decide +kernel
theorem dX6_digest_8 : decode cX6_digest 8 = .ok (.aload_n 0, 1) := by decide +kernel
theorem dX6_digest_9 : decode cX6_digest 9 = .ok (.ldc2_w 285, 3) := by decide +kernel
theorem dX6_digest_12 : decode cX6_digest 12 = .ok (.invokevirtual 287, 3) := by decide +kernel
theorem dX6_digest_15 : decode cX6_digest 15 = .ok (.invokevirtual 291, 3) := by decide +kernel
theorem dX6_digest_18 : decode cX6_digest 18 = .ok (.invokevirtual 294, 3) := by decide +kernel
theorem dX6_digest_21 : decode cX6_digest 21 = .ok (.invokevirtual 297, 3) := by decide +kernel
theorem dX6_digest_24 : decode cX6_digest 24 = .ok (.lstore_n 1, 1) := by decide +kernel
theorem dX6_digest_25 : decode cX6_digest 25 = .ok (.ldc2_w 283, 3) := by decide +kernel
theorem dX6_digest_28 : decode cX6_digest 28 = .ok (.ldc2_w 283, 3) := by decide +kernel
theorem dX6_digest_31 : decode cX6_digest 31 = .ok (.lload_n 1, 1) := by decide +kernel
theorem dX6_digest_32 : decode cX6_digest 32 = .ok (.lmul, 1) := by decide +kernel
theorem dX6_digest_33 : decode cX6_digest 33 = .ok (.aload_n 0, 1) := by decide +kernel
theorem dX6_digest_34 : decode cX6_digest 34 = .ok (.getfield 7, 3) := by decide +kernel
theorem dX6_digest_37 : decode cX6_digest 37 = .ok (.iconst 4, 1) := by decide +kernel
theorem dX6_digest_38 : decode cX6_digest 38 = .ok (.iaload, 1) := by decide +kernel
theorem dX6_digest_39 : decode cX6_digest 39 = .ok (.i2l, 1) := by decide +kernel
theorem dX6_digest_40 : decode cX6_digest 40 = .ok (.ladd, 1) := by decide +kernel
theorem dX6_digest_41 : decode cX6_digest 41 = .ok (.lmul, 1) := by decide +kernel
theorem dX6_digest_42 : decode cX6_digest 42 = .ok (.aload_n 0, 1) := by decide +kernel
theorem dX6_digest_43 : decode cX6_digest 43 = .ok (.getfield 7, 3) := by decide +kernel
theorem dX6_digest_46 : decode cX6_digest 46 = .ok (.iconst 5, 1) := by decide +kernel
theorem dX6_digest_47 : decode cX6_digest 47 = .ok (.iaload, 1) := by decide +kernel
theorem dX6_digest_48 : decode cX6_digest 48 = .ok (.i2l, 1) := by decide +kernel
theorem dX6_digest_49 : decode cX6_digest 49 = .ok (.ladd, 1) := by decide +kernel
theorem dX6_digest_50 : decode cX6_digest 50 = .ok (.lstore_n 1, 1) := by decide +kernel
theorem dX6_digest_51 : decode cX6_digest 51 = .ok (.ldc2_w 283, 3) := by decide +kernel
theorem dX6_digest_54 : decode cX6_digest 54 = .ok (.ldc2_w 283, 3) := by decide +kernel
theorem dX6_digest_57 : decode cX6_digest 57 = .ok (.lload_n 1, 1) := by decide +kernel
theorem dX6_digest_58 : decode cX6_digest 58 = .ok (.lmul, 1) := by decide +kernel
theorem dX6_digest_59 : decode cX6_digest 59 = .ok (.aload_n 0, 1) := by decide +kernel
theorem dX6_digest_60 : decode cX6_digest 60 = .ok (.invokevirtual 264, 3) := by decide +kernel
theorem dX6_digest_63 : decode cX6_digest 63 = .ok (.i2l, 1) := by decide +kernel
theorem dX6_digest_64 : decode cX6_digest 64 = .ok (.ladd, 1) := by decide +kernel
theorem dX6_digest_65 : decode cX6_digest 65 = .ok (.lmul, 1) := by decide +kernel
theorem dX6_digest_66 : decode cX6_digest 66 = .ok (.aload_n 0, 1) := by decide +kernel
theorem dX6_digest_67 : decode cX6_digest 67 = .ok (.invokevirtual 274, 3) := by decide +kernel
theorem dX6_digest_70 : decode cX6_digest 70 = .ok (.i2l, 1) := by decide +kernel
theorem dX6_digest_71 : decode cX6_digest 71 = .ok (.ladd, 1) := by decide +kernel
theorem dX6_digest_72 : decode cX6_digest 72 = .ok (.lstore_n 1, 1) := by decide +kernel
theorem dX6_digest_73 : decode cX6_digest 73 = .ok (.bipush 50, 2) := by decide +kernel
theorem dX6_digest_75 : decode cX6_digest 75 = .ok (.istore_n 3, 1) := by decide +kernel
theorem dX6_digest_76 : decode cX6_digest 76 = .ok (.iload_n 3, 1) := by decide +kernel
theorem dX6_digest_77 : decode cX6_digest 77 = .ok (.bipush 100, 2) := by decide +kernel
theorem dX6_digest_79 : decode cX6_digest 79 = .ok (.if_icmp .gt 43, 3) := by decide +kernel
theorem dX6_digest_82 : decode cX6_digest 82 = .ok (.ldc2_w 283, 3) := by decide +kernel
theorem dX6_digest_85 : decode cX6_digest 85 = .ok (.ldc2_w 283, 3) := by decide +kernel
theorem dX6_digest_88 : decode cX6_digest 88 = .ok (.lload_n 1, 1) := by decide +kernel
theorem dX6_digest_89 : decode cX6_digest 89 = .ok (.lmul, 1) := by decide +kernel
theorem dX6_digest_90 : decode cX6_digest 90 = .ok (.aload_n 0, 1) := by decide +kernel
theorem dX6_digest_91 : decode cX6_digest 91 = .ok (.iload_n 3, 1) := by decide +kernel
theorem dX6_digest_92 : decode cX6_digest 92 = .ok (.invokevirtual 280, 3) := by decide +kernel
theorem dX6_digest_95 : decode cX6_digest 95 = .ok (.i2l, 1) := by decide +kernel
theorem dX6_digest_96 : decode cX6_digest 96 = .ok (.ladd, 1) := by decide +kernel
theorem dX6_digest_97 : decode cX6_digest 97 = .ok (.lmul, 1) := by decide +kernel
theorem dX6_digest_98 : decode cX6_digest 98 = .ok (.aload_n 0, 1) := by decide +kernel
theorem dX6_digest_99 : decode cX6_digest 99 = .ok (.aload_n 0, 1) := by decide +kernel
theorem dX6_digest_100 : decode cX6_digest 100 = .ok (.iload_n 3, 1) := by decide +kernel
theorem dX6_digest_101 : decode cX6_digest 101 = .ok (.invokevirtual 280, 3) := by decide +kernel
theorem dX6_digest_104 : decode cX6_digest 104 = .ok (.aload_n 0, 1) := by decide +kernel
theorem dX6_digest_105 : decode cX6_digest 105 = .ok (.getfield 7, 3) := by decide +kernel
theorem dX6_digest_108 : decode cX6_digest 108 = .ok (.iconst 1, 1) := by decide +kernel
theorem dX6_digest_109 : decode cX6_digest 109 = .ok (.iaload, 1) := by decide +kernel
theorem dX6_digest_110 : decode cX6_digest 110 = .ok (.invokevirtual 117, 3) := by decide +kernel
theorem dX6_digest_113 : decode cX6_digest 113 = .ok (.i2l, 1) := by decide +kernel
theorem dX6_digest_114 : decode cX6_digest 114 = .ok (.ladd, 1) := by decide +kernel
theorem dX6_digest_115 : decode cX6_digest 115 = .ok (.lstore_n 1, 1) := by decide +kernel
theorem dX6_digest_116 : decode cX6_digest 116 = .ok (.iinc 3 50, 3) := by decide +kernel
theorem dX6_digest_119 : decode cX6_digest 119 = .ok (.goto (-43), 3) := by decide +kernel
theorem dX6_digest_122 : decode cX6_digest 122 = .ok (.ldc2_w 283, 3) := by decide +kernel
theorem dX6_digest_125 : decode cX6_digest 125 = .ok (.lload_n 1, 1) := by decide +kernel
theorem dX6_digest_126 : decode cX6_digest 126 = .ok (.lmul, 1) := by decide +kernel
theorem dX6_digest_127 : decode cX6_digest 127 = .ok (.aload_n 0, 1) := by decide +kernel
theorem dX6_digest_128 : decode cX6_digest 128 = .ok (.getfield 42, 3) := by decide +kernel
theorem dX6_digest_131 : decode cX6_digest 131 = .ok (.i2l, 1) := by decide +kernel
theorem dX6_digest_132 : decode cX6_digest 132 = .ok (.ladd, 1) := by decide +kernel
theorem dX6_digest_133 : decode cX6_digest 133 = .ok (.lstore_n 1, 1) := by decide +kernel
theorem dX6_digest_134 : decode cX6_digest 134 = .ok (.ldc2_w 283, 3) := by decide +kernel
theorem dX6_digest_137 : decode cX6_digest 137 = .ok (.ldc2_w 283, 3) := by decide +kernel
theorem dX6_digest_140 : decode cX6_digest 140 = .ok (.lload_n 1, 1) := by decide +kernel
theorem dX6_digest_141 : decode cX6_digest 141 = .ok (.lmul, 1) := by decide +kernel
theorem dX6_digest_142 : decode cX6_digest 142 = .ok (.aload_n 0, 1) := by decide +kernel
theorem dX6_digest_143 : decode cX6_digest 143 = .ok (.invokevirtual 267, 3) := by decide +kernel
theorem dX6_digest_146 : decode cX6_digest 146 = .ok (.invokestatic 300, 3) := by decide +kernel
theorem dX6_digest_149 : decode cX6_digest 149 = .ok (.ladd, 1) := by decide +kernel
theorem dX6_digest_150 : decode cX6_digest 150 = .ok (.lmul, 1) := by decide +kernel
theorem dX6_digest_151 : decode cX6_digest 151 = .ok (.aload_n 0, 1) := by decide +kernel
theorem dX6_digest_152 : decode cX6_digest 152 = .ok (.invokevirtual 271, 3) := by decide +kernel
theorem dX6_digest_155 : decode cX6_digest 155 = .ok (.invokestatic 300, 3) := by decide +kernel
theorem dX6_digest_158 : decode cX6_digest 158 = .ok (.ladd, 1) := by decide +kernel
theorem dX6_digest_159 : decode cX6_digest 159 = .ok (.lstore_n 1, 1) := by decide +kernel
theorem dX6_digest_160 : decode cX6_digest 160 = .ok (.ldc2_w 283, 3) := by decide +kernel
theorem dX6_digest_163 : decode cX6_digest 163 = .ok (.ldc2_w 283, 3) := by decide +kernel
theorem dX6_digest_166 : decode cX6_digest 166 = .ok (.lload_n 1, 1) := by decide +kernel
theorem dX6_digest_167 : decode cX6_digest 167 = .ok (.lmul, 1) := by decide +kernel
theorem dX6_digest_168 : decode cX6_digest 168 = .ok (.aload_n 0, 1) := by decide +kernel
theorem dX6_digest_169 : decode cX6_digest 169 = .ok (.getfield 20, 3) := by decide +kernel
theorem dX6_digest_172 : decode cX6_digest 172 = .ok (.iconst 0, 1) := by decide +kernel
theorem dX6_digest_173 : decode cX6_digest 173 = .ok (.iaload, 1) := by decide +kernel
theorem dX6_digest_174 : decode cX6_digest 174 = .ok (.i2l, 1) := by decide +kernel
theorem dX6_digest_175 : decode cX6_digest 175 = .ok (.ladd, 1) := by decide +kernel
theorem dX6_digest_176 : decode cX6_digest 176 = .ok (.lmul, 1) := by decide +kernel
theorem dX6_digest_177 : decode cX6_digest 177 = .ok (.aload_n 0, 1) := by decide +kernel
theorem dX6_digest_178 : decode cX6_digest 178 = .ok (.getfield 20, 3) := by decide +kernel
theorem dX6_digest_181 : decode cX6_digest 181 = .ok (.iconst 1, 1) := by decide +kernel
theorem dX6_digest_182 : decode cX6_digest 182 = .ok (.iaload, 1) := by decide +kernel
theorem dX6_digest_183 : decode cX6_digest 183 = .ok (.i2l, 1) := by decide +kernel
theorem dX6_digest_184 : decode cX6_digest 184 = .ok (.ladd, 1) := by decide +kernel
theorem dX6_digest_185 : decode cX6_digest 185 = .ok (.lstore_n 1, 1) := by decide +kernel
theorem dX6_digest_186 : decode cX6_digest 186 = .ok (.ldc2_w 283, 3) := by decide +kernel
theorem dX6_digest_189 : decode cX6_digest 189 = .ok (.lload_n 1, 1) := by decide +kernel
theorem dX6_digest_190 : decode cX6_digest 190 = .ok (.lmul, 1) := by decide +kernel
theorem dX6_digest_191 : decode cX6_digest 191 = .ok (.aload_n 0, 1) := by decide +kernel
theorem dX6_digest_192 : decode cX6_digest 192 = .ok (.getfield 184, 3) := by decide +kernel
theorem dX6_digest_195 : decode cX6_digest 195 = .ok (.i2l, 1) := by decide +kernel
theorem dX6_digest_196 : decode cX6_digest 196 = .ok (.ladd, 1) := by decide +kernel
theorem dX6_digest_197 : decode cX6_digest 197 = .ok (.lstore_n 1, 1) := by decide +kernel
theorem dX6_digest_198 : decode cX6_digest 198 = .ok (.iconst 0, 1) := by decide +kernel
theorem dX6_digest_199 : decode cX6_digest 199 = .ok (.istore_n 3, 1) := by decide +kernel
theorem dX6_digest_200 : decode cX6_digest 200 = .ok (.iload_n 3, 1) := by decide +kernel
theorem dX6_digest_201 : decode cX6_digest 201 = .ok (.aload_n 0, 1) := by decide +kernel
theorem dX6_digest_202 : decode cX6_digest 202 = .ok (.getfield 184, 3) := by decide +kernel
theorem dX6_digest_205 : decode cX6_digest 205 = .ok (.if_icmp .ge 23, 3) := by decide +kernel
theorem dX6_digest_208 : decode cX6_digest 208 = .ok (.ldc2_w 283, 3) := by decide +kernel
theorem dX6_digest_211 : decode cX6_digest 211 = .ok (.lload_n 1, 1) := by decide +kernel
theorem dX6_digest_212 : decode cX6_digest 212 = .ok (.lmul, 1) := by decide +kernel
theorem dX6_digest_213 : decode cX6_digest 213 = .ok (.aload_n 0, 1) := by decide +kernel
theorem dX6_digest_214 : decode cX6_digest 214 = .ok (.getfield 32, 3) := by decide +kernel
theorem dX6_digest_217 : decode cX6_digest 217 = .ok (.iload_n 3, 1) := by decide +kernel
theorem dX6_digest_218 : decode cX6_digest 218 = .ok (.iaload, 1) := by decide +kernel
theorem dX6_digest_219 : decode cX6_digest 219 = .ok (.i2l, 1) := by decide +kernel
theorem dX6_digest_220 : decode cX6_digest 220 = .ok (.ladd, 1) := by decide +kernel
theorem dX6_digest_221 : decode cX6_digest 221 = .ok (.lstore_n 1, 1) := by decide +kernel
theorem dX6_digest_222 : decode cX6_digest 222 = .ok (.iinc 3 1, 3) := by decide +kernel
theorem dX6_digest_225 : decode cX6_digest 225 = .ok (.goto (-25), 3) := by decide +kernel
theorem dX6_digest_228 : decode cX6_digest 228 = .ok (.lload_n 1, 1) := by decide +kernel
theorem dX6_digest_229 : decode cX6_digest 229 = .ok (.lreturn, 1) := by decide +kernel
theorem dJxe99ae_isNaN_b9ae7_0 : decode cJxe99ae_isNaN_b9ae7 0 = .ok (.dload_n 0, 1) := by decide +kernel
theorem dJxe99ae_isNaN_b9ae7_1 : decode cJxe99ae_isNaN_b9ae7 1 = .ok (.dload_n 0, 1) := by decide +kernel
theorem dJxe99ae_isNaN_b9ae7_2 : decode cJxe99ae_isNaN_b9ae7 2 = .ok (.dcmp .l, 1) := by decide +kernel
theorem dJxe99ae_isNaN_b9ae7_3 : decode cJxe99ae_isNaN_b9ae7 3 = .ok (.ifCond .eq 7, 3) := by decide +kernel
theorem dJxe99ae_isNaN_b9ae7_6 : decode cJxe99ae_isNaN_b9ae7 6 = .ok (.iconst 1, 1) := by decide +kernel
theorem dJxe99ae_isNaN_b9ae7_7 : decode cJxe99ae_isNaN_b9ae7 7 = .ok (.goto 4, 3) := by decide +kernel
theorem dJxe99ae_isNaN_b9ae7_10 : decode cJxe99ae_isNaN_b9ae7 10 = .ok (.iconst 0, 1) := by decide +kernel
theorem dJxe99ae_isNaN_b9ae7_11 : decode cJxe99ae_isNaN_b9ae7 11 = .ok (.ireturn, 1) := by decide +kernel
theorem dJxe99ae_doubleToLongBits_ccdee_0 : decode cJxe99ae_doubleToLongBits_ccdee 0 = .ok (.dload_n 0, 1) := by decide +kernel
theorem dJxe99ae_doubleToLongBits_ccdee_1 : decode cJxe99ae_doubleToLongBits_ccdee 1 = .ok (.invokestatic 122, 3) := by decide +kernel
theorem dJxe99ae_doubleToLongBits_ccdee_4 : decode cJxe99ae_doubleToLongBits_ccdee 4 = .ok (.ifCond .ne 8, 3) := by decide +kernel
theorem dJxe99ae_doubleToLongBits_ccdee_7 : decode cJxe99ae_doubleToLongBits_ccdee 7 = .ok (.dload_n 0, 1) := by decide +kernel
theorem dJxe99ae_doubleToLongBits_ccdee_8 : decode cJxe99ae_doubleToLongBits_ccdee 8 = .ok (.invokestatic 134, 3) := by decide +kernel
theorem dJxe99ae_doubleToLongBits_ccdee_11 : decode cJxe99ae_doubleToLongBits_ccdee 11 = .ok (.lreturn, 1) := by decide +kernel
theorem dJxe99ae_doubleToLongBits_ccdee_12 : decode cJxe99ae_doubleToLongBits_ccdee 12 = .ok (.ldc2_w 137, 3) := by decide +kernel
theorem dJxe99ae_doubleToLongBits_ccdee_15 : decode cJxe99ae_doubleToLongBits_ccdee 15 = .ok (.lreturn, 1) := by decide +kernel
theorem dJ9_max_7cf53_0 : decode cJ9_max_7cf53 0 = .ok (.iload_n 0, 1) := by decide +kernel
theorem dJ9_max_7cf53_1 : decode cJ9_max_7cf53 1 = .ok (.iload_n 1, 1) := by decide +kernel
theorem dJ9_max_7cf53_2 : decode cJ9_max_7cf53 2 = .ok (.if_icmp .lt 7, 3) := by decide +kernel
theorem dJ9_max_7cf53_5 : decode cJ9_max_7cf53 5 = .ok (.iload_n 0, 1) := by decide +kernel
theorem dJ9_max_7cf53_6 : decode cJ9_max_7cf53 6 = .ok (.goto 4, 3) := by decide +kernel
theorem dJ9_max_7cf53_9 : decode cJ9_max_7cf53 9 = .ok (.iload_n 1, 1) := by decide +kernel
theorem dJ9_max_7cf53_10 : decode cJ9_max_7cf53 10 = .ok (.ireturn, 1) := by decide +kernel
theorem dJ9_min_7cf53_0 : decode cJ9_min_7cf53 0 = .ok (.iload_n 0, 1) := by decide +kernel
theorem dJ9_min_7cf53_1 : decode cJ9_min_7cf53 1 = .ok (.iload_n 1, 1) := by decide +kernel
theorem dJ9_min_7cf53_2 : decode cJ9_min_7cf53 2 = .ok (.if_icmp .gt 7, 3) := by decide +kernel
theorem dJ9_min_7cf53_5 : decode cJ9_min_7cf53 5 = .ok (.iload_n 0, 1) := by decide +kernel
theorem dJ9_min_7cf53_6 : decode cJ9_min_7cf53 6 = .ok (.goto 4, 3) := by decide +kernel
theorem dJ9_min_7cf53_9 : decode cJ9_min_7cf53 9 = .ok (.iload_n 1, 1) := by decide +kernel
theorem dJ9_min_7cf53_10 : decode cJ9_min_7cf53 10 = .ok (.ireturn, 1) := by decide +kernel
theorem dL_put_0 : decode cL_put 0 = .ok (.aload_n 3, 1) := by decide +kernel
theorem dL_put_1 : decode cL_put 1 = .ok (.iconst 0, 1) := by decide +kernel
theorem dL_put_2 : decode cL_put 2 = .ok (.aload_n 0, 1) := by decide +kernel
theorem dL_put_3 : decode cL_put 3 = .ok (.iload_n 1, 1) := by decide +kernel
theorem dL_put_4 : decode cL_put 4 = .ok (.iload_n 2, 1) := by decide +kernel
theorem dL_put_5 : decode cL_put 5 = .ok (.invokevirtual 7, 3) := by decide +kernel
theorem dL_put_8 : decode cL_put 8 = .ok (.i2l, 1) := by decide +kernel
theorem dL_put_9 : decode cL_put 9 = .ok (.lastore, 1) := by decide +kernel
theorem dL_put_10 : decode cL_put 10 = .ok (.goto 11, 3) := by decide +kernel
theorem dL_put_13 : decode cL_put 13 = .ok (.astore 4, 2) := by decide +kernel
theorem dL_put_15 : decode cL_put 15 = .ok (.iconst 1, 1) := by decide +kernel
theorem dL_put_16 : decode cL_put 16 = .ok (.ireturn, 1) := by decide +kernel
theorem dL_put_17 : decode cL_put 17 = .ok (.astore 4, 2) := by decide +kernel
theorem dL_put_19 : decode cL_put 19 = .ok (.iconst 2, 1) := by decide +kernel
theorem dL_put_20 : decode cL_put 20 = .ok (.ireturn, 1) := by decide +kernel
theorem dL_put_21 : decode cL_put 21 = .ok (.iconst 0, 1) := by decide +kernel
theorem dL_put_22 : decode cL_put 22 = .ok (.ireturn, 1) := by decide +kernel
theorem dL_drop_0 : decode cL_drop 0 = .ok (.aload_n 2, 1) := by decide +kernel
theorem dL_drop_1 : decode cL_drop 1 = .ok (.iconst 0, 1) := by decide +kernel
theorem dL_drop_2 : decode cL_drop 2 = .ok (.aload_n 0, 1) := by decide +kernel
theorem dL_drop_3 : decode cL_drop 3 = .ok (.iload_n 1, 1) := by decide +kernel
theorem dL_drop_4 : decode cL_drop 4 = .ok (.invokevirtual 17, 3) := by decide +kernel
theorem dL_drop_7 : decode cL_drop 7 = .ok (.i2l, 1) := by decide +kernel
theorem dL_drop_8 : decode cL_drop 8 = .ok (.lastore, 1) := by decide +kernel
theorem dL_drop_9 : decode cL_drop 9 = .ok (.goto 9, 3) := by decide +kernel
theorem dL_drop_12 : decode cL_drop 12 = .ok (.astore_n 3, 1) := by decide +kernel
theorem dL_drop_13 : decode cL_drop 13 = .ok (.iconst 1, 1) := by decide +kernel
theorem dL_drop_14 : decode cL_drop 14 = .ok (.ireturn, 1) := by decide +kernel
theorem dL_drop_15 : decode cL_drop 15 = .ok (.astore_n 3, 1) := by decide +kernel
theorem dL_drop_16 : decode cL_drop 16 = .ok (.iconst 2, 1) := by decide +kernel
theorem dL_drop_17 : decode cL_drop 17 = .ok (.ireturn, 1) := by decide +kernel
theorem dL_drop_18 : decode cL_drop 18 = .ok (.iconst 0, 1) := by decide +kernel
theorem dL_drop_19 : decode cL_drop 19 = .ok (.ireturn, 1) := by decide +kernel
theorem dL_closeRun_0 : decode cL_closeRun 0 = .ok (.aload_n 1, 1) := by decide +kernel
theorem dL_closeRun_1 : decode cL_closeRun 1 = .ok (.iconst 0, 1) := by decide +kernel
theorem dL_closeRun_2 : decode cL_closeRun 2 = .ok (.aload_n 0, 1) := by decide +kernel
theorem dL_closeRun_3 : decode cL_closeRun 3 = .ok (.invokevirtual 21, 3) := by decide +kernel
theorem dL_closeRun_6 : decode cL_closeRun 6 = .ok (.i2l, 1) := by decide +kernel
theorem dL_closeRun_7 : decode cL_closeRun 7 = .ok (.lastore, 1) := by decide +kernel
theorem dL_closeRun_8 : decode cL_closeRun 8 = .ok (.goto 6, 3) := by decide +kernel
theorem dL_closeRun_11 : decode cL_closeRun 11 = .ok (.astore_n 2, 1) := by decide +kernel
theorem dL_closeRun_12 : decode cL_closeRun 12 = .ok (.iconst 1, 1) := by decide +kernel
theorem dL_closeRun_13 : decode cL_closeRun 13 = .ok (.ireturn, 1) := by decide +kernel
theorem dL_closeRun_14 : decode cL_closeRun 14 = .ok (.iconst 0, 1) := by decide +kernel
theorem dL_closeRun_15 : decode cL_closeRun 15 = .ok (.ireturn, 1) := by decide +kernel
theorem dL_mergeRuns_0 : decode cL_mergeRuns 0 = .ok (.aload_n 1, 1) := by decide +kernel
theorem dL_mergeRuns_1 : decode cL_mergeRuns 1 = .ok (.iconst 0, 1) := by decide +kernel
theorem dL_mergeRuns_2 : decode cL_mergeRuns 2 = .ok (.aload_n 0, 1) := by decide +kernel
theorem dL_mergeRuns_3 : decode cL_mergeRuns 3 = .ok (.invokevirtual 25, 3) := by decide +kernel
theorem dL_mergeRuns_6 : decode cL_mergeRuns 6 = .ok (.i2l, 1) := by decide +kernel
theorem dL_mergeRuns_7 : decode cL_mergeRuns 7 = .ok (.lastore, 1) := by decide +kernel
theorem dL_mergeRuns_8 : decode cL_mergeRuns 8 = .ok (.goto 6, 3) := by decide +kernel
theorem dL_mergeRuns_11 : decode cL_mergeRuns 11 = .ok (.astore_n 2, 1) := by decide +kernel
theorem dL_mergeRuns_12 : decode cL_mergeRuns 12 = .ok (.iconst 1, 1) := by decide +kernel
theorem dL_mergeRuns_13 : decode cL_mergeRuns 13 = .ok (.ireturn, 1) := by decide +kernel
theorem dL_mergeRuns_14 : decode cL_mergeRuns 14 = .ok (.iconst 0, 1) := by decide +kernel
theorem dL_mergeRuns_15 : decode cL_mergeRuns 15 = .ok (.ireturn, 1) := by decide +kernel
theorem dL_build_0 : decode cL_build 0 = .ok (.aload_n 2, 1) := by decide +kernel
theorem dL_build_1 : decode cL_build 1 = .ok (.iconst 0, 1) := by decide +kernel
theorem dL_build_2 : decode cL_build 2 = .ok (.aload_n 0, 1) := by decide +kernel
theorem dL_build_3 : decode cL_build 3 = .ok (.iload_n 1, 1) := by decide +kernel
theorem dL_build_4 : decode cL_build 4 = .ok (.invokevirtual 28, 3) := by decide +kernel
theorem dL_build_7 : decode cL_build 7 = .ok (.i2l, 1) := by decide +kernel
theorem dL_build_8 : decode cL_build 8 = .ok (.lastore, 1) := by decide +kernel
theorem dL_build_9 : decode cL_build 9 = .ok (.goto 9, 3) := by decide +kernel
theorem dL_build_12 : decode cL_build 12 = .ok (.astore_n 3, 1) := by decide +kernel
theorem dL_build_13 : decode cL_build 13 = .ok (.iconst 1, 1) := by decide +kernel
theorem dL_build_14 : decode cL_build 14 = .ok (.ireturn, 1) := by decide +kernel
theorem dL_build_15 : decode cL_build 15 = .ok (.astore_n 3, 1) := by decide +kernel
theorem dL_build_16 : decode cL_build 16 = .ok (.iconst 2, 1) := by decide +kernel
theorem dL_build_17 : decode cL_build 17 = .ok (.ireturn, 1) := by decide +kernel
theorem dL_build_18 : decode cL_build 18 = .ok (.iconst 0, 1) := by decide +kernel
theorem dL_build_19 : decode cL_build 19 = .ok (.ireturn, 1) := by decide +kernel
theorem dL_insert_0 : decode cL_insert 0 = .ok (.aload_n 3, 1) := by decide +kernel
theorem dL_insert_1 : decode cL_insert 1 = .ok (.iconst 0, 1) := by decide +kernel
theorem dL_insert_2 : decode cL_insert 2 = .ok (.aload_n 0, 1) := by decide +kernel
theorem dL_insert_3 : decode cL_insert 3 = .ok (.iload_n 1, 1) := by decide +kernel
theorem dL_insert_4 : decode cL_insert 4 = .ok (.iload_n 2, 1) := by decide +kernel
theorem dL_insert_5 : decode cL_insert 5 = .ok (.invokevirtual 31, 3) := by decide +kernel
theorem dL_insert_8 : decode cL_insert 8 = .ok (.i2l, 1) := by decide +kernel
theorem dL_insert_9 : decode cL_insert 9 = .ok (.lastore, 1) := by decide +kernel
theorem dL_insert_10 : decode cL_insert 10 = .ok (.goto 11, 3) := by decide +kernel
theorem dL_insert_13 : decode cL_insert 13 = .ok (.astore 4, 2) := by decide +kernel
theorem dL_insert_15 : decode cL_insert 15 = .ok (.iconst 1, 1) := by decide +kernel
theorem dL_insert_16 : decode cL_insert 16 = .ok (.ireturn, 1) := by decide +kernel
theorem dL_insert_17 : decode cL_insert 17 = .ok (.astore 4, 2) := by decide +kernel
theorem dL_insert_19 : decode cL_insert 19 = .ok (.iconst 2, 1) := by decide +kernel
theorem dL_insert_20 : decode cL_insert 20 = .ok (.ireturn, 1) := by decide +kernel
theorem dL_insert_21 : decode cL_insert 21 = .ok (.iconst 0, 1) := by decide +kernel
theorem dL_insert_22 : decode cL_insert 22 = .ok (.ireturn, 1) := by decide +kernel
theorem dL_erase_0 : decode cL_erase 0 = .ok (.aload_n 2, 1) := by decide +kernel
theorem dL_erase_1 : decode cL_erase 1 = .ok (.iconst 0, 1) := by decide +kernel
theorem dL_erase_2 : decode cL_erase 2 = .ok (.aload_n 0, 1) := by decide +kernel
theorem dL_erase_3 : decode cL_erase 3 = .ok (.iload_n 1, 1) := by decide +kernel
theorem dL_erase_4 : decode cL_erase 4 = .ok (.invokevirtual 34, 3) := by decide +kernel
theorem dL_erase_7 : decode cL_erase 7 = .ok (.i2l, 1) := by decide +kernel
theorem dL_erase_8 : decode cL_erase 8 = .ok (.lastore, 1) := by decide +kernel
theorem dL_erase_9 : decode cL_erase 9 = .ok (.goto 9, 3) := by decide +kernel
theorem dL_erase_12 : decode cL_erase 12 = .ok (.astore_n 3, 1) := by decide +kernel
theorem dL_erase_13 : decode cL_erase 13 = .ok (.iconst 1, 1) := by decide +kernel
theorem dL_erase_14 : decode cL_erase 14 = .ok (.ireturn, 1) := by decide +kernel
theorem dL_erase_15 : decode cL_erase 15 = .ok (.astore_n 3, 1) := by decide +kernel
theorem dL_erase_16 : decode cL_erase 16 = .ok (.iconst 2, 1) := by decide +kernel
theorem dL_erase_17 : decode cL_erase 17 = .ok (.ireturn, 1) := by decide +kernel
theorem dL_erase_18 : decode cL_erase 18 = .ok (.iconst 0, 1) := by decide +kernel
theorem dL_erase_19 : decode cL_erase 19 = .ok (.ireturn, 1) := by decide +kernel
theorem dL_changeLeaf_0 : decode cL_changeLeaf 0 = .ok (.aload_n 2, 1) := by decide +kernel
theorem dL_changeLeaf_1 : decode cL_changeLeaf 1 = .ok (.iconst 0, 1) := by decide +kernel
theorem dL_changeLeaf_2 : decode cL_changeLeaf 2 = .ok (.aload_n 0, 1) := by decide +kernel
theorem dL_changeLeaf_3 : decode cL_changeLeaf 3 = .ok (.iload_n 1, 1) := by decide +kernel
theorem dL_changeLeaf_4 : decode cL_changeLeaf 4 = .ok (.invokevirtual 37, 3) := by decide +kernel
theorem dL_changeLeaf_7 : decode cL_changeLeaf 7 = .ok (.i2l, 1) := by decide +kernel
theorem dL_changeLeaf_8 : decode cL_changeLeaf 8 = .ok (.lastore, 1) := by decide +kernel
theorem dL_changeLeaf_9 : decode cL_changeLeaf 9 = .ok (.goto 6, 3) := by decide +kernel
theorem dL_changeLeaf_12 : decode cL_changeLeaf 12 = .ok (.astore_n 3, 1) := by decide +kernel
theorem dL_changeLeaf_13 : decode cL_changeLeaf 13 = .ok (.iconst 1, 1) := by decide +kernel
theorem dL_changeLeaf_14 : decode cL_changeLeaf 14 = .ok (.ireturn, 1) := by decide +kernel
theorem dL_changeLeaf_15 : decode cL_changeLeaf 15 = .ok (.iconst 0, 1) := by decide +kernel
theorem dL_changeLeaf_16 : decode cL_changeLeaf 16 = .ok (.ireturn, 1) := by decide +kernel
theorem dL_changeFan_0 : decode cL_changeFan 0 = .ok (.aload_n 2, 1) := by decide +kernel
theorem dL_changeFan_1 : decode cL_changeFan 1 = .ok (.iconst 0, 1) := by decide +kernel
theorem dL_changeFan_2 : decode cL_changeFan 2 = .ok (.aload_n 0, 1) := by decide +kernel
theorem dL_changeFan_3 : decode cL_changeFan 3 = .ok (.iload_n 1, 1) := by decide +kernel
theorem dL_changeFan_4 : decode cL_changeFan 4 = .ok (.invokevirtual 40, 3) := by decide +kernel
theorem dL_changeFan_7 : decode cL_changeFan 7 = .ok (.i2l, 1) := by decide +kernel
theorem dL_changeFan_8 : decode cL_changeFan 8 = .ok (.lastore, 1) := by decide +kernel
theorem dL_changeFan_9 : decode cL_changeFan 9 = .ok (.goto 6, 3) := by decide +kernel
theorem dL_changeFan_12 : decode cL_changeFan 12 = .ok (.astore_n 3, 1) := by decide +kernel
theorem dL_changeFan_13 : decode cL_changeFan 13 = .ok (.iconst 1, 1) := by decide +kernel
theorem dL_changeFan_14 : decode cL_changeFan 14 = .ok (.ireturn, 1) := by decide +kernel
theorem dL_changeFan_15 : decode cL_changeFan 15 = .ok (.iconst 0, 1) := by decide +kernel
theorem dL_changeFan_16 : decode cL_changeFan 16 = .ok (.ireturn, 1) := by decide +kernel
theorem dL_append_0 : decode cL_append 0 = .ok (.aload_n 2, 1) := by decide +kernel
theorem dL_append_1 : decode cL_append 1 = .ok (.iconst 0, 1) := by decide +kernel
theorem dL_append_2 : decode cL_append 2 = .ok (.aload_n 0, 1) := by decide +kernel
theorem dL_append_3 : decode cL_append 3 = .ok (.iload_n 1, 1) := by decide +kernel
theorem dL_append_4 : decode cL_append 4 = .ok (.invokevirtual 43, 3) := by decide +kernel
theorem dL_append_7 : decode cL_append 7 = .ok (.i2l, 1) := by decide +kernel
theorem dL_append_8 : decode cL_append 8 = .ok (.lastore, 1) := by decide +kernel
theorem dL_append_9 : decode cL_append 9 = .ok (.goto 9, 3) := by decide +kernel
theorem dL_append_12 : decode cL_append 12 = .ok (.astore_n 3, 1) := by decide +kernel
theorem dL_append_13 : decode cL_append 13 = .ok (.iconst 1, 1) := by decide +kernel
theorem dL_append_14 : decode cL_append 14 = .ok (.ireturn, 1) := by decide +kernel
theorem dL_append_15 : decode cL_append 15 = .ok (.astore_n 3, 1) := by decide +kernel
theorem dL_append_16 : decode cL_append 16 = .ok (.iconst 2, 1) := by decide +kernel
theorem dL_append_17 : decode cL_append 17 = .ok (.ireturn, 1) := by decide +kernel
theorem dL_append_18 : decode cL_append 18 = .ok (.iconst 0, 1) := by decide +kernel
theorem dL_append_19 : decode cL_append 19 = .ok (.ireturn, 1) := by decide +kernel
theorem dL_follow_0 : decode cL_follow 0 = .ok (.aload_n 1, 1) := by decide +kernel
theorem dL_follow_1 : decode cL_follow 1 = .ok (.iconst 0, 1) := by decide +kernel
theorem dL_follow_2 : decode cL_follow 2 = .ok (.aload_n 0, 1) := by decide +kernel
theorem dL_follow_3 : decode cL_follow 3 = .ok (.invokevirtual 46, 3) := by decide +kernel
theorem dL_follow_6 : decode cL_follow 6 = .ok (.i2l, 1) := by decide +kernel
theorem dL_follow_7 : decode cL_follow 7 = .ok (.lastore, 1) := by decide +kernel
theorem dL_follow_8 : decode cL_follow 8 = .ok (.goto 9, 3) := by decide +kernel
theorem dL_follow_11 : decode cL_follow 11 = .ok (.astore_n 2, 1) := by decide +kernel
theorem dL_follow_12 : decode cL_follow 12 = .ok (.iconst 1, 1) := by decide +kernel
theorem dL_follow_13 : decode cL_follow 13 = .ok (.ireturn, 1) := by decide +kernel
theorem dL_follow_14 : decode cL_follow 14 = .ok (.astore_n 2, 1) := by decide +kernel
theorem dL_follow_15 : decode cL_follow 15 = .ok (.iconst 2, 1) := by decide +kernel
theorem dL_follow_16 : decode cL_follow 16 = .ok (.ireturn, 1) := by decide +kernel
theorem dL_follow_17 : decode cL_follow 17 = .ok (.iconst 0, 1) := by decide +kernel
theorem dL_follow_18 : decode cL_follow 18 = .ok (.ireturn, 1) := by decide +kernel
theorem dL_keep_0 : decode cL_keep 0 = .ok (.aload_n 0, 1) := by decide +kernel
theorem dL_keep_1 : decode cL_keep 1 = .ok (.iload_n 1, 1) := by decide +kernel
theorem dL_keep_2 : decode cL_keep 2 = .ok (.invokevirtual 49, 3) := by decide +kernel
theorem dL_keep_5 : decode cL_keep 5 = .ok (.goto 6, 3) := by decide +kernel
theorem dL_keep_8 : decode cL_keep 8 = .ok (.astore_n 2, 1) := by decide +kernel
theorem dL_keep_9 : decode cL_keep 9 = .ok (.iconst 1, 1) := by decide +kernel
theorem dL_keep_10 : decode cL_keep 10 = .ok (.ireturn, 1) := by decide +kernel
theorem dL_keep_11 : decode cL_keep 11 = .ok (.iconst 0, 1) := by decide +kernel
theorem dL_keep_12 : decode cL_keep 12 = .ok (.ireturn, 1) := by decide +kernel
theorem dL_goBack_0 : decode cL_goBack 0 = .ok (.aload_n 0, 1) := by decide +kernel
theorem dL_goBack_1 : decode cL_goBack 1 = .ok (.iload_n 1, 1) := by decide +kernel
theorem dL_goBack_2 : decode cL_goBack 2 = .ok (.invokevirtual 53, 3) := by decide +kernel
theorem dL_goBack_5 : decode cL_goBack 5 = .ok (.goto 9, 3) := by decide +kernel
theorem dL_goBack_8 : decode cL_goBack 8 = .ok (.astore_n 2, 1) := by decide +kernel
theorem dL_goBack_9 : decode cL_goBack 9 = .ok (.iconst 1, 1) := by decide +kernel
theorem dL_goBack_10 : decode cL_goBack 10 = .ok (.ireturn, 1) := by decide +kernel
theorem dL_goBack_11 : decode cL_goBack 11 = .ok (.astore_n 2, 1) := by decide +kernel
theorem dL_goBack_12 : decode cL_goBack 12 = .ok (.iconst 2, 1) := by decide +kernel
theorem dL_goBack_13 : decode cL_goBack 13 = .ok (.ireturn, 1) := by decide +kernel
theorem dL_goBack_14 : decode cL_goBack 14 = .ok (.iconst 0, 1) := by decide +kernel
theorem dL_goBack_15 : decode cL_goBack 15 = .ok (.ireturn, 1) := by decide +kernel
theorem dL_undo_0 : decode cL_undo 0 = .ok (.aload_n 0, 1) := by decide +kernel
theorem dL_undo_1 : decode cL_undo 1 = .ok (.invokevirtual 56, 3) := by decide +kernel
theorem dL_undo_4 : decode cL_undo 4 = .ok (.goto 6, 3) := by decide +kernel
theorem dL_undo_7 : decode cL_undo 7 = .ok (.astore_n 1, 1) := by decide +kernel
theorem dL_undo_8 : decode cL_undo 8 = .ok (.iconst 1, 1) := by decide +kernel
theorem dL_undo_9 : decode cL_undo 9 = .ok (.ireturn, 1) := by decide +kernel
theorem dL_undo_10 : decode cL_undo 10 = .ok (.iconst 0, 1) := by decide +kernel
theorem dL_undo_11 : decode cL_undo 11 = .ok (.ireturn, 1) := by decide +kernel
theorem dL_isFoundByTree_0 : decode cL_isFoundByTree 0 = .ok (.aload_n 2, 1) := by decide +kernel
theorem dL_isFoundByTree_1 : decode cL_isFoundByTree 1 = .ok (.iconst 0, 1) := by decide +kernel
theorem dL_isFoundByTree_2 : decode cL_isFoundByTree 2 = .ok (.aload_n 0, 1) := by decide +kernel
theorem dL_isFoundByTree_3 : decode cL_isFoundByTree 3 = .ok (.iload_n 1, 1) := by decide +kernel
theorem dL_isFoundByTree_4 : decode cL_isFoundByTree 4 = .ok (.invokevirtual 59, 3) := by decide +kernel
theorem dL_isFoundByTree_7 : decode cL_isFoundByTree 7 = .ok (.ifCond .eq 7, 3) := by decide +kernel
theorem dL_isFoundByTree_10 : decode cL_isFoundByTree 10 = .ok (.lconst 1, 1) := by decide +kernel
theorem dL_isFoundByTree_11 : decode cL_isFoundByTree 11 = .ok (.goto 4, 3) := by decide +kernel
theorem dL_isFoundByTree_14 : decode cL_isFoundByTree 14 = .ok (.lconst 0, 1) := by decide +kernel
theorem dL_isFoundByTree_15 : decode cL_isFoundByTree 15 = .ok (.lastore, 1) := by decide +kernel
theorem dL_isFoundByTree_16 : decode cL_isFoundByTree 16 = .ok (.goto 6, 3) := by decide +kernel
theorem dL_isFoundByTree_19 : decode cL_isFoundByTree 19 = .ok (.astore_n 3, 1) := by decide +kernel
theorem dL_isFoundByTree_20 : decode cL_isFoundByTree 20 = .ok (.iconst 1, 1) := by decide +kernel
theorem dL_isFoundByTree_21 : decode cL_isFoundByTree 21 = .ok (.ireturn, 1) := by decide +kernel
theorem dL_isFoundByTree_22 : decode cL_isFoundByTree 22 = .ok (.iconst 0, 1) := by decide +kernel
theorem dL_isFoundByTree_23 : decode cL_isFoundByTree 23 = .ok (.ireturn, 1) := by decide +kernel
theorem dL_isFoundByGoing_0 : decode cL_isFoundByGoing 0 = .ok (.aload_n 2, 1) := by decide +kernel
theorem dL_isFoundByGoing_1 : decode cL_isFoundByGoing 1 = .ok (.iconst 0, 1) := by decide +kernel
theorem dL_isFoundByGoing_2 : decode cL_isFoundByGoing 2 = .ok (.aload_n 0, 1) := by decide +kernel
theorem dL_isFoundByGoing_3 : decode cL_isFoundByGoing 3 = .ok (.iload_n 1, 1) := by decide +kernel
theorem dL_isFoundByGoing_4 : decode cL_isFoundByGoing 4 = .ok (.invokevirtual 63, 3) := by decide +kernel
theorem dL_isFoundByGoing_7 : decode cL_isFoundByGoing 7 = .ok (.ifCond .eq 7, 3) := by decide +kernel
theorem dL_isFoundByGoing_10 : decode cL_isFoundByGoing 10 = .ok (.lconst 1, 1) := by decide +kernel
theorem dL_isFoundByGoing_11 : decode cL_isFoundByGoing 11 = .ok (.goto 4, 3) := by decide +kernel
theorem dL_isFoundByGoing_14 : decode cL_isFoundByGoing 14 = .ok (.lconst 0, 1) := by decide +kernel
theorem dL_isFoundByGoing_15 : decode cL_isFoundByGoing 15 = .ok (.lastore, 1) := by decide +kernel
theorem dL_isFoundByGoing_16 : decode cL_isFoundByGoing 16 = .ok (.goto 6, 3) := by decide +kernel
theorem dL_isFoundByGoing_19 : decode cL_isFoundByGoing 19 = .ok (.astore_n 3, 1) := by decide +kernel
theorem dL_isFoundByGoing_20 : decode cL_isFoundByGoing 20 = .ok (.iconst 1, 1) := by decide +kernel
theorem dL_isFoundByGoing_21 : decode cL_isFoundByGoing 21 = .ok (.ireturn, 1) := by decide +kernel
theorem dL_isFoundByGoing_22 : decode cL_isFoundByGoing 22 = .ok (.iconst 0, 1) := by decide +kernel
theorem dL_isFoundByGoing_23 : decode cL_isFoundByGoing 23 = .ok (.ireturn, 1) := by decide +kernel
theorem dL_valueOf_0 : decode cL_valueOf 0 = .ok (.aload_n 2, 1) := by decide +kernel
theorem dL_valueOf_1 : decode cL_valueOf 1 = .ok (.iconst 0, 1) := by decide +kernel
theorem dL_valueOf_2 : decode cL_valueOf 2 = .ok (.aload_n 0, 1) := by decide +kernel
theorem dL_valueOf_3 : decode cL_valueOf 3 = .ok (.iload_n 1, 1) := by decide +kernel
theorem dL_valueOf_4 : decode cL_valueOf 4 = .ok (.invokevirtual 66, 3) := by decide +kernel
theorem dL_valueOf_7 : decode cL_valueOf 7 = .ok (.i2l, 1) := by decide +kernel
theorem dL_valueOf_8 : decode cL_valueOf 8 = .ok (.lastore, 1) := by decide +kernel
theorem dL_valueOf_9 : decode cL_valueOf 9 = .ok (.goto 9, 3) := by decide +kernel
theorem dL_valueOf_12 : decode cL_valueOf 12 = .ok (.astore_n 3, 1) := by decide +kernel
theorem dL_valueOf_13 : decode cL_valueOf 13 = .ok (.iconst 1, 1) := by decide +kernel
theorem dL_valueOf_14 : decode cL_valueOf 14 = .ok (.ireturn, 1) := by decide +kernel
theorem dL_valueOf_15 : decode cL_valueOf 15 = .ok (.astore_n 3, 1) := by decide +kernel
theorem dL_valueOf_16 : decode cL_valueOf 16 = .ok (.iconst 2, 1) := by decide +kernel
theorem dL_valueOf_17 : decode cL_valueOf 17 = .ok (.ireturn, 1) := by decide +kernel
theorem dL_valueOf_18 : decode cL_valueOf 18 = .ok (.iconst 0, 1) := by decide +kernel
theorem dL_valueOf_19 : decode cL_valueOf 19 = .ok (.ireturn, 1) := by decide +kernel
theorem dL_pagesFor_0 : decode cL_pagesFor 0 = .ok (.aload_n 2, 1) := by decide +kernel
theorem dL_pagesFor_1 : decode cL_pagesFor 1 = .ok (.iconst 0, 1) := by decide +kernel
theorem dL_pagesFor_2 : decode cL_pagesFor 2 = .ok (.aload_n 0, 1) := by decide +kernel
theorem dL_pagesFor_3 : decode cL_pagesFor 3 = .ok (.iload_n 1, 1) := by decide +kernel
theorem dL_pagesFor_4 : decode cL_pagesFor 4 = .ok (.invokevirtual 69, 3) := by decide +kernel
theorem dL_pagesFor_7 : decode cL_pagesFor 7 = .ok (.i2l, 1) := by decide +kernel
theorem dL_pagesFor_8 : decode cL_pagesFor 8 = .ok (.lastore, 1) := by decide +kernel
theorem dL_pagesFor_9 : decode cL_pagesFor 9 = .ok (.goto 6, 3) := by decide +kernel
theorem dL_pagesFor_12 : decode cL_pagesFor 12 = .ok (.astore_n 3, 1) := by decide +kernel
theorem dL_pagesFor_13 : decode cL_pagesFor 13 = .ok (.iconst 1, 1) := by decide +kernel
theorem dL_pagesFor_14 : decode cL_pagesFor 14 = .ok (.ireturn, 1) := by decide +kernel
theorem dL_pagesFor_15 : decode cL_pagesFor 15 = .ok (.iconst 0, 1) := by decide +kernel
theorem dL_pagesFor_16 : decode cL_pagesFor 16 = .ok (.ireturn, 1) := by decide +kernel
theorem dL_countByLeaves_0 : decode cL_countByLeaves 0 = .ok (.aload_n 3, 1) := by decide +kernel
theorem dL_countByLeaves_1 : decode cL_countByLeaves 1 = .ok (.iconst 0, 1) := by decide +kernel
theorem dL_countByLeaves_2 : decode cL_countByLeaves 2 = .ok (.aload_n 0, 1) := by decide +kernel
theorem dL_countByLeaves_3 : decode cL_countByLeaves 3 = .ok (.iload_n 1, 1) := by decide +kernel
theorem dL_countByLeaves_4 : decode cL_countByLeaves 4 = .ok (.iload_n 2, 1) := by decide +kernel
theorem dL_countByLeaves_5 : decode cL_countByLeaves 5 = .ok (.invokevirtual 72, 3) := by decide +kernel
theorem dL_countByLeaves_8 : decode cL_countByLeaves 8 = .ok (.i2l, 1) := by decide +kernel
theorem dL_countByLeaves_9 : decode cL_countByLeaves 9 = .ok (.lastore, 1) := by decide +kernel
theorem dL_countByLeaves_10 : decode cL_countByLeaves 10 = .ok (.goto 7, 3) := by decide +kernel
theorem dL_countByLeaves_13 : decode cL_countByLeaves 13 = .ok (.astore 4, 2) := by decide +kernel
theorem dL_countByLeaves_15 : decode cL_countByLeaves 15 = .ok (.iconst 1, 1) := by decide +kernel
theorem dL_countByLeaves_16 : decode cL_countByLeaves 16 = .ok (.ireturn, 1) := by decide +kernel
theorem dL_countByLeaves_17 : decode cL_countByLeaves 17 = .ok (.iconst 0, 1) := by decide +kernel
theorem dL_countByLeaves_18 : decode cL_countByLeaves 18 = .ok (.ireturn, 1) := by decide +kernel
theorem dL_countByNext_0 : decode cL_countByNext 0 = .ok (.aload_n 3, 1) := by decide +kernel
theorem dL_countByNext_1 : decode cL_countByNext 1 = .ok (.iconst 0, 1) := by decide +kernel
theorem dL_countByNext_2 : decode cL_countByNext 2 = .ok (.aload_n 0, 1) := by decide +kernel
theorem dL_countByNext_3 : decode cL_countByNext 3 = .ok (.iload_n 1, 1) := by decide +kernel
theorem dL_countByNext_4 : decode cL_countByNext 4 = .ok (.iload_n 2, 1) := by decide +kernel
theorem dL_countByNext_5 : decode cL_countByNext 5 = .ok (.invokevirtual 75, 3) := by decide +kernel
theorem dL_countByNext_8 : decode cL_countByNext 8 = .ok (.i2l, 1) := by decide +kernel
theorem dL_countByNext_9 : decode cL_countByNext 9 = .ok (.lastore, 1) := by decide +kernel
theorem dL_countByNext_10 : decode cL_countByNext 10 = .ok (.goto 7, 3) := by decide +kernel
theorem dL_countByNext_13 : decode cL_countByNext 13 = .ok (.astore 4, 2) := by decide +kernel
theorem dL_countByNext_15 : decode cL_countByNext 15 = .ok (.iconst 1, 1) := by decide +kernel
theorem dL_countByNext_16 : decode cL_countByNext 16 = .ok (.ireturn, 1) := by decide +kernel
theorem dL_countByNext_17 : decode cL_countByNext 17 = .ok (.iconst 0, 1) := by decide +kernel
theorem dL_countByNext_18 : decode cL_countByNext 18 = .ok (.ireturn, 1) := by decide +kernel
theorem dL_nextKey_0 : decode cL_nextKey 0 = .ok (.aload_n 2, 1) := by decide +kernel
theorem dL_nextKey_1 : decode cL_nextKey 1 = .ok (.iconst 0, 1) := by decide +kernel
theorem dL_nextKey_2 : decode cL_nextKey 2 = .ok (.aload_n 0, 1) := by decide +kernel
theorem dL_nextKey_3 : decode cL_nextKey 3 = .ok (.iload_n 1, 1) := by decide +kernel
theorem dL_nextKey_4 : decode cL_nextKey 4 = .ok (.invokevirtual 78, 3) := by decide +kernel
theorem dL_nextKey_7 : decode cL_nextKey 7 = .ok (.i2l, 1) := by decide +kernel
theorem dL_nextKey_8 : decode cL_nextKey 8 = .ok (.lastore, 1) := by decide +kernel
theorem dL_nextKey_9 : decode cL_nextKey 9 = .ok (.goto 9, 3) := by decide +kernel
theorem dL_nextKey_12 : decode cL_nextKey 12 = .ok (.astore_n 3, 1) := by decide +kernel
theorem dL_nextKey_13 : decode cL_nextKey 13 = .ok (.iconst 1, 1) := by decide +kernel
theorem dL_nextKey_14 : decode cL_nextKey 14 = .ok (.ireturn, 1) := by decide +kernel
theorem dL_nextKey_15 : decode cL_nextKey 15 = .ok (.astore_n 3, 1) := by decide +kernel
theorem dL_nextKey_16 : decode cL_nextKey 16 = .ok (.iconst 2, 1) := by decide +kernel
theorem dL_nextKey_17 : decode cL_nextKey 17 = .ok (.ireturn, 1) := by decide +kernel
theorem dL_nextKey_18 : decode cL_nextKey 18 = .ok (.iconst 0, 1) := by decide +kernel
theorem dL_nextKey_19 : decode cL_nextKey 19 = .ok (.ireturn, 1) := by decide +kernel
theorem dL_keyBefore_0 : decode cL_keyBefore 0 = .ok (.aload_n 2, 1) := by decide +kernel
theorem dL_keyBefore_1 : decode cL_keyBefore 1 = .ok (.iconst 0, 1) := by decide +kernel
theorem dL_keyBefore_2 : decode cL_keyBefore 2 = .ok (.aload_n 0, 1) := by decide +kernel
theorem dL_keyBefore_3 : decode cL_keyBefore 3 = .ok (.iload_n 1, 1) := by decide +kernel
theorem dL_keyBefore_4 : decode cL_keyBefore 4 = .ok (.invokevirtual 81, 3) := by decide +kernel
theorem dL_keyBefore_7 : decode cL_keyBefore 7 = .ok (.i2l, 1) := by decide +kernel
theorem dL_keyBefore_8 : decode cL_keyBefore 8 = .ok (.lastore, 1) := by decide +kernel
theorem dL_keyBefore_9 : decode cL_keyBefore 9 = .ok (.goto 9, 3) := by decide +kernel
theorem dL_keyBefore_12 : decode cL_keyBefore 12 = .ok (.astore_n 3, 1) := by decide +kernel
theorem dL_keyBefore_13 : decode cL_keyBefore 13 = .ok (.iconst 1, 1) := by decide +kernel
theorem dL_keyBefore_14 : decode cL_keyBefore 14 = .ok (.ireturn, 1) := by decide +kernel
theorem dL_keyBefore_15 : decode cL_keyBefore 15 = .ok (.astore_n 3, 1) := by decide +kernel
theorem dL_keyBefore_16 : decode cL_keyBefore 16 = .ok (.iconst 2, 1) := by decide +kernel
theorem dL_keyBefore_17 : decode cL_keyBefore 17 = .ok (.ireturn, 1) := by decide +kernel
theorem dL_keyBefore_18 : decode cL_keyBefore 18 = .ok (.iconst 0, 1) := by decide +kernel
theorem dL_keyBefore_19 : decode cL_keyBefore 19 = .ok (.ireturn, 1) := by decide +kernel
theorem dL_keyAt_0 : decode cL_keyAt 0 = .ok (.aload_n 2, 1) := by decide +kernel
theorem dL_keyAt_1 : decode cL_keyAt 1 = .ok (.iconst 0, 1) := by decide +kernel
theorem dL_keyAt_2 : decode cL_keyAt 2 = .ok (.aload_n 0, 1) := by decide +kernel
theorem dL_keyAt_3 : decode cL_keyAt 3 = .ok (.iload_n 1, 1) := by decide +kernel
theorem dL_keyAt_4 : decode cL_keyAt 4 = .ok (.invokevirtual 84, 3) := by decide +kernel
theorem dL_keyAt_7 : decode cL_keyAt 7 = .ok (.i2l, 1) := by decide +kernel
theorem dL_keyAt_8 : decode cL_keyAt 8 = .ok (.lastore, 1) := by decide +kernel
theorem dL_keyAt_9 : decode cL_keyAt 9 = .ok (.goto 6, 3) := by decide +kernel
theorem dL_keyAt_12 : decode cL_keyAt 12 = .ok (.astore_n 3, 1) := by decide +kernel
theorem dL_keyAt_13 : decode cL_keyAt 13 = .ok (.iconst 1, 1) := by decide +kernel
theorem dL_keyAt_14 : decode cL_keyAt 14 = .ok (.ireturn, 1) := by decide +kernel
theorem dL_keyAt_15 : decode cL_keyAt 15 = .ok (.iconst 0, 1) := by decide +kernel
theorem dL_keyAt_16 : decode cL_keyAt 16 = .ok (.ireturn, 1) := by decide +kernel
theorem dL_sizeOf_0 : decode cL_sizeOf 0 = .ok (.aload_n 2, 1) := by decide +kernel
theorem dL_sizeOf_1 : decode cL_sizeOf 1 = .ok (.iconst 0, 1) := by decide +kernel
theorem dL_sizeOf_2 : decode cL_sizeOf 2 = .ok (.aload_n 0, 1) := by decide +kernel
theorem dL_sizeOf_3 : decode cL_sizeOf 3 = .ok (.iload_n 1, 1) := by decide +kernel
theorem dL_sizeOf_4 : decode cL_sizeOf 4 = .ok (.invokevirtual 89, 3) := by decide +kernel
theorem dL_sizeOf_7 : decode cL_sizeOf 7 = .ok (.i2l, 1) := by decide +kernel
theorem dL_sizeOf_8 : decode cL_sizeOf 8 = .ok (.lastore, 1) := by decide +kernel
theorem dL_sizeOf_9 : decode cL_sizeOf 9 = .ok (.goto 6, 3) := by decide +kernel
theorem dL_sizeOf_12 : decode cL_sizeOf 12 = .ok (.astore_n 3, 1) := by decide +kernel
theorem dL_sizeOf_13 : decode cL_sizeOf 13 = .ok (.iconst 1, 1) := by decide +kernel
theorem dL_sizeOf_14 : decode cL_sizeOf 14 = .ok (.ireturn, 1) := by decide +kernel
theorem dL_sizeOf_15 : decode cL_sizeOf 15 = .ok (.iconst 0, 1) := by decide +kernel
theorem dL_sizeOf_16 : decode cL_sizeOf 16 = .ok (.ireturn, 1) := by decide +kernel
theorem dL_keyIn_0 : decode cL_keyIn 0 = .ok (.aload_n 3, 1) := by decide +kernel
theorem dL_keyIn_1 : decode cL_keyIn 1 = .ok (.iconst 0, 1) := by decide +kernel
theorem dL_keyIn_2 : decode cL_keyIn 2 = .ok (.aload_n 0, 1) := by decide +kernel
theorem dL_keyIn_3 : decode cL_keyIn 3 = .ok (.iload_n 1, 1) := by decide +kernel
theorem dL_keyIn_4 : decode cL_keyIn 4 = .ok (.iload_n 2, 1) := by decide +kernel
theorem dL_keyIn_5 : decode cL_keyIn 5 = .ok (.invokevirtual 92, 3) := by decide +kernel
theorem dL_keyIn_8 : decode cL_keyIn 8 = .ok (.i2l, 1) := by decide +kernel
theorem dL_keyIn_9 : decode cL_keyIn 9 = .ok (.lastore, 1) := by decide +kernel
theorem dL_keyIn_10 : decode cL_keyIn 10 = .ok (.goto 7, 3) := by decide +kernel
theorem dL_keyIn_13 : decode cL_keyIn 13 = .ok (.astore 4, 2) := by decide +kernel
theorem dL_keyIn_15 : decode cL_keyIn 15 = .ok (.iconst 1, 1) := by decide +kernel
theorem dL_keyIn_16 : decode cL_keyIn 16 = .ok (.ireturn, 1) := by decide +kernel
theorem dL_keyIn_17 : decode cL_keyIn 17 = .ok (.iconst 0, 1) := by decide +kernel
theorem dL_keyIn_18 : decode cL_keyIn 18 = .ok (.ireturn, 1) := by decide +kernel
theorem dL_isGoneIn_0 : decode cL_isGoneIn 0 = .ok (.aload_n 3, 1) := by decide +kernel
theorem dL_isGoneIn_1 : decode cL_isGoneIn 1 = .ok (.iconst 0, 1) := by decide +kernel
theorem dL_isGoneIn_2 : decode cL_isGoneIn 2 = .ok (.aload_n 0, 1) := by decide +kernel
theorem dL_isGoneIn_3 : decode cL_isGoneIn 3 = .ok (.iload_n 1, 1) := by decide +kernel
theorem dL_isGoneIn_4 : decode cL_isGoneIn 4 = .ok (.iload_n 2, 1) := by decide +kernel
theorem dL_isGoneIn_5 : decode cL_isGoneIn 5 = .ok (.invokevirtual 95, 3) := by decide +kernel
theorem dL_isGoneIn_8 : decode cL_isGoneIn 8 = .ok (.ifCond .eq 7, 3) := by decide +kernel
theorem dL_isGoneIn_11 : decode cL_isGoneIn 11 = .ok (.lconst 1, 1) := by decide +kernel
theorem dL_isGoneIn_12 : decode cL_isGoneIn 12 = .ok (.goto 4, 3) := by decide +kernel
theorem dL_isGoneIn_15 : decode cL_isGoneIn 15 = .ok (.lconst 0, 1) := by decide +kernel
theorem dL_isGoneIn_16 : decode cL_isGoneIn 16 = .ok (.lastore, 1) := by decide +kernel
theorem dL_isGoneIn_17 : decode cL_isGoneIn 17 = .ok (.goto 7, 3) := by decide +kernel
theorem dL_isGoneIn_20 : decode cL_isGoneIn 20 = .ok (.astore 4, 2) := by decide +kernel
theorem dL_isGoneIn_22 : decode cL_isGoneIn 22 = .ok (.iconst 1, 1) := by decide +kernel
theorem dL_isGoneIn_23 : decode cL_isGoneIn 23 = .ok (.ireturn, 1) := by decide +kernel
theorem dL_isGoneIn_24 : decode cL_isGoneIn 24 = .ok (.iconst 0, 1) := by decide +kernel
theorem dL_isGoneIn_25 : decode cL_isGoneIn 25 = .ok (.ireturn, 1) := by decide +kernel
theorem dL_runOf_0 : decode cL_runOf 0 = .ok (.aload_n 2, 1) := by decide +kernel
theorem dL_runOf_1 : decode cL_runOf 1 = .ok (.iconst 0, 1) := by decide +kernel
theorem dL_runOf_2 : decode cL_runOf 2 = .ok (.aload_n 0, 1) := by decide +kernel
theorem dL_runOf_3 : decode cL_runOf 3 = .ok (.iload_n 1, 1) := by decide +kernel
theorem dL_runOf_4 : decode cL_runOf 4 = .ok (.invokevirtual 99, 3) := by decide +kernel
theorem dL_runOf_7 : decode cL_runOf 7 = .ok (.i2l, 1) := by decide +kernel
theorem dL_runOf_8 : decode cL_runOf 8 = .ok (.lastore, 1) := by decide +kernel
theorem dL_runOf_9 : decode cL_runOf 9 = .ok (.goto 9, 3) := by decide +kernel
theorem dL_runOf_12 : decode cL_runOf 12 = .ok (.astore_n 3, 1) := by decide +kernel
theorem dL_runOf_13 : decode cL_runOf 13 = .ok (.iconst 1, 1) := by decide +kernel
theorem dL_runOf_14 : decode cL_runOf 14 = .ok (.ireturn, 1) := by decide +kernel
theorem dL_runOf_15 : decode cL_runOf 15 = .ok (.astore_n 3, 1) := by decide +kernel
theorem dL_runOf_16 : decode cL_runOf 16 = .ok (.iconst 2, 1) := by decide +kernel
theorem dL_runOf_17 : decode cL_runOf 17 = .ok (.ireturn, 1) := by decide +kernel
theorem dL_runOf_18 : decode cL_runOf 18 = .ok (.iconst 0, 1) := by decide +kernel
theorem dL_runOf_19 : decode cL_runOf 19 = .ok (.ireturn, 1) := by decide +kernel
theorem dL_entriesOf_0 : decode cL_entriesOf 0 = .ok (.aload_n 2, 1) := by decide +kernel
theorem dL_entriesOf_1 : decode cL_entriesOf 1 = .ok (.iconst 0, 1) := by decide +kernel
theorem dL_entriesOf_2 : decode cL_entriesOf 2 = .ok (.aload_n 0, 1) := by decide +kernel
theorem dL_entriesOf_3 : decode cL_entriesOf 3 = .ok (.iload_n 1, 1) := by decide +kernel
theorem dL_entriesOf_4 : decode cL_entriesOf 4 = .ok (.invokevirtual 102, 3) := by decide +kernel
theorem dL_entriesOf_7 : decode cL_entriesOf 7 = .ok (.i2l, 1) := by decide +kernel
theorem dL_entriesOf_8 : decode cL_entriesOf 8 = .ok (.lastore, 1) := by decide +kernel
theorem dL_entriesOf_9 : decode cL_entriesOf 9 = .ok (.goto 6, 3) := by decide +kernel
theorem dL_entriesOf_12 : decode cL_entriesOf 12 = .ok (.astore_n 3, 1) := by decide +kernel
theorem dL_entriesOf_13 : decode cL_entriesOf 13 = .ok (.iconst 1, 1) := by decide +kernel
theorem dL_entriesOf_14 : decode cL_entriesOf 14 = .ok (.ireturn, 1) := by decide +kernel
theorem dL_entriesOf_15 : decode cL_entriesOf 15 = .ok (.iconst 0, 1) := by decide +kernel
theorem dL_entriesOf_16 : decode cL_entriesOf 16 = .ok (.ireturn, 1) := by decide +kernel
theorem dL_leafKey_0 : decode cL_leafKey 0 = .ok (.aload_n 3, 1) := by decide +kernel
theorem dL_leafKey_1 : decode cL_leafKey 1 = .ok (.iconst 0, 1) := by decide +kernel
theorem dL_leafKey_2 : decode cL_leafKey 2 = .ok (.aload_n 0, 1) := by decide +kernel
theorem dL_leafKey_3 : decode cL_leafKey 3 = .ok (.iload_n 1, 1) := by decide +kernel
theorem dL_leafKey_4 : decode cL_leafKey 4 = .ok (.iload_n 2, 1) := by decide +kernel
theorem dL_leafKey_5 : decode cL_leafKey 5 = .ok (.invokevirtual 105, 3) := by decide +kernel
theorem dL_leafKey_8 : decode cL_leafKey 8 = .ok (.i2l, 1) := by decide +kernel
theorem dL_leafKey_9 : decode cL_leafKey 9 = .ok (.lastore, 1) := by decide +kernel
theorem dL_leafKey_10 : decode cL_leafKey 10 = .ok (.goto 7, 3) := by decide +kernel
theorem dL_leafKey_13 : decode cL_leafKey 13 = .ok (.astore 4, 2) := by decide +kernel
theorem dL_leafKey_15 : decode cL_leafKey 15 = .ok (.iconst 1, 1) := by decide +kernel
theorem dL_leafKey_16 : decode cL_leafKey 16 = .ok (.ireturn, 1) := by decide +kernel
theorem dL_leafKey_17 : decode cL_leafKey 17 = .ok (.iconst 0, 1) := by decide +kernel
theorem dL_leafKey_18 : decode cL_leafKey 18 = .ok (.ireturn, 1) := by decide +kernel
theorem dL_overflowOf_0 : decode cL_overflowOf 0 = .ok (.aload_n 2, 1) := by decide +kernel
theorem dL_overflowOf_1 : decode cL_overflowOf 1 = .ok (.iconst 0, 1) := by decide +kernel
theorem dL_overflowOf_2 : decode cL_overflowOf 2 = .ok (.aload_n 0, 1) := by decide +kernel
theorem dL_overflowOf_3 : decode cL_overflowOf 3 = .ok (.iload_n 1, 1) := by decide +kernel
theorem dL_overflowOf_4 : decode cL_overflowOf 4 = .ok (.invokevirtual 108, 3) := by decide +kernel
theorem dL_overflowOf_7 : decode cL_overflowOf 7 = .ok (.i2l, 1) := by decide +kernel
theorem dL_overflowOf_8 : decode cL_overflowOf 8 = .ok (.lastore, 1) := by decide +kernel
theorem dL_overflowOf_9 : decode cL_overflowOf 9 = .ok (.goto 6, 3) := by decide +kernel
theorem dL_overflowOf_12 : decode cL_overflowOf 12 = .ok (.astore_n 3, 1) := by decide +kernel
theorem dL_overflowOf_13 : decode cL_overflowOf 13 = .ok (.iconst 1, 1) := by decide +kernel
theorem dL_overflowOf_14 : decode cL_overflowOf 14 = .ok (.ireturn, 1) := by decide +kernel
theorem dL_overflowOf_15 : decode cL_overflowOf 15 = .ok (.iconst 0, 1) := by decide +kernel
theorem dL_overflowOf_16 : decode cL_overflowOf 16 = .ok (.ireturn, 1) := by decide +kernel
theorem dL_overflowLeaves_0 : decode cL_overflowLeaves 0 = .ok (.aload_n 2, 1) := by decide +kernel
theorem dL_overflowLeaves_1 : decode cL_overflowLeaves 1 = .ok (.iconst 0, 1) := by decide +kernel
theorem dL_overflowLeaves_2 : decode cL_overflowLeaves 2 = .ok (.aload_n 0, 1) := by decide +kernel
theorem dL_overflowLeaves_3 : decode cL_overflowLeaves 3 = .ok (.iload_n 1, 1) := by decide +kernel
theorem dL_overflowLeaves_4 : decode cL_overflowLeaves 4 = .ok (.invokevirtual 111, 3) := by decide +kernel
theorem dL_overflowLeaves_7 : decode cL_overflowLeaves 7 = .ok (.i2l, 1) := by decide +kernel
theorem dL_overflowLeaves_8 : decode cL_overflowLeaves 8 = .ok (.lastore, 1) := by decide +kernel
theorem dL_overflowLeaves_9 : decode cL_overflowLeaves 9 = .ok (.goto 6, 3) := by decide +kernel
theorem dL_overflowLeaves_12 : decode cL_overflowLeaves 12 = .ok (.astore_n 3, 1) := by decide +kernel
theorem dL_overflowLeaves_13 : decode cL_overflowLeaves 13 = .ok (.iconst 1, 1) := by decide +kernel
theorem dL_overflowLeaves_14 : decode cL_overflowLeaves 14 = .ok (.ireturn, 1) := by decide +kernel
theorem dL_overflowLeaves_15 : decode cL_overflowLeaves 15 = .ok (.iconst 0, 1) := by decide +kernel
theorem dL_overflowLeaves_16 : decode cL_overflowLeaves 16 = .ok (.ireturn, 1) := by decide +kernel
theorem dL_nodesAt_0 : decode cL_nodesAt 0 = .ok (.aload_n 2, 1) := by decide +kernel
theorem dL_nodesAt_1 : decode cL_nodesAt 1 = .ok (.iconst 0, 1) := by decide +kernel
theorem dL_nodesAt_2 : decode cL_nodesAt 2 = .ok (.aload_n 0, 1) := by decide +kernel
theorem dL_nodesAt_3 : decode cL_nodesAt 3 = .ok (.iload_n 1, 1) := by decide +kernel
theorem dL_nodesAt_4 : decode cL_nodesAt 4 = .ok (.invokevirtual 114, 3) := by decide +kernel
theorem dL_nodesAt_7 : decode cL_nodesAt 7 = .ok (.i2l, 1) := by decide +kernel
theorem dL_nodesAt_8 : decode cL_nodesAt 8 = .ok (.lastore, 1) := by decide +kernel
theorem dL_nodesAt_9 : decode cL_nodesAt 9 = .ok (.goto 6, 3) := by decide +kernel
theorem dL_nodesAt_12 : decode cL_nodesAt 12 = .ok (.astore_n 3, 1) := by decide +kernel
theorem dL_nodesAt_13 : decode cL_nodesAt 13 = .ok (.iconst 1, 1) := by decide +kernel
theorem dL_nodesAt_14 : decode cL_nodesAt 14 = .ok (.ireturn, 1) := by decide +kernel
theorem dL_nodesAt_15 : decode cL_nodesAt 15 = .ok (.iconst 0, 1) := by decide +kernel
theorem dL_nodesAt_16 : decode cL_nodesAt 16 = .ok (.ireturn, 1) := by decide +kernel
theorem dL_childrenOf_0 : decode cL_childrenOf 0 = .ok (.aload_n 3, 1) := by decide +kernel
theorem dL_childrenOf_1 : decode cL_childrenOf 1 = .ok (.iconst 0, 1) := by decide +kernel
theorem dL_childrenOf_2 : decode cL_childrenOf 2 = .ok (.aload_n 0, 1) := by decide +kernel
theorem dL_childrenOf_3 : decode cL_childrenOf 3 = .ok (.iload_n 1, 1) := by decide +kernel
theorem dL_childrenOf_4 : decode cL_childrenOf 4 = .ok (.iload_n 2, 1) := by decide +kernel
theorem dL_childrenOf_5 : decode cL_childrenOf 5 = .ok (.invokevirtual 117, 3) := by decide +kernel
theorem dL_childrenOf_8 : decode cL_childrenOf 8 = .ok (.i2l, 1) := by decide +kernel
theorem dL_childrenOf_9 : decode cL_childrenOf 9 = .ok (.lastore, 1) := by decide +kernel
theorem dL_childrenOf_10 : decode cL_childrenOf 10 = .ok (.goto 7, 3) := by decide +kernel
theorem dL_childrenOf_13 : decode cL_childrenOf 13 = .ok (.astore 4, 2) := by decide +kernel
theorem dL_childrenOf_15 : decode cL_childrenOf 15 = .ok (.iconst 1, 1) := by decide +kernel
theorem dL_childrenOf_16 : decode cL_childrenOf 16 = .ok (.ireturn, 1) := by decide +kernel
theorem dL_childrenOf_17 : decode cL_childrenOf 17 = .ok (.iconst 0, 1) := by decide +kernel
theorem dL_childrenOf_18 : decode cL_childrenOf 18 = .ok (.ireturn, 1) := by decide +kernel
theorem dL_boundOf_0 : decode cL_boundOf 0 = .ok (.aload_n 3, 1) := by decide +kernel
theorem dL_boundOf_1 : decode cL_boundOf 1 = .ok (.iconst 0, 1) := by decide +kernel
theorem dL_boundOf_2 : decode cL_boundOf 2 = .ok (.aload_n 0, 1) := by decide +kernel
theorem dL_boundOf_3 : decode cL_boundOf 3 = .ok (.iload_n 1, 1) := by decide +kernel
theorem dL_boundOf_4 : decode cL_boundOf 4 = .ok (.iload_n 2, 1) := by decide +kernel
theorem dL_boundOf_5 : decode cL_boundOf 5 = .ok (.invokevirtual 120, 3) := by decide +kernel
theorem dL_boundOf_8 : decode cL_boundOf 8 = .ok (.i2l, 1) := by decide +kernel
theorem dL_boundOf_9 : decode cL_boundOf 9 = .ok (.lastore, 1) := by decide +kernel
theorem dL_boundOf_10 : decode cL_boundOf 10 = .ok (.goto 7, 3) := by decide +kernel
theorem dL_boundOf_13 : decode cL_boundOf 13 = .ok (.astore 4, 2) := by decide +kernel
theorem dL_boundOf_15 : decode cL_boundOf 15 = .ok (.iconst 1, 1) := by decide +kernel
theorem dL_boundOf_16 : decode cL_boundOf 16 = .ok (.ireturn, 1) := by decide +kernel
theorem dL_boundOf_17 : decode cL_boundOf 17 = .ok (.iconst 0, 1) := by decide +kernel
theorem dL_boundOf_18 : decode cL_boundOf 18 = .ok (.ireturn, 1) := by decide +kernel
theorem dL_leafFor_0 : decode cL_leafFor 0 = .ok (.aload_n 2, 1) := by decide +kernel
theorem dL_leafFor_1 : decode cL_leafFor 1 = .ok (.iconst 0, 1) := by decide +kernel
theorem dL_leafFor_2 : decode cL_leafFor 2 = .ok (.aload_n 0, 1) := by decide +kernel
theorem dL_leafFor_3 : decode cL_leafFor 3 = .ok (.iload_n 1, 1) := by decide +kernel
theorem dL_leafFor_4 : decode cL_leafFor 4 = .ok (.invokevirtual 123, 3) := by decide +kernel
theorem dL_leafFor_7 : decode cL_leafFor 7 = .ok (.i2l, 1) := by decide +kernel
theorem dL_leafFor_8 : decode cL_leafFor 8 = .ok (.lastore, 1) := by decide +kernel
theorem dL_leafFor_9 : decode cL_leafFor 9 = .ok (.goto 9, 3) := by decide +kernel
theorem dL_leafFor_12 : decode cL_leafFor 12 = .ok (.astore_n 3, 1) := by decide +kernel
theorem dL_leafFor_13 : decode cL_leafFor 13 = .ok (.iconst 1, 1) := by decide +kernel
theorem dL_leafFor_14 : decode cL_leafFor 14 = .ok (.ireturn, 1) := by decide +kernel
theorem dL_leafFor_15 : decode cL_leafFor 15 = .ok (.astore_n 3, 1) := by decide +kernel
theorem dL_leafFor_16 : decode cL_leafFor 16 = .ok (.iconst 2, 1) := by decide +kernel
theorem dL_leafFor_17 : decode cL_leafFor 17 = .ok (.ireturn, 1) := by decide +kernel
theorem dL_leafFor_18 : decode cL_leafFor 18 = .ok (.iconst 0, 1) := by decide +kernel
theorem dL_leafFor_19 : decode cL_leafFor 19 = .ok (.ireturn, 1) := by decide +kernel
theorem dL_leavesIfBuilt_0 : decode cL_leavesIfBuilt 0 = .ok (.aload_n 2, 1) := by decide +kernel
theorem dL_leavesIfBuilt_1 : decode cL_leavesIfBuilt 1 = .ok (.iconst 0, 1) := by decide +kernel
theorem dL_leavesIfBuilt_2 : decode cL_leavesIfBuilt 2 = .ok (.aload_n 0, 1) := by decide +kernel
theorem dL_leavesIfBuilt_3 : decode cL_leavesIfBuilt 3 = .ok (.iload_n 1, 1) := by decide +kernel
theorem dL_leavesIfBuilt_4 : decode cL_leavesIfBuilt 4 = .ok (.invokevirtual 126, 3) := by decide +kernel
theorem dL_leavesIfBuilt_7 : decode cL_leavesIfBuilt 7 = .ok (.i2l, 1) := by decide +kernel
theorem dL_leavesIfBuilt_8 : decode cL_leavesIfBuilt 8 = .ok (.lastore, 1) := by decide +kernel
theorem dL_leavesIfBuilt_9 : decode cL_leavesIfBuilt 9 = .ok (.goto 6, 3) := by decide +kernel
theorem dL_leavesIfBuilt_12 : decode cL_leavesIfBuilt 12 = .ok (.astore_n 3, 1) := by decide +kernel
theorem dL_leavesIfBuilt_13 : decode cL_leavesIfBuilt 13 = .ok (.iconst 1, 1) := by decide +kernel
theorem dL_leavesIfBuilt_14 : decode cL_leavesIfBuilt 14 = .ok (.ireturn, 1) := by decide +kernel
theorem dL_leavesIfBuilt_15 : decode cL_leavesIfBuilt 15 = .ok (.iconst 0, 1) := by decide +kernel
theorem dL_leavesIfBuilt_16 : decode cL_leavesIfBuilt 16 = .ok (.ireturn, 1) := by decide +kernel
theorem dL_levelsIfBuilt_0 : decode cL_levelsIfBuilt 0 = .ok (.aload_n 2, 1) := by decide +kernel
theorem dL_levelsIfBuilt_1 : decode cL_levelsIfBuilt 1 = .ok (.iconst 0, 1) := by decide +kernel
theorem dL_levelsIfBuilt_2 : decode cL_levelsIfBuilt 2 = .ok (.aload_n 0, 1) := by decide +kernel
theorem dL_levelsIfBuilt_3 : decode cL_levelsIfBuilt 3 = .ok (.iload_n 1, 1) := by decide +kernel
theorem dL_levelsIfBuilt_4 : decode cL_levelsIfBuilt 4 = .ok (.invokevirtual 129, 3) := by decide +kernel
theorem dL_levelsIfBuilt_7 : decode cL_levelsIfBuilt 7 = .ok (.i2l, 1) := by decide +kernel
theorem dL_levelsIfBuilt_8 : decode cL_levelsIfBuilt 8 = .ok (.lastore, 1) := by decide +kernel
theorem dL_levelsIfBuilt_9 : decode cL_levelsIfBuilt 9 = .ok (.goto 6, 3) := by decide +kernel
theorem dL_levelsIfBuilt_12 : decode cL_levelsIfBuilt 12 = .ok (.astore_n 3, 1) := by decide +kernel
theorem dL_levelsIfBuilt_13 : decode cL_levelsIfBuilt 13 = .ok (.iconst 1, 1) := by decide +kernel
theorem dL_levelsIfBuilt_14 : decode cL_levelsIfBuilt 14 = .ok (.ireturn, 1) := by decide +kernel
theorem dL_levelsIfBuilt_15 : decode cL_levelsIfBuilt 15 = .ok (.iconst 0, 1) := by decide +kernel
theorem dL_levelsIfBuilt_16 : decode cL_levelsIfBuilt 16 = .ok (.ireturn, 1) := by decide +kernel
theorem dL_law_0 : decode cL_law 0 = .ok (.new 8, 3) := by decide +kernel
theorem dL_law_3 : decode cL_law 3 = .ok (.dup, 1) := by decide +kernel
theorem dL_law_4 : decode cL_law 4 = .ok (.invokespecial 132, 3) := by decide +kernel
theorem dL_law_7 : decode cL_law 7 = .ok (.astore_n 1, 1) := by decide +kernel
theorem dL_law_8 : decode cL_law 8 = .ok (.new 133, 3) := by decide +kernel
theorem dL_law_11 : decode cL_law 11 = .ok (.dup, 1) := by decide +kernel
theorem dL_law_12 : decode cL_law 12 = .ok (.invokespecial 135, 3) := by decide +kernel
theorem dL_law_15 : decode cL_law 15 = .ok (.astore_n 2, 1) := by decide +kernel
theorem dL_law_16 : decode cL_law 16 = .ok (.iconst 1, 1) := by decide +kernel
theorem dL_law_17 : decode cL_law 17 = .ok (.newarray .long, 2) := by decide +kernel
theorem dL_law_19 : decode cL_law 19 = .ok (.astore_n 3, 1) := by decide +kernel
theorem dL_law_20 : decode cL_law 20 = .ok (.iconst 0, 1) := by decide +kernel
theorem dL_law_21 : decode cL_law 21 = .ok (.istore 4, 2) := by decide +kernel
theorem dL_law_23 : decode cL_law 23 = .ok (.iload 4, 2) := by decide +kernel
theorem dL_law_25 : decode cL_law 25 = .ok (.aload_n 0, 1) := by decide +kernel
theorem dL_law_26 : decode cL_law 26 = .ok (.arraylength, 1) := by decide +kernel
theorem dL_law_27 : decode cL_law 27 = .ok (.iconst 3, 1) := by decide +kernel
theorem dL_law_28 : decode cL_law 28 = .ok (.isub, 1) := by decide +kernel
theorem dL_law_29 : decode cL_law 29 = .ok (.if_icmp .gt 2582, 3) := by decide +kernel
theorem dL_law_32 : decode cL_law 32 = .ok (.aload_n 0, 1) := by decide +kernel
theorem dL_law_33 : decode cL_law 33 = .ok (.iload 4, 2) := by decide +kernel
theorem dL_law_35 : decode cL_law 35 = .ok (.iaload, 1) := by decide +kernel
theorem dL_law_36 : decode cL_law 36 = .ok (.bipush 63, 2) := by decide +kernel
theorem dL_law_38 : decode cL_law 38 = .ok (.iand, 1) := by decide +kernel
theorem dL_law_39 : decode cL_law 39 = .ok (.tableswitch 2566 0 51 #[221, 289, 345, 389, 433, 489, 557, 613, 669, 725, 781, 794, 807, 851, 887, 923, 947, 960, 1023, 1086, 1142, 1198, 1266, 1334, 1390, 1446, 1459, 1515, 1528, 1584, 1652, 1727, 1783, 1796, 1809, 1865, 1933, 1989, 2045, 2058, 2114, 2182, 2250, 2306, 2319, 2332, 2345, 2386, 2427, 2440, 2496, 2552], 221) := by decide +kernel
theorem dL_law_260 : decode cL_law 260 = .ok (.aload_n 1, 1) := by decide +kernel
theorem dL_law_261 : decode cL_law 261 = .ok (.aload_n 0, 1) := by decide +kernel
theorem dL_law_262 : decode cL_law 262 = .ok (.iload 4, 2) := by decide +kernel
theorem dL_law_264 : decode cL_law 264 = .ok (.iconst 1, 1) := by decide +kernel
theorem dL_law_265 : decode cL_law 265 = .ok (.iadd, 1) := by decide +kernel
theorem dL_law_266 : decode cL_law 266 = .ok (.iaload, 1) := by decide +kernel
theorem dL_law_267 : decode cL_law 267 = .ok (.aload_n 0, 1) := by decide +kernel
theorem dL_law_268 : decode cL_law 268 = .ok (.iload 4, 2) := by decide +kernel
theorem dL_law_270 : decode cL_law 270 = .ok (.iconst 2, 1) := by decide +kernel
theorem dL_law_271 : decode cL_law 271 = .ok (.iadd, 1) := by decide +kernel
theorem dL_law_272 : decode cL_law 272 = .ok (.iaload, 1) := by decide +kernel
theorem dL_law_273 : decode cL_law 273 = .ok (.aload_n 3, 1) := by decide +kernel
theorem dL_law_274 : decode cL_law 274 = .ok (.invokestatic 136, 3) := by decide +kernel
theorem dL_law_277 : decode cL_law 277 = .ok (.istore 5, 2) := by decide +kernel
theorem dL_law_279 : decode cL_law 279 = .ok (.aload_n 2, 1) := by decide +kernel
theorem dL_law_280 : decode cL_law 280 = .ok (.aload_n 0, 1) := by decide +kernel
theorem dL_law_281 : decode cL_law 281 = .ok (.iload 4, 2) := by decide +kernel
theorem dL_law_283 : decode cL_law 283 = .ok (.iconst 1, 1) := by decide +kernel
theorem dL_law_284 : decode cL_law 284 = .ok (.iadd, 1) := by decide +kernel
theorem dL_law_285 : decode cL_law 285 = .ok (.iaload, 1) := by decide +kernel
theorem dL_law_286 : decode cL_law 286 = .ok (.aload_n 0, 1) := by decide +kernel
theorem dL_law_287 : decode cL_law 287 = .ok (.iload 4, 2) := by decide +kernel
theorem dL_law_289 : decode cL_law 289 = .ok (.iconst 2, 1) := by decide +kernel
theorem dL_law_290 : decode cL_law 290 = .ok (.iadd, 1) := by decide +kernel
theorem dL_law_291 : decode cL_law 291 = .ok (.iaload, 1) := by decide +kernel
theorem dL_law_292 : decode cL_law 292 = .ok (.invokevirtual 141, 3) := by decide +kernel
theorem dL_law_295 : decode cL_law 295 = .ok (.istore 6, 2) := by decide +kernel
theorem dL_law_297 : decode cL_law 297 = .ok (.aload_n 2, 1) := by decide +kernel
theorem dL_law_298 : decode cL_law 298 = .ok (.invokevirtual 142, 3) := by decide +kernel
theorem dL_law_301 : decode cL_law 301 = .ok (.iload 5, 2) := by decide +kernel
theorem dL_law_303 : decode cL_law 303 = .ok (.if_icmp .eq 5, 3) := by decide +kernel
theorem dL_law_306 : decode cL_law 306 = .ok (.iconst 0, 1) := by decide +kernel
theorem dL_law_307 : decode cL_law 307 = .ok (.ireturn, 1) := by decide +kernel
theorem dL_law_308 : decode cL_law 308 = .ok (.iload 5, 2) := by decide +kernel
theorem dL_law_310 : decode cL_law 310 = .ok (.ifCond .ne 15, 3) := by decide +kernel
theorem dL_law_313 : decode cL_law 313 = .ok (.aload_n 3, 1) := by decide +kernel
theorem dL_law_314 : decode cL_law 314 = .ok (.iconst 0, 1) := by decide +kernel
theorem dL_law_315 : decode cL_law 315 = .ok (.laload, 1) := by decide +kernel
theorem dL_law_316 : decode cL_law 316 = .ok (.iload 6, 2) := by decide +kernel
theorem dL_law_318 : decode cL_law 318 = .ok (.i2l, 1) := by decide +kernel
theorem dL_law_319 : decode cL_law 319 = .ok (.lcmp, 1) := by decide +kernel
theorem dL_law_320 : decode cL_law 320 = .ok (.ifCond .eq 5, 3) := by decide +kernel
theorem dL_law_323 : decode cL_law 323 = .ok (.iconst 0, 1) := by decide +kernel
theorem dL_law_324 : decode cL_law 324 = .ok (.ireturn, 1) := by decide +kernel
theorem dL_law_325 : decode cL_law 325 = .ok (.goto 2280, 3) := by decide +kernel
theorem dL_law_328 : decode cL_law 328 = .ok (.aload_n 1, 1) := by decide +kernel
theorem dL_law_329 : decode cL_law 329 = .ok (.aload_n 0, 1) := by decide +kernel
theorem dL_law_330 : decode cL_law 330 = .ok (.iload 4, 2) := by decide +kernel
theorem dL_law_332 : decode cL_law 332 = .ok (.iconst 1, 1) := by decide +kernel
theorem dL_law_333 : decode cL_law 333 = .ok (.iadd, 1) := by decide +kernel
theorem dL_law_334 : decode cL_law 334 = .ok (.iaload, 1) := by decide +kernel
theorem dL_law_335 : decode cL_law 335 = .ok (.aload_n 3, 1) := by decide +kernel
theorem dL_law_336 : decode cL_law 336 = .ok (.invokestatic 145, 3) := by decide +kernel
theorem dL_law_339 : decode cL_law 339 = .ok (.istore 5, 2) := by decide +kernel
theorem dL_law_341 : decode cL_law 341 = .ok (.aload_n 2, 1) := by decide +kernel
theorem dL_law_342 : decode cL_law 342 = .ok (.aload_n 0, 1) := by decide +kernel
theorem dL_law_343 : decode cL_law 343 = .ok (.iload 4, 2) := by decide +kernel
theorem dL_law_345 : decode cL_law 345 = .ok (.iconst 1, 1) := by decide +kernel
theorem dL_law_346 : decode cL_law 346 = .ok (.iadd, 1) := by decide +kernel
theorem dL_law_347 : decode cL_law 347 = .ok (.iaload, 1) := by decide +kernel
theorem dL_law_348 : decode cL_law 348 = .ok (.invokevirtual 148, 3) := by decide +kernel
theorem dL_law_351 : decode cL_law 351 = .ok (.istore 6, 2) := by decide +kernel
theorem dL_law_353 : decode cL_law 353 = .ok (.aload_n 2, 1) := by decide +kernel
theorem dL_law_354 : decode cL_law 354 = .ok (.invokevirtual 142, 3) := by decide +kernel
theorem dL_law_357 : decode cL_law 357 = .ok (.iload 5, 2) := by decide +kernel
theorem dL_law_359 : decode cL_law 359 = .ok (.if_icmp .eq 5, 3) := by decide +kernel
theorem dL_law_362 : decode cL_law 362 = .ok (.iconst 0, 1) := by decide +kernel
theorem dL_law_363 : decode cL_law 363 = .ok (.ireturn, 1) := by decide +kernel
theorem dL_law_364 : decode cL_law 364 = .ok (.iload 5, 2) := by decide +kernel
theorem dL_law_366 : decode cL_law 366 = .ok (.ifCond .ne 15, 3) := by decide +kernel
theorem dL_law_369 : decode cL_law 369 = .ok (.aload_n 3, 1) := by decide +kernel
theorem dL_law_370 : decode cL_law 370 = .ok (.iconst 0, 1) := by decide +kernel
theorem dL_law_371 : decode cL_law 371 = .ok (.laload, 1) := by decide +kernel
theorem dL_law_372 : decode cL_law 372 = .ok (.iload 6, 2) := by decide +kernel
theorem dL_law_374 : decode cL_law 374 = .ok (.i2l, 1) := by decide +kernel
theorem dL_law_375 : decode cL_law 375 = .ok (.lcmp, 1) := by decide +kernel
theorem dL_law_376 : decode cL_law 376 = .ok (.ifCond .eq 5, 3) := by decide +kernel
theorem dL_law_379 : decode cL_law 379 = .ok (.iconst 0, 1) := by decide +kernel
theorem dL_law_380 : decode cL_law 380 = .ok (.ireturn, 1) := by decide +kernel
theorem dL_law_381 : decode cL_law 381 = .ok (.goto 2224, 3) := by decide +kernel
theorem dL_law_384 : decode cL_law 384 = .ok (.aload_n 1, 1) := by decide +kernel
theorem dL_law_385 : decode cL_law 385 = .ok (.aload_n 3, 1) := by decide +kernel
theorem dL_law_386 : decode cL_law 386 = .ok (.invokestatic 149, 3) := by decide +kernel
theorem dL_law_389 : decode cL_law 389 = .ok (.istore 5, 2) := by decide +kernel
theorem dL_law_391 : decode cL_law 391 = .ok (.aload_n 2, 1) := by decide +kernel
theorem dL_law_392 : decode cL_law 392 = .ok (.invokevirtual 152, 3) := by decide +kernel
theorem dL_law_395 : decode cL_law 395 = .ok (.istore 6, 2) := by decide +kernel
theorem dL_law_397 : decode cL_law 397 = .ok (.aload_n 2, 1) := by decide +kernel
theorem dL_law_398 : decode cL_law 398 = .ok (.invokevirtual 142, 3) := by decide +kernel
theorem dL_law_401 : decode cL_law 401 = .ok (.iload 5, 2) := by decide +kernel
theorem dL_law_403 : decode cL_law 403 = .ok (.if_icmp .eq 5, 3) := by decide +kernel
theorem dL_law_406 : decode cL_law 406 = .ok (.iconst 0, 1) := by decide +kernel
theorem dL_law_407 : decode cL_law 407 = .ok (.ireturn, 1) := by decide +kernel
theorem dL_law_408 : decode cL_law 408 = .ok (.iload 5, 2) := by decide +kernel
theorem dL_law_410 : decode cL_law 410 = .ok (.ifCond .ne 15, 3) := by decide +kernel
theorem dL_law_413 : decode cL_law 413 = .ok (.aload_n 3, 1) := by decide +kernel
theorem dL_law_414 : decode cL_law 414 = .ok (.iconst 0, 1) := by decide +kernel
theorem dL_law_415 : decode cL_law 415 = .ok (.laload, 1) := by decide +kernel
theorem dL_law_416 : decode cL_law 416 = .ok (.iload 6, 2) := by decide +kernel
theorem dL_law_418 : decode cL_law 418 = .ok (.i2l, 1) := by decide +kernel
theorem dL_law_419 : decode cL_law 419 = .ok (.lcmp, 1) := by decide +kernel
theorem dL_law_420 : decode cL_law 420 = .ok (.ifCond .eq 5, 3) := by decide +kernel
theorem dL_law_423 : decode cL_law 423 = .ok (.iconst 0, 1) := by decide +kernel
theorem dL_law_424 : decode cL_law 424 = .ok (.ireturn, 1) := by decide +kernel
theorem dL_law_425 : decode cL_law 425 = .ok (.goto 2180, 3) := by decide +kernel
theorem dL_law_428 : decode cL_law 428 = .ok (.aload_n 1, 1) := by decide +kernel
theorem dL_law_429 : decode cL_law 429 = .ok (.aload_n 3, 1) := by decide +kernel
theorem dL_law_430 : decode cL_law 430 = .ok (.invokestatic 153, 3) := by decide +kernel
theorem dL_law_433 : decode cL_law 433 = .ok (.istore 5, 2) := by decide +kernel
theorem dL_law_435 : decode cL_law 435 = .ok (.aload_n 2, 1) := by decide +kernel
theorem dL_law_436 : decode cL_law 436 = .ok (.invokevirtual 155, 3) := by decide +kernel
theorem dL_law_439 : decode cL_law 439 = .ok (.istore 6, 2) := by decide +kernel
theorem dL_law_441 : decode cL_law 441 = .ok (.aload_n 2, 1) := by decide +kernel
theorem dL_law_442 : decode cL_law 442 = .ok (.invokevirtual 142, 3) := by decide +kernel
theorem dL_law_445 : decode cL_law 445 = .ok (.iload 5, 2) := by decide +kernel
theorem dL_law_447 : decode cL_law 447 = .ok (.if_icmp .eq 5, 3) := by decide +kernel
theorem dL_law_450 : decode cL_law 450 = .ok (.iconst 0, 1) := by decide +kernel
theorem dL_law_451 : decode cL_law 451 = .ok (.ireturn, 1) := by decide +kernel
theorem dL_law_452 : decode cL_law 452 = .ok (.iload 5, 2) := by decide +kernel
theorem dL_law_454 : decode cL_law 454 = .ok (.ifCond .ne 15, 3) := by decide +kernel
theorem dL_law_457 : decode cL_law 457 = .ok (.aload_n 3, 1) := by decide +kernel
theorem dL_law_458 : decode cL_law 458 = .ok (.iconst 0, 1) := by decide +kernel
theorem dL_law_459 : decode cL_law 459 = .ok (.laload, 1) := by decide +kernel
theorem dL_law_460 : decode cL_law 460 = .ok (.iload 6, 2) := by decide +kernel
theorem dL_law_462 : decode cL_law 462 = .ok (.i2l, 1) := by decide +kernel
theorem dL_law_463 : decode cL_law 463 = .ok (.lcmp, 1) := by decide +kernel
theorem dL_law_464 : decode cL_law 464 = .ok (.ifCond .eq 5, 3) := by decide +kernel
theorem dL_law_467 : decode cL_law 467 = .ok (.iconst 0, 1) := by decide +kernel
theorem dL_law_468 : decode cL_law 468 = .ok (.ireturn, 1) := by decide +kernel
theorem dL_law_469 : decode cL_law 469 = .ok (.goto 2136, 3) := by decide +kernel
theorem dL_law_472 : decode cL_law 472 = .ok (.aload_n 1, 1) := by decide +kernel
theorem dL_law_473 : decode cL_law 473 = .ok (.aload_n 0, 1) := by decide +kernel
theorem dL_law_474 : decode cL_law 474 = .ok (.iload 4, 2) := by decide +kernel
theorem dL_law_476 : decode cL_law 476 = .ok (.iconst 1, 1) := by decide +kernel
theorem dL_law_477 : decode cL_law 477 = .ok (.iadd, 1) := by decide +kernel
theorem dL_law_478 : decode cL_law 478 = .ok (.iaload, 1) := by decide +kernel
theorem dL_law_479 : decode cL_law 479 = .ok (.aload_n 3, 1) := by decide +kernel
theorem dL_law_480 : decode cL_law 480 = .ok (.invokestatic 156, 3) := by decide +kernel
theorem dL_law_483 : decode cL_law 483 = .ok (.istore 5, 2) := by decide +kernel
theorem dL_law_485 : decode cL_law 485 = .ok (.aload_n 2, 1) := by decide +kernel
theorem dL_law_486 : decode cL_law 486 = .ok (.aload_n 0, 1) := by decide +kernel
theorem dL_law_487 : decode cL_law 487 = .ok (.iload 4, 2) := by decide +kernel
theorem dL_law_489 : decode cL_law 489 = .ok (.iconst 1, 1) := by decide +kernel
theorem dL_law_490 : decode cL_law 490 = .ok (.iadd, 1) := by decide +kernel
theorem dL_law_491 : decode cL_law 491 = .ok (.iaload, 1) := by decide +kernel
theorem dL_law_492 : decode cL_law 492 = .ok (.invokevirtual 158, 3) := by decide +kernel
theorem dL_law_495 : decode cL_law 495 = .ok (.istore 6, 2) := by decide +kernel
theorem dL_law_497 : decode cL_law 497 = .ok (.aload_n 2, 1) := by decide +kernel
theorem dL_law_498 : decode cL_law 498 = .ok (.invokevirtual 142, 3) := by decide +kernel
theorem dL_law_501 : decode cL_law 501 = .ok (.iload 5, 2) := by decide +kernel
theorem dL_law_503 : decode cL_law 503 = .ok (.if_icmp .eq 5, 3) := by decide +kernel
theorem dL_law_506 : decode cL_law 506 = .ok (.iconst 0, 1) := by decide +kernel
theorem dL_law_507 : decode cL_law 507 = .ok (.ireturn, 1) := by decide +kernel
theorem dL_law_508 : decode cL_law 508 = .ok (.iload 5, 2) := by decide +kernel
theorem dL_law_510 : decode cL_law 510 = .ok (.ifCond .ne 15, 3) := by decide +kernel
theorem dL_law_513 : decode cL_law 513 = .ok (.aload_n 3, 1) := by decide +kernel
theorem dL_law_514 : decode cL_law 514 = .ok (.iconst 0, 1) := by decide +kernel
theorem dL_law_515 : decode cL_law 515 = .ok (.laload, 1) := by decide +kernel
theorem dL_law_516 : decode cL_law 516 = .ok (.iload 6, 2) := by decide +kernel
theorem dL_law_518 : decode cL_law 518 = .ok (.i2l, 1) := by decide +kernel
theorem dL_law_519 : decode cL_law 519 = .ok (.lcmp, 1) := by decide +kernel
theorem dL_law_520 : decode cL_law 520 = .ok (.ifCond .eq 5, 3) := by decide +kernel
theorem dL_law_523 : decode cL_law 523 = .ok (.iconst 0, 1) := by decide +kernel
theorem dL_law_524 : decode cL_law 524 = .ok (.ireturn, 1) := by decide +kernel
theorem dL_law_525 : decode cL_law 525 = .ok (.goto 2080, 3) := by decide +kernel
theorem dL_law_528 : decode cL_law 528 = .ok (.aload_n 1, 1) := by decide +kernel
theorem dL_law_529 : decode cL_law 529 = .ok (.aload_n 0, 1) := by decide +kernel
theorem dL_law_530 : decode cL_law 530 = .ok (.iload 4, 2) := by decide +kernel
theorem dL_law_532 : decode cL_law 532 = .ok (.iconst 1, 1) := by decide +kernel
theorem dL_law_533 : decode cL_law 533 = .ok (.iadd, 1) := by decide +kernel
theorem dL_law_534 : decode cL_law 534 = .ok (.iaload, 1) := by decide +kernel
theorem dL_law_535 : decode cL_law 535 = .ok (.aload_n 0, 1) := by decide +kernel
theorem dL_law_536 : decode cL_law 536 = .ok (.iload 4, 2) := by decide +kernel
theorem dL_law_538 : decode cL_law 538 = .ok (.iconst 2, 1) := by decide +kernel
theorem dL_law_539 : decode cL_law 539 = .ok (.iadd, 1) := by decide +kernel
theorem dL_law_540 : decode cL_law 540 = .ok (.iaload, 1) := by decide +kernel
theorem dL_law_541 : decode cL_law 541 = .ok (.aload_n 3, 1) := by decide +kernel
theorem dL_law_542 : decode cL_law 542 = .ok (.invokestatic 159, 3) := by decide +kernel
theorem dL_law_545 : decode cL_law 545 = .ok (.istore 5, 2) := by decide +kernel
theorem dL_law_547 : decode cL_law 547 = .ok (.aload_n 2, 1) := by decide +kernel
theorem dL_law_548 : decode cL_law 548 = .ok (.aload_n 0, 1) := by decide +kernel
theorem dL_law_549 : decode cL_law 549 = .ok (.iload 4, 2) := by decide +kernel
theorem dL_law_551 : decode cL_law 551 = .ok (.iconst 1, 1) := by decide +kernel
theorem dL_law_552 : decode cL_law 552 = .ok (.iadd, 1) := by decide +kernel
theorem dL_law_553 : decode cL_law 553 = .ok (.iaload, 1) := by decide +kernel
theorem dL_law_554 : decode cL_law 554 = .ok (.aload_n 0, 1) := by decide +kernel
theorem dL_law_555 : decode cL_law 555 = .ok (.iload 4, 2) := by decide +kernel
theorem dL_law_557 : decode cL_law 557 = .ok (.iconst 2, 1) := by decide +kernel
theorem dL_law_558 : decode cL_law 558 = .ok (.iadd, 1) := by decide +kernel
theorem dL_law_559 : decode cL_law 559 = .ok (.iaload, 1) := by decide +kernel
theorem dL_law_560 : decode cL_law 560 = .ok (.invokevirtual 161, 3) := by decide +kernel
theorem dL_law_563 : decode cL_law 563 = .ok (.istore 6, 2) := by decide +kernel
theorem dL_law_565 : decode cL_law 565 = .ok (.aload_n 2, 1) := by decide +kernel
theorem dL_law_566 : decode cL_law 566 = .ok (.invokevirtual 142, 3) := by decide +kernel
theorem dL_law_569 : decode cL_law 569 = .ok (.iload 5, 2) := by decide +kernel
theorem dL_law_571 : decode cL_law 571 = .ok (.if_icmp .eq 5, 3) := by decide +kernel
theorem dL_law_574 : decode cL_law 574 = .ok (.iconst 0, 1) := by decide +kernel
theorem dL_law_575 : decode cL_law 575 = .ok (.ireturn, 1) := by decide +kernel
theorem dL_law_576 : decode cL_law 576 = .ok (.iload 5, 2) := by decide +kernel
theorem dL_law_578 : decode cL_law 578 = .ok (.ifCond .ne 15, 3) := by decide +kernel
theorem dL_law_581 : decode cL_law 581 = .ok (.aload_n 3, 1) := by decide +kernel
theorem dL_law_582 : decode cL_law 582 = .ok (.iconst 0, 1) := by decide +kernel
theorem dL_law_583 : decode cL_law 583 = .ok (.laload, 1) := by decide +kernel
theorem dL_law_584 : decode cL_law 584 = .ok (.iload 6, 2) := by decide +kernel
theorem dL_law_586 : decode cL_law 586 = .ok (.i2l, 1) := by decide +kernel
theorem dL_law_587 : decode cL_law 587 = .ok (.lcmp, 1) := by decide +kernel
theorem dL_law_588 : decode cL_law 588 = .ok (.ifCond .eq 5, 3) := by decide +kernel
theorem dL_law_591 : decode cL_law 591 = .ok (.iconst 0, 1) := by decide +kernel
theorem dL_law_592 : decode cL_law 592 = .ok (.ireturn, 1) := by decide +kernel
theorem dL_law_593 : decode cL_law 593 = .ok (.goto 2012, 3) := by decide +kernel
theorem dL_law_596 : decode cL_law 596 = .ok (.aload_n 1, 1) := by decide +kernel
theorem dL_law_597 : decode cL_law 597 = .ok (.aload_n 0, 1) := by decide +kernel
theorem dL_law_598 : decode cL_law 598 = .ok (.iload 4, 2) := by decide +kernel
theorem dL_law_600 : decode cL_law 600 = .ok (.iconst 1, 1) := by decide +kernel
theorem dL_law_601 : decode cL_law 601 = .ok (.iadd, 1) := by decide +kernel
theorem dL_law_602 : decode cL_law 602 = .ok (.iaload, 1) := by decide +kernel
theorem dL_law_603 : decode cL_law 603 = .ok (.aload_n 3, 1) := by decide +kernel
theorem dL_law_604 : decode cL_law 604 = .ok (.invokestatic 162, 3) := by decide +kernel
theorem dL_law_607 : decode cL_law 607 = .ok (.istore 5, 2) := by decide +kernel
theorem dL_law_609 : decode cL_law 609 = .ok (.aload_n 2, 1) := by decide +kernel
theorem dL_law_610 : decode cL_law 610 = .ok (.aload_n 0, 1) := by decide +kernel
theorem dL_law_611 : decode cL_law 611 = .ok (.iload 4, 2) := by decide +kernel
theorem dL_law_613 : decode cL_law 613 = .ok (.iconst 1, 1) := by decide +kernel
theorem dL_law_614 : decode cL_law 614 = .ok (.iadd, 1) := by decide +kernel
theorem dL_law_615 : decode cL_law 615 = .ok (.iaload, 1) := by decide +kernel
theorem dL_law_616 : decode cL_law 616 = .ok (.invokevirtual 164, 3) := by decide +kernel
theorem dL_law_619 : decode cL_law 619 = .ok (.istore 6, 2) := by decide +kernel
theorem dL_law_621 : decode cL_law 621 = .ok (.aload_n 2, 1) := by decide +kernel
theorem dL_law_622 : decode cL_law 622 = .ok (.invokevirtual 142, 3) := by decide +kernel
theorem dL_law_625 : decode cL_law 625 = .ok (.iload 5, 2) := by decide +kernel
theorem dL_law_627 : decode cL_law 627 = .ok (.if_icmp .eq 5, 3) := by decide +kernel
theorem dL_law_630 : decode cL_law 630 = .ok (.iconst 0, 1) := by decide +kernel
theorem dL_law_631 : decode cL_law 631 = .ok (.ireturn, 1) := by decide +kernel
theorem dL_law_632 : decode cL_law 632 = .ok (.iload 5, 2) := by decide +kernel
theorem dL_law_634 : decode cL_law 634 = .ok (.ifCond .ne 15, 3) := by decide +kernel
theorem dL_law_637 : decode cL_law 637 = .ok (.aload_n 3, 1) := by decide +kernel
theorem dL_law_638 : decode cL_law 638 = .ok (.iconst 0, 1) := by decide +kernel
theorem dL_law_639 : decode cL_law 639 = .ok (.laload, 1) := by decide +kernel
theorem dL_law_640 : decode cL_law 640 = .ok (.iload 6, 2) := by decide +kernel
theorem dL_law_642 : decode cL_law 642 = .ok (.i2l, 1) := by decide +kernel
theorem dL_law_643 : decode cL_law 643 = .ok (.lcmp, 1) := by decide +kernel
theorem dL_law_644 : decode cL_law 644 = .ok (.ifCond .eq 5, 3) := by decide +kernel
theorem dL_law_647 : decode cL_law 647 = .ok (.iconst 0, 1) := by decide +kernel
theorem dL_law_648 : decode cL_law 648 = .ok (.ireturn, 1) := by decide +kernel
theorem dL_law_649 : decode cL_law 649 = .ok (.goto 1956, 3) := by decide +kernel
theorem dL_law_652 : decode cL_law 652 = .ok (.aload_n 1, 1) := by decide +kernel
theorem dL_law_653 : decode cL_law 653 = .ok (.aload_n 0, 1) := by decide +kernel
theorem dL_law_654 : decode cL_law 654 = .ok (.iload 4, 2) := by decide +kernel
theorem dL_law_656 : decode cL_law 656 = .ok (.iconst 1, 1) := by decide +kernel
theorem dL_law_657 : decode cL_law 657 = .ok (.iadd, 1) := by decide +kernel
theorem dL_law_658 : decode cL_law 658 = .ok (.iaload, 1) := by decide +kernel
theorem dL_law_659 : decode cL_law 659 = .ok (.aload_n 3, 1) := by decide +kernel
theorem dL_law_660 : decode cL_law 660 = .ok (.invokestatic 165, 3) := by decide +kernel
theorem dL_law_663 : decode cL_law 663 = .ok (.istore 5, 2) := by decide +kernel
theorem dL_law_665 : decode cL_law 665 = .ok (.aload_n 2, 1) := by decide +kernel
theorem dL_law_666 : decode cL_law 666 = .ok (.aload_n 0, 1) := by decide +kernel
theorem dL_law_667 : decode cL_law 667 = .ok (.iload 4, 2) := by decide +kernel
theorem dL_law_669 : decode cL_law 669 = .ok (.iconst 1, 1) := by decide +kernel
theorem dL_law_670 : decode cL_law 670 = .ok (.iadd, 1) := by decide +kernel
theorem dL_law_671 : decode cL_law 671 = .ok (.iaload, 1) := by decide +kernel
theorem dL_law_672 : decode cL_law 672 = .ok (.invokevirtual 167, 3) := by decide +kernel
theorem dL_law_675 : decode cL_law 675 = .ok (.istore 6, 2) := by decide +kernel
theorem dL_law_677 : decode cL_law 677 = .ok (.aload_n 2, 1) := by decide +kernel
theorem dL_law_678 : decode cL_law 678 = .ok (.invokevirtual 142, 3) := by decide +kernel
theorem dL_law_681 : decode cL_law 681 = .ok (.iload 5, 2) := by decide +kernel
theorem dL_law_683 : decode cL_law 683 = .ok (.if_icmp .eq 5, 3) := by decide +kernel
theorem dL_law_686 : decode cL_law 686 = .ok (.iconst 0, 1) := by decide +kernel
theorem dL_law_687 : decode cL_law 687 = .ok (.ireturn, 1) := by decide +kernel
theorem dL_law_688 : decode cL_law 688 = .ok (.iload 5, 2) := by decide +kernel
theorem dL_law_690 : decode cL_law 690 = .ok (.ifCond .ne 15, 3) := by decide +kernel
theorem dL_law_693 : decode cL_law 693 = .ok (.aload_n 3, 1) := by decide +kernel
theorem dL_law_694 : decode cL_law 694 = .ok (.iconst 0, 1) := by decide +kernel
theorem dL_law_695 : decode cL_law 695 = .ok (.laload, 1) := by decide +kernel
theorem dL_law_696 : decode cL_law 696 = .ok (.iload 6, 2) := by decide +kernel
theorem dL_law_698 : decode cL_law 698 = .ok (.i2l, 1) := by decide +kernel
theorem dL_law_699 : decode cL_law 699 = .ok (.lcmp, 1) := by decide +kernel
theorem dL_law_700 : decode cL_law 700 = .ok (.ifCond .eq 5, 3) := by decide +kernel
theorem dL_law_703 : decode cL_law 703 = .ok (.iconst 0, 1) := by decide +kernel
theorem dL_law_704 : decode cL_law 704 = .ok (.ireturn, 1) := by decide +kernel
theorem dL_law_705 : decode cL_law 705 = .ok (.goto 1900, 3) := by decide +kernel
theorem dL_law_708 : decode cL_law 708 = .ok (.aload_n 1, 1) := by decide +kernel
theorem dL_law_709 : decode cL_law 709 = .ok (.aload_n 0, 1) := by decide +kernel
theorem dL_law_710 : decode cL_law 710 = .ok (.iload 4, 2) := by decide +kernel
theorem dL_law_712 : decode cL_law 712 = .ok (.iconst 1, 1) := by decide +kernel
theorem dL_law_713 : decode cL_law 713 = .ok (.iadd, 1) := by decide +kernel
theorem dL_law_714 : decode cL_law 714 = .ok (.iaload, 1) := by decide +kernel
theorem dL_law_715 : decode cL_law 715 = .ok (.aload_n 3, 1) := by decide +kernel
theorem dL_law_716 : decode cL_law 716 = .ok (.invokestatic 168, 3) := by decide +kernel
theorem dL_law_719 : decode cL_law 719 = .ok (.istore 5, 2) := by decide +kernel
theorem dL_law_721 : decode cL_law 721 = .ok (.aload_n 2, 1) := by decide +kernel
theorem dL_law_722 : decode cL_law 722 = .ok (.aload_n 0, 1) := by decide +kernel
theorem dL_law_723 : decode cL_law 723 = .ok (.iload 4, 2) := by decide +kernel
theorem dL_law_725 : decode cL_law 725 = .ok (.iconst 1, 1) := by decide +kernel
theorem dL_law_726 : decode cL_law 726 = .ok (.iadd, 1) := by decide +kernel
theorem dL_law_727 : decode cL_law 727 = .ok (.iaload, 1) := by decide +kernel
theorem dL_law_728 : decode cL_law 728 = .ok (.invokevirtual 170, 3) := by decide +kernel
theorem dL_law_731 : decode cL_law 731 = .ok (.istore 6, 2) := by decide +kernel
theorem dL_law_733 : decode cL_law 733 = .ok (.aload_n 2, 1) := by decide +kernel
theorem dL_law_734 : decode cL_law 734 = .ok (.invokevirtual 142, 3) := by decide +kernel
theorem dL_law_737 : decode cL_law 737 = .ok (.iload 5, 2) := by decide +kernel
theorem dL_law_739 : decode cL_law 739 = .ok (.if_icmp .eq 5, 3) := by decide +kernel
theorem dL_law_742 : decode cL_law 742 = .ok (.iconst 0, 1) := by decide +kernel
theorem dL_law_743 : decode cL_law 743 = .ok (.ireturn, 1) := by decide +kernel
theorem dL_law_744 : decode cL_law 744 = .ok (.iload 5, 2) := by decide +kernel
theorem dL_law_746 : decode cL_law 746 = .ok (.ifCond .ne 15, 3) := by decide +kernel
theorem dL_law_749 : decode cL_law 749 = .ok (.aload_n 3, 1) := by decide +kernel
theorem dL_law_750 : decode cL_law 750 = .ok (.iconst 0, 1) := by decide +kernel
theorem dL_law_751 : decode cL_law 751 = .ok (.laload, 1) := by decide +kernel
theorem dL_law_752 : decode cL_law 752 = .ok (.iload 6, 2) := by decide +kernel
theorem dL_law_754 : decode cL_law 754 = .ok (.i2l, 1) := by decide +kernel
theorem dL_law_755 : decode cL_law 755 = .ok (.lcmp, 1) := by decide +kernel
theorem dL_law_756 : decode cL_law 756 = .ok (.ifCond .eq 5, 3) := by decide +kernel
theorem dL_law_759 : decode cL_law 759 = .ok (.iconst 0, 1) := by decide +kernel
theorem dL_law_760 : decode cL_law 760 = .ok (.ireturn, 1) := by decide +kernel
theorem dL_law_761 : decode cL_law 761 = .ok (.goto 1844, 3) := by decide +kernel
theorem dL_law_764 : decode cL_law 764 = .ok (.aload_n 1, 1) := by decide +kernel
theorem dL_law_765 : decode cL_law 765 = .ok (.aload_n 0, 1) := by decide +kernel
theorem dL_law_766 : decode cL_law 766 = .ok (.iload 4, 2) := by decide +kernel
theorem dL_law_768 : decode cL_law 768 = .ok (.iconst 1, 1) := by decide +kernel
theorem dL_law_769 : decode cL_law 769 = .ok (.iadd, 1) := by decide +kernel
theorem dL_law_770 : decode cL_law 770 = .ok (.iaload, 1) := by decide +kernel
theorem dL_law_771 : decode cL_law 771 = .ok (.aload_n 3, 1) := by decide +kernel
theorem dL_law_772 : decode cL_law 772 = .ok (.invokestatic 171, 3) := by decide +kernel
theorem dL_law_775 : decode cL_law 775 = .ok (.istore 5, 2) := by decide +kernel
theorem dL_law_777 : decode cL_law 777 = .ok (.aload_n 2, 1) := by decide +kernel
theorem dL_law_778 : decode cL_law 778 = .ok (.aload_n 0, 1) := by decide +kernel
theorem dL_law_779 : decode cL_law 779 = .ok (.iload 4, 2) := by decide +kernel
theorem dL_law_781 : decode cL_law 781 = .ok (.iconst 1, 1) := by decide +kernel
theorem dL_law_782 : decode cL_law 782 = .ok (.iadd, 1) := by decide +kernel
theorem dL_law_783 : decode cL_law 783 = .ok (.iaload, 1) := by decide +kernel
theorem dL_law_784 : decode cL_law 784 = .ok (.invokevirtual 173, 3) := by decide +kernel
theorem dL_law_787 : decode cL_law 787 = .ok (.istore 6, 2) := by decide +kernel
theorem dL_law_789 : decode cL_law 789 = .ok (.aload_n 2, 1) := by decide +kernel
theorem dL_law_790 : decode cL_law 790 = .ok (.invokevirtual 142, 3) := by decide +kernel
theorem dL_law_793 : decode cL_law 793 = .ok (.iload 5, 2) := by decide +kernel
theorem dL_law_795 : decode cL_law 795 = .ok (.if_icmp .eq 5, 3) := by decide +kernel
theorem dL_law_798 : decode cL_law 798 = .ok (.iconst 0, 1) := by decide +kernel
theorem dL_law_799 : decode cL_law 799 = .ok (.ireturn, 1) := by decide +kernel
theorem dL_law_800 : decode cL_law 800 = .ok (.iload 5, 2) := by decide +kernel
theorem dL_law_802 : decode cL_law 802 = .ok (.ifCond .ne 15, 3) := by decide +kernel
theorem dL_law_805 : decode cL_law 805 = .ok (.aload_n 3, 1) := by decide +kernel
theorem dL_law_806 : decode cL_law 806 = .ok (.iconst 0, 1) := by decide +kernel
theorem dL_law_807 : decode cL_law 807 = .ok (.laload, 1) := by decide +kernel
theorem dL_law_808 : decode cL_law 808 = .ok (.iload 6, 2) := by decide +kernel
theorem dL_law_810 : decode cL_law 810 = .ok (.i2l, 1) := by decide +kernel
theorem dL_law_811 : decode cL_law 811 = .ok (.lcmp, 1) := by decide +kernel
theorem dL_law_812 : decode cL_law 812 = .ok (.ifCond .eq 5, 3) := by decide +kernel
theorem dL_law_815 : decode cL_law 815 = .ok (.iconst 0, 1) := by decide +kernel
theorem dL_law_816 : decode cL_law 816 = .ok (.ireturn, 1) := by decide +kernel
theorem dL_law_817 : decode cL_law 817 = .ok (.goto 1788, 3) := by decide +kernel
theorem dL_law_820 : decode cL_law 820 = .ok (.aload_n 1, 1) := by decide +kernel
theorem dL_law_821 : decode cL_law 821 = .ok (.invokevirtual 174, 3) := by decide +kernel
theorem dL_law_824 : decode cL_law 824 = .ok (.aload_n 2, 1) := by decide +kernel
theorem dL_law_825 : decode cL_law 825 = .ok (.invokevirtual 177, 3) := by decide +kernel
theorem dL_law_828 : decode cL_law 828 = .ok (.if_icmp .eq 1777, 3) := by decide +kernel
theorem dL_law_831 : decode cL_law 831 = .ok (.iconst 0, 1) := by decide +kernel
theorem dL_law_832 : decode cL_law 832 = .ok (.ireturn, 1) := by decide +kernel
theorem dL_law_833 : decode cL_law 833 = .ok (.aload_n 1, 1) := by decide +kernel
theorem dL_law_834 : decode cL_law 834 = .ok (.invokevirtual 178, 3) := by decide +kernel
theorem dL_law_837 : decode cL_law 837 = .ok (.aload_n 2, 1) := by decide +kernel
theorem dL_law_838 : decode cL_law 838 = .ok (.invokevirtual 181, 3) := by decide +kernel
theorem dL_law_841 : decode cL_law 841 = .ok (.if_icmp .eq 1764, 3) := by decide +kernel
theorem dL_law_844 : decode cL_law 844 = .ok (.iconst 0, 1) := by decide +kernel
theorem dL_law_845 : decode cL_law 845 = .ok (.ireturn, 1) := by decide +kernel
theorem dL_law_846 : decode cL_law 846 = .ok (.aload_n 1, 1) := by decide +kernel
theorem dL_law_847 : decode cL_law 847 = .ok (.aload_n 3, 1) := by decide +kernel
theorem dL_law_848 : decode cL_law 848 = .ok (.invokestatic 182, 3) := by decide +kernel
theorem dL_law_851 : decode cL_law 851 = .ok (.istore 5, 2) := by decide +kernel
theorem dL_law_853 : decode cL_law 853 = .ok (.aload_n 2, 1) := by decide +kernel
theorem dL_law_854 : decode cL_law 854 = .ok (.invokevirtual 184, 3) := by decide +kernel
theorem dL_law_857 : decode cL_law 857 = .ok (.istore 6, 2) := by decide +kernel
theorem dL_law_859 : decode cL_law 859 = .ok (.aload_n 2, 1) := by decide +kernel
theorem dL_law_860 : decode cL_law 860 = .ok (.invokevirtual 142, 3) := by decide +kernel
theorem dL_law_863 : decode cL_law 863 = .ok (.iload 5, 2) := by decide +kernel
theorem dL_law_865 : decode cL_law 865 = .ok (.if_icmp .eq 5, 3) := by decide +kernel
theorem dL_law_868 : decode cL_law 868 = .ok (.iconst 0, 1) := by decide +kernel
theorem dL_law_869 : decode cL_law 869 = .ok (.ireturn, 1) := by decide +kernel
theorem dL_law_870 : decode cL_law 870 = .ok (.iload 5, 2) := by decide +kernel
theorem dL_law_872 : decode cL_law 872 = .ok (.ifCond .ne 15, 3) := by decide +kernel
theorem dL_law_875 : decode cL_law 875 = .ok (.aload_n 3, 1) := by decide +kernel
theorem dL_law_876 : decode cL_law 876 = .ok (.iconst 0, 1) := by decide +kernel
theorem dL_law_877 : decode cL_law 877 = .ok (.laload, 1) := by decide +kernel
theorem dL_law_878 : decode cL_law 878 = .ok (.iload 6, 2) := by decide +kernel
theorem dL_law_880 : decode cL_law 880 = .ok (.i2l, 1) := by decide +kernel
theorem dL_law_881 : decode cL_law 881 = .ok (.lcmp, 1) := by decide +kernel
theorem dL_law_882 : decode cL_law 882 = .ok (.ifCond .eq 5, 3) := by decide +kernel
theorem dL_law_885 : decode cL_law 885 = .ok (.iconst 0, 1) := by decide +kernel
theorem dL_law_886 : decode cL_law 886 = .ok (.ireturn, 1) := by decide +kernel
theorem dL_law_887 : decode cL_law 887 = .ok (.goto 1718, 3) := by decide +kernel
theorem dL_law_890 : decode cL_law 890 = .ok (.aload_n 1, 1) := by decide +kernel
theorem dL_law_891 : decode cL_law 891 = .ok (.aload_n 0, 1) := by decide +kernel
theorem dL_law_892 : decode cL_law 892 = .ok (.iload 4, 2) := by decide +kernel
theorem dL_law_894 : decode cL_law 894 = .ok (.iconst 1, 1) := by decide +kernel
theorem dL_law_895 : decode cL_law 895 = .ok (.iadd, 1) := by decide +kernel
theorem dL_law_896 : decode cL_law 896 = .ok (.iaload, 1) := by decide +kernel
theorem dL_law_897 : decode cL_law 897 = .ok (.invokestatic 185, 3) := by decide +kernel
theorem dL_law_900 : decode cL_law 900 = .ok (.istore 5, 2) := by decide +kernel
theorem dL_law_902 : decode cL_law 902 = .ok (.aload_n 2, 1) := by decide +kernel
theorem dL_law_903 : decode cL_law 903 = .ok (.aload_n 0, 1) := by decide +kernel
theorem dL_law_904 : decode cL_law 904 = .ok (.iload 4, 2) := by decide +kernel
theorem dL_law_906 : decode cL_law 906 = .ok (.iconst 1, 1) := by decide +kernel
theorem dL_law_907 : decode cL_law 907 = .ok (.iadd, 1) := by decide +kernel
theorem dL_law_908 : decode cL_law 908 = .ok (.iaload, 1) := by decide +kernel
theorem dL_law_909 : decode cL_law 909 = .ok (.invokevirtual 188, 3) := by decide +kernel
theorem dL_law_912 : decode cL_law 912 = .ok (.aload_n 2, 1) := by decide +kernel
theorem dL_law_913 : decode cL_law 913 = .ok (.invokevirtual 142, 3) := by decide +kernel
theorem dL_law_916 : decode cL_law 916 = .ok (.iload 5, 2) := by decide +kernel
theorem dL_law_918 : decode cL_law 918 = .ok (.if_icmp .eq 5, 3) := by decide +kernel
theorem dL_law_921 : decode cL_law 921 = .ok (.iconst 0, 1) := by decide +kernel
theorem dL_law_922 : decode cL_law 922 = .ok (.ireturn, 1) := by decide +kernel
theorem dL_law_923 : decode cL_law 923 = .ok (.goto 1682, 3) := by decide +kernel
theorem dL_law_926 : decode cL_law 926 = .ok (.aload_n 1, 1) := by decide +kernel
theorem dL_law_927 : decode cL_law 927 = .ok (.aload_n 0, 1) := by decide +kernel
theorem dL_law_928 : decode cL_law 928 = .ok (.iload 4, 2) := by decide +kernel
theorem dL_law_930 : decode cL_law 930 = .ok (.iconst 1, 1) := by decide +kernel
theorem dL_law_931 : decode cL_law 931 = .ok (.iadd, 1) := by decide +kernel
theorem dL_law_932 : decode cL_law 932 = .ok (.iaload, 1) := by decide +kernel
theorem dL_law_933 : decode cL_law 933 = .ok (.invokestatic 189, 3) := by decide +kernel
theorem dL_law_936 : decode cL_law 936 = .ok (.istore 5, 2) := by decide +kernel
theorem dL_law_938 : decode cL_law 938 = .ok (.aload_n 2, 1) := by decide +kernel
theorem dL_law_939 : decode cL_law 939 = .ok (.aload_n 0, 1) := by decide +kernel
theorem dL_law_940 : decode cL_law 940 = .ok (.iload 4, 2) := by decide +kernel
theorem dL_law_942 : decode cL_law 942 = .ok (.iconst 1, 1) := by decide +kernel
theorem dL_law_943 : decode cL_law 943 = .ok (.iadd, 1) := by decide +kernel
theorem dL_law_944 : decode cL_law 944 = .ok (.iaload, 1) := by decide +kernel
theorem dL_law_945 : decode cL_law 945 = .ok (.invokevirtual 191, 3) := by decide +kernel
theorem dL_law_948 : decode cL_law 948 = .ok (.aload_n 2, 1) := by decide +kernel
theorem dL_law_949 : decode cL_law 949 = .ok (.invokevirtual 142, 3) := by decide +kernel
theorem dL_law_952 : decode cL_law 952 = .ok (.iload 5, 2) := by decide +kernel
theorem dL_law_954 : decode cL_law 954 = .ok (.if_icmp .eq 5, 3) := by decide +kernel
theorem dL_law_957 : decode cL_law 957 = .ok (.iconst 0, 1) := by decide +kernel
theorem dL_law_958 : decode cL_law 958 = .ok (.ireturn, 1) := by decide +kernel
theorem dL_law_959 : decode cL_law 959 = .ok (.goto 1646, 3) := by decide +kernel
theorem dL_law_962 : decode cL_law 962 = .ok (.aload_n 1, 1) := by decide +kernel
theorem dL_law_963 : decode cL_law 963 = .ok (.invokestatic 192, 3) := by decide +kernel
theorem dL_law_966 : decode cL_law 966 = .ok (.istore 5, 2) := by decide +kernel
theorem dL_law_968 : decode cL_law 968 = .ok (.aload_n 2, 1) := by decide +kernel
theorem dL_law_969 : decode cL_law 969 = .ok (.invokevirtual 195, 3) := by decide +kernel
theorem dL_law_972 : decode cL_law 972 = .ok (.aload_n 2, 1) := by decide +kernel
theorem dL_law_973 : decode cL_law 973 = .ok (.invokevirtual 142, 3) := by decide +kernel
theorem dL_law_976 : decode cL_law 976 = .ok (.iload 5, 2) := by decide +kernel
theorem dL_law_978 : decode cL_law 978 = .ok (.if_icmp .eq 5, 3) := by decide +kernel
theorem dL_law_981 : decode cL_law 981 = .ok (.iconst 0, 1) := by decide +kernel
theorem dL_law_982 : decode cL_law 982 = .ok (.ireturn, 1) := by decide +kernel
theorem dL_law_983 : decode cL_law 983 = .ok (.goto 1622, 3) := by decide +kernel
theorem dL_law_986 : decode cL_law 986 = .ok (.aload_n 1, 1) := by decide +kernel
theorem dL_law_987 : decode cL_law 987 = .ok (.invokevirtual 196, 3) := by decide +kernel
theorem dL_law_990 : decode cL_law 990 = .ok (.aload_n 2, 1) := by decide +kernel
theorem dL_law_991 : decode cL_law 991 = .ok (.invokevirtual 199, 3) := by decide +kernel
theorem dL_law_994 : decode cL_law 994 = .ok (.if_icmp .eq 1611, 3) := by decide +kernel
theorem dL_law_997 : decode cL_law 997 = .ok (.iconst 0, 1) := by decide +kernel
theorem dL_law_998 : decode cL_law 998 = .ok (.ireturn, 1) := by decide +kernel
theorem dL_law_999 : decode cL_law 999 = .ok (.aload_n 1, 1) := by decide +kernel
theorem dL_law_1000 : decode cL_law 1000 = .ok (.aload_n 0, 1) := by decide +kernel
theorem dL_law_1001 : decode cL_law 1001 = .ok (.iload 4, 2) := by decide +kernel
theorem dL_law_1003 : decode cL_law 1003 = .ok (.iconst 1, 1) := by decide +kernel
theorem dL_law_1004 : decode cL_law 1004 = .ok (.iadd, 1) := by decide +kernel
theorem dL_law_1005 : decode cL_law 1005 = .ok (.iaload, 1) := by decide +kernel
theorem dL_law_1006 : decode cL_law 1006 = .ok (.aload_n 3, 1) := by decide +kernel
theorem dL_law_1007 : decode cL_law 1007 = .ok (.invokestatic 200, 3) := by decide +kernel
theorem dL_law_1010 : decode cL_law 1010 = .ok (.istore 5, 2) := by decide +kernel
theorem dL_law_1012 : decode cL_law 1012 = .ok (.aload_n 2, 1) := by decide +kernel
theorem dL_law_1013 : decode cL_law 1013 = .ok (.aload_n 0, 1) := by decide +kernel
theorem dL_law_1014 : decode cL_law 1014 = .ok (.iload 4, 2) := by decide +kernel
theorem dL_law_1016 : decode cL_law 1016 = .ok (.iconst 1, 1) := by decide +kernel
theorem dL_law_1017 : decode cL_law 1017 = .ok (.iadd, 1) := by decide +kernel
theorem dL_law_1018 : decode cL_law 1018 = .ok (.iaload, 1) := by decide +kernel
theorem dL_law_1019 : decode cL_law 1019 = .ok (.invokevirtual 202, 3) := by decide +kernel
theorem dL_law_1022 : decode cL_law 1022 = .ok (.istore 6, 2) := by decide +kernel
theorem dL_law_1024 : decode cL_law 1024 = .ok (.aload_n 2, 1) := by decide +kernel
theorem dL_law_1025 : decode cL_law 1025 = .ok (.invokevirtual 142, 3) := by decide +kernel
theorem dL_law_1028 : decode cL_law 1028 = .ok (.iload 5, 2) := by decide +kernel
theorem dL_law_1030 : decode cL_law 1030 = .ok (.if_icmp .eq 5, 3) := by decide +kernel
theorem dL_law_1033 : decode cL_law 1033 = .ok (.iconst 0, 1) := by decide +kernel
theorem dL_law_1034 : decode cL_law 1034 = .ok (.ireturn, 1) := by decide +kernel
theorem dL_law_1035 : decode cL_law 1035 = .ok (.iload 5, 2) := by decide +kernel
theorem dL_law_1037 : decode cL_law 1037 = .ok (.ifCond .ne 22, 3) := by decide +kernel
theorem dL_law_1040 : decode cL_law 1040 = .ok (.aload_n 3, 1) := by decide +kernel
theorem dL_law_1041 : decode cL_law 1041 = .ok (.iconst 0, 1) := by decide +kernel
theorem dL_law_1042 : decode cL_law 1042 = .ok (.laload, 1) := by decide +kernel
theorem dL_law_1043 : decode cL_law 1043 = .ok (.iload 6, 2) := by decide +kernel
theorem dL_law_1045 : decode cL_law 1045 = .ok (.ifCond .eq 7, 3) := by decide +kernel
theorem dL_law_1048 : decode cL_law 1048 = .ok (.lconst 1, 1) := by decide +kernel
theorem dL_law_1049 : decode cL_law 1049 = .ok (.goto 4, 3) := by decide +kernel
theorem dL_law_1052 : decode cL_law 1052 = .ok (.lconst 0, 1) := by decide +kernel
theorem dL_law_1053 : decode cL_law 1053 = .ok (.lcmp, 1) := by decide +kernel
theorem dL_law_1054 : decode cL_law 1054 = .ok (.ifCond .eq 5, 3) := by decide +kernel
theorem dL_law_1057 : decode cL_law 1057 = .ok (.iconst 0, 1) := by decide +kernel
theorem dL_law_1058 : decode cL_law 1058 = .ok (.ireturn, 1) := by decide +kernel
theorem dL_law_1059 : decode cL_law 1059 = .ok (.goto 1546, 3) := by decide +kernel
theorem dL_law_1062 : decode cL_law 1062 = .ok (.aload_n 1, 1) := by decide +kernel
theorem dL_law_1063 : decode cL_law 1063 = .ok (.aload_n 0, 1) := by decide +kernel
theorem dL_law_1064 : decode cL_law 1064 = .ok (.iload 4, 2) := by decide +kernel
theorem dL_law_1066 : decode cL_law 1066 = .ok (.iconst 1, 1) := by decide +kernel
theorem dL_law_1067 : decode cL_law 1067 = .ok (.iadd, 1) := by decide +kernel
theorem dL_law_1068 : decode cL_law 1068 = .ok (.iaload, 1) := by decide +kernel
theorem dL_law_1069 : decode cL_law 1069 = .ok (.aload_n 3, 1) := by decide +kernel
theorem dL_law_1070 : decode cL_law 1070 = .ok (.invokestatic 203, 3) := by decide +kernel
theorem dL_law_1073 : decode cL_law 1073 = .ok (.istore 5, 2) := by decide +kernel
theorem dL_law_1075 : decode cL_law 1075 = .ok (.aload_n 2, 1) := by decide +kernel
theorem dL_law_1076 : decode cL_law 1076 = .ok (.aload_n 0, 1) := by decide +kernel
theorem dL_law_1077 : decode cL_law 1077 = .ok (.iload 4, 2) := by decide +kernel
theorem dL_law_1079 : decode cL_law 1079 = .ok (.iconst 1, 1) := by decide +kernel
theorem dL_law_1080 : decode cL_law 1080 = .ok (.iadd, 1) := by decide +kernel
theorem dL_law_1081 : decode cL_law 1081 = .ok (.iaload, 1) := by decide +kernel
theorem dL_law_1082 : decode cL_law 1082 = .ok (.invokevirtual 205, 3) := by decide +kernel
theorem dL_law_1085 : decode cL_law 1085 = .ok (.istore 6, 2) := by decide +kernel
theorem dL_law_1087 : decode cL_law 1087 = .ok (.aload_n 2, 1) := by decide +kernel
theorem dL_law_1088 : decode cL_law 1088 = .ok (.invokevirtual 142, 3) := by decide +kernel
theorem dL_law_1091 : decode cL_law 1091 = .ok (.iload 5, 2) := by decide +kernel
theorem dL_law_1093 : decode cL_law 1093 = .ok (.if_icmp .eq 5, 3) := by decide +kernel
theorem dL_law_1096 : decode cL_law 1096 = .ok (.iconst 0, 1) := by decide +kernel
theorem dL_law_1097 : decode cL_law 1097 = .ok (.ireturn, 1) := by decide +kernel
theorem dL_law_1098 : decode cL_law 1098 = .ok (.iload 5, 2) := by decide +kernel
theorem dL_law_1100 : decode cL_law 1100 = .ok (.ifCond .ne 22, 3) := by decide +kernel
theorem dL_law_1103 : decode cL_law 1103 = .ok (.aload_n 3, 1) := by decide +kernel
theorem dL_law_1104 : decode cL_law 1104 = .ok (.iconst 0, 1) := by decide +kernel
theorem dL_law_1105 : decode cL_law 1105 = .ok (.laload, 1) := by decide +kernel
theorem dL_law_1106 : decode cL_law 1106 = .ok (.iload 6, 2) := by decide +kernel
theorem dL_law_1108 : decode cL_law 1108 = .ok (.ifCond .eq 7, 3) := by decide +kernel
theorem dL_law_1111 : decode cL_law 1111 = .ok (.lconst 1, 1) := by decide +kernel
theorem dL_law_1112 : decode cL_law 1112 = .ok (.goto 4, 3) := by decide +kernel
theorem dL_law_1115 : decode cL_law 1115 = .ok (.lconst 0, 1) := by decide +kernel
theorem dL_law_1116 : decode cL_law 1116 = .ok (.lcmp, 1) := by decide +kernel
theorem dL_law_1117 : decode cL_law 1117 = .ok (.ifCond .eq 5, 3) := by decide +kernel
theorem dL_law_1120 : decode cL_law 1120 = .ok (.iconst 0, 1) := by decide +kernel
theorem dL_law_1121 : decode cL_law 1121 = .ok (.ireturn, 1) := by decide +kernel
theorem dL_law_1122 : decode cL_law 1122 = .ok (.goto 1483, 3) := by decide +kernel
theorem dL_law_1125 : decode cL_law 1125 = .ok (.aload_n 1, 1) := by decide +kernel
theorem dL_law_1126 : decode cL_law 1126 = .ok (.aload_n 0, 1) := by decide +kernel
theorem dL_law_1127 : decode cL_law 1127 = .ok (.iload 4, 2) := by decide +kernel
theorem dL_law_1129 : decode cL_law 1129 = .ok (.iconst 1, 1) := by decide +kernel
theorem dL_law_1130 : decode cL_law 1130 = .ok (.iadd, 1) := by decide +kernel
theorem dL_law_1131 : decode cL_law 1131 = .ok (.iaload, 1) := by decide +kernel
theorem dL_law_1132 : decode cL_law 1132 = .ok (.aload_n 3, 1) := by decide +kernel
theorem dL_law_1133 : decode cL_law 1133 = .ok (.invokestatic 206, 3) := by decide +kernel
theorem dL_law_1136 : decode cL_law 1136 = .ok (.istore 5, 2) := by decide +kernel
theorem dL_law_1138 : decode cL_law 1138 = .ok (.aload_n 2, 1) := by decide +kernel
theorem dL_law_1139 : decode cL_law 1139 = .ok (.aload_n 0, 1) := by decide +kernel
theorem dL_law_1140 : decode cL_law 1140 = .ok (.iload 4, 2) := by decide +kernel
theorem dL_law_1142 : decode cL_law 1142 = .ok (.iconst 1, 1) := by decide +kernel
theorem dL_law_1143 : decode cL_law 1143 = .ok (.iadd, 1) := by decide +kernel
theorem dL_law_1144 : decode cL_law 1144 = .ok (.iaload, 1) := by decide +kernel
theorem dL_law_1145 : decode cL_law 1145 = .ok (.invokevirtual 208, 3) := by decide +kernel
theorem dL_law_1148 : decode cL_law 1148 = .ok (.istore 6, 2) := by decide +kernel
theorem dL_law_1150 : decode cL_law 1150 = .ok (.aload_n 2, 1) := by decide +kernel
theorem dL_law_1151 : decode cL_law 1151 = .ok (.invokevirtual 142, 3) := by decide +kernel
theorem dL_law_1154 : decode cL_law 1154 = .ok (.iload 5, 2) := by decide +kernel
theorem dL_law_1156 : decode cL_law 1156 = .ok (.if_icmp .eq 5, 3) := by decide +kernel
theorem dL_law_1159 : decode cL_law 1159 = .ok (.iconst 0, 1) := by decide +kernel
theorem dL_law_1160 : decode cL_law 1160 = .ok (.ireturn, 1) := by decide +kernel
theorem dL_law_1161 : decode cL_law 1161 = .ok (.iload 5, 2) := by decide +kernel
theorem dL_law_1163 : decode cL_law 1163 = .ok (.ifCond .ne 15, 3) := by decide +kernel
theorem dL_law_1166 : decode cL_law 1166 = .ok (.aload_n 3, 1) := by decide +kernel
theorem dL_law_1167 : decode cL_law 1167 = .ok (.iconst 0, 1) := by decide +kernel
theorem dL_law_1168 : decode cL_law 1168 = .ok (.laload, 1) := by decide +kernel
theorem dL_law_1169 : decode cL_law 1169 = .ok (.iload 6, 2) := by decide +kernel
theorem dL_law_1171 : decode cL_law 1171 = .ok (.i2l, 1) := by decide +kernel
theorem dL_law_1172 : decode cL_law 1172 = .ok (.lcmp, 1) := by decide +kernel
theorem dL_law_1173 : decode cL_law 1173 = .ok (.ifCond .eq 5, 3) := by decide +kernel
theorem dL_law_1176 : decode cL_law 1176 = .ok (.iconst 0, 1) := by decide +kernel
theorem dL_law_1177 : decode cL_law 1177 = .ok (.ireturn, 1) := by decide +kernel
theorem dL_law_1178 : decode cL_law 1178 = .ok (.goto 1427, 3) := by decide +kernel
theorem dL_law_1181 : decode cL_law 1181 = .ok (.aload_n 1, 1) := by decide +kernel
theorem dL_law_1182 : decode cL_law 1182 = .ok (.aload_n 0, 1) := by decide +kernel
theorem dL_law_1183 : decode cL_law 1183 = .ok (.iload 4, 2) := by decide +kernel
theorem dL_law_1185 : decode cL_law 1185 = .ok (.iconst 1, 1) := by decide +kernel
theorem dL_law_1186 : decode cL_law 1186 = .ok (.iadd, 1) := by decide +kernel
theorem dL_law_1187 : decode cL_law 1187 = .ok (.iaload, 1) := by decide +kernel
theorem dL_law_1188 : decode cL_law 1188 = .ok (.aload_n 3, 1) := by decide +kernel
theorem dL_law_1189 : decode cL_law 1189 = .ok (.invokestatic 209, 3) := by decide +kernel
theorem dL_law_1192 : decode cL_law 1192 = .ok (.istore 5, 2) := by decide +kernel
theorem dL_law_1194 : decode cL_law 1194 = .ok (.aload_n 2, 1) := by decide +kernel
theorem dL_law_1195 : decode cL_law 1195 = .ok (.aload_n 0, 1) := by decide +kernel
theorem dL_law_1196 : decode cL_law 1196 = .ok (.iload 4, 2) := by decide +kernel
theorem dL_law_1198 : decode cL_law 1198 = .ok (.iconst 1, 1) := by decide +kernel
theorem dL_law_1199 : decode cL_law 1199 = .ok (.iadd, 1) := by decide +kernel
theorem dL_law_1200 : decode cL_law 1200 = .ok (.iaload, 1) := by decide +kernel
theorem dL_law_1201 : decode cL_law 1201 = .ok (.invokevirtual 211, 3) := by decide +kernel
theorem dL_law_1204 : decode cL_law 1204 = .ok (.istore 6, 2) := by decide +kernel
theorem dL_law_1206 : decode cL_law 1206 = .ok (.aload_n 2, 1) := by decide +kernel
theorem dL_law_1207 : decode cL_law 1207 = .ok (.invokevirtual 142, 3) := by decide +kernel
theorem dL_law_1210 : decode cL_law 1210 = .ok (.iload 5, 2) := by decide +kernel
theorem dL_law_1212 : decode cL_law 1212 = .ok (.if_icmp .eq 5, 3) := by decide +kernel
theorem dL_law_1215 : decode cL_law 1215 = .ok (.iconst 0, 1) := by decide +kernel
theorem dL_law_1216 : decode cL_law 1216 = .ok (.ireturn, 1) := by decide +kernel
theorem dL_law_1217 : decode cL_law 1217 = .ok (.iload 5, 2) := by decide +kernel
theorem dL_law_1219 : decode cL_law 1219 = .ok (.ifCond .ne 15, 3) := by decide +kernel
theorem dL_law_1222 : decode cL_law 1222 = .ok (.aload_n 3, 1) := by decide +kernel
theorem dL_law_1223 : decode cL_law 1223 = .ok (.iconst 0, 1) := by decide +kernel
theorem dL_law_1224 : decode cL_law 1224 = .ok (.laload, 1) := by decide +kernel
theorem dL_law_1225 : decode cL_law 1225 = .ok (.iload 6, 2) := by decide +kernel
theorem dL_law_1227 : decode cL_law 1227 = .ok (.i2l, 1) := by decide +kernel
theorem dL_law_1228 : decode cL_law 1228 = .ok (.lcmp, 1) := by decide +kernel
theorem dL_law_1229 : decode cL_law 1229 = .ok (.ifCond .eq 5, 3) := by decide +kernel
theorem dL_law_1232 : decode cL_law 1232 = .ok (.iconst 0, 1) := by decide +kernel
theorem dL_law_1233 : decode cL_law 1233 = .ok (.ireturn, 1) := by decide +kernel
theorem dL_law_1234 : decode cL_law 1234 = .ok (.goto 1371, 3) := by decide +kernel
theorem dL_law_1237 : decode cL_law 1237 = .ok (.aload_n 1, 1) := by decide +kernel
theorem dL_law_1238 : decode cL_law 1238 = .ok (.aload_n 0, 1) := by decide +kernel
theorem dL_law_1239 : decode cL_law 1239 = .ok (.iload 4, 2) := by decide +kernel
theorem dL_law_1241 : decode cL_law 1241 = .ok (.iconst 1, 1) := by decide +kernel
theorem dL_law_1242 : decode cL_law 1242 = .ok (.iadd, 1) := by decide +kernel
theorem dL_law_1243 : decode cL_law 1243 = .ok (.iaload, 1) := by decide +kernel
theorem dL_law_1244 : decode cL_law 1244 = .ok (.aload_n 0, 1) := by decide +kernel
theorem dL_law_1245 : decode cL_law 1245 = .ok (.iload 4, 2) := by decide +kernel
theorem dL_law_1247 : decode cL_law 1247 = .ok (.iconst 2, 1) := by decide +kernel
theorem dL_law_1248 : decode cL_law 1248 = .ok (.iadd, 1) := by decide +kernel
theorem dL_law_1249 : decode cL_law 1249 = .ok (.iaload, 1) := by decide +kernel
theorem dL_law_1250 : decode cL_law 1250 = .ok (.aload_n 3, 1) := by decide +kernel
theorem dL_law_1251 : decode cL_law 1251 = .ok (.invokestatic 212, 3) := by decide +kernel
theorem dL_law_1254 : decode cL_law 1254 = .ok (.istore 5, 2) := by decide +kernel
theorem dL_law_1256 : decode cL_law 1256 = .ok (.aload_n 2, 1) := by decide +kernel
theorem dL_law_1257 : decode cL_law 1257 = .ok (.aload_n 0, 1) := by decide +kernel
theorem dL_law_1258 : decode cL_law 1258 = .ok (.iload 4, 2) := by decide +kernel
theorem dL_law_1260 : decode cL_law 1260 = .ok (.iconst 1, 1) := by decide +kernel
theorem dL_law_1261 : decode cL_law 1261 = .ok (.iadd, 1) := by decide +kernel
theorem dL_law_1262 : decode cL_law 1262 = .ok (.iaload, 1) := by decide +kernel
theorem dL_law_1263 : decode cL_law 1263 = .ok (.aload_n 0, 1) := by decide +kernel
theorem dL_law_1264 : decode cL_law 1264 = .ok (.iload 4, 2) := by decide +kernel
theorem dL_law_1266 : decode cL_law 1266 = .ok (.iconst 2, 1) := by decide +kernel
theorem dL_law_1267 : decode cL_law 1267 = .ok (.iadd, 1) := by decide +kernel
theorem dL_law_1268 : decode cL_law 1268 = .ok (.iaload, 1) := by decide +kernel
theorem dL_law_1269 : decode cL_law 1269 = .ok (.invokevirtual 214, 3) := by decide +kernel
theorem dL_law_1272 : decode cL_law 1272 = .ok (.istore 6, 2) := by decide +kernel
theorem dL_law_1274 : decode cL_law 1274 = .ok (.aload_n 2, 1) := by decide +kernel
theorem dL_law_1275 : decode cL_law 1275 = .ok (.invokevirtual 142, 3) := by decide +kernel
theorem dL_law_1278 : decode cL_law 1278 = .ok (.iload 5, 2) := by decide +kernel
theorem dL_law_1280 : decode cL_law 1280 = .ok (.if_icmp .eq 5, 3) := by decide +kernel
theorem dL_law_1283 : decode cL_law 1283 = .ok (.iconst 0, 1) := by decide +kernel
theorem dL_law_1284 : decode cL_law 1284 = .ok (.ireturn, 1) := by decide +kernel
theorem dL_law_1285 : decode cL_law 1285 = .ok (.iload 5, 2) := by decide +kernel
theorem dL_law_1287 : decode cL_law 1287 = .ok (.ifCond .ne 15, 3) := by decide +kernel
theorem dL_law_1290 : decode cL_law 1290 = .ok (.aload_n 3, 1) := by decide +kernel
theorem dL_law_1291 : decode cL_law 1291 = .ok (.iconst 0, 1) := by decide +kernel
theorem dL_law_1292 : decode cL_law 1292 = .ok (.laload, 1) := by decide +kernel
theorem dL_law_1293 : decode cL_law 1293 = .ok (.iload 6, 2) := by decide +kernel
theorem dL_law_1295 : decode cL_law 1295 = .ok (.i2l, 1) := by decide +kernel
theorem dL_law_1296 : decode cL_law 1296 = .ok (.lcmp, 1) := by decide +kernel
theorem dL_law_1297 : decode cL_law 1297 = .ok (.ifCond .eq 5, 3) := by decide +kernel
theorem dL_law_1300 : decode cL_law 1300 = .ok (.iconst 0, 1) := by decide +kernel
theorem dL_law_1301 : decode cL_law 1301 = .ok (.ireturn, 1) := by decide +kernel
theorem dL_law_1302 : decode cL_law 1302 = .ok (.goto 1303, 3) := by decide +kernel
theorem dL_law_1305 : decode cL_law 1305 = .ok (.aload_n 1, 1) := by decide +kernel
theorem dL_law_1306 : decode cL_law 1306 = .ok (.aload_n 0, 1) := by decide +kernel
theorem dL_law_1307 : decode cL_law 1307 = .ok (.iload 4, 2) := by decide +kernel
theorem dL_law_1309 : decode cL_law 1309 = .ok (.iconst 1, 1) := by decide +kernel
theorem dL_law_1310 : decode cL_law 1310 = .ok (.iadd, 1) := by decide +kernel
theorem dL_law_1311 : decode cL_law 1311 = .ok (.iaload, 1) := by decide +kernel
theorem dL_law_1312 : decode cL_law 1312 = .ok (.aload_n 0, 1) := by decide +kernel
theorem dL_law_1313 : decode cL_law 1313 = .ok (.iload 4, 2) := by decide +kernel
theorem dL_law_1315 : decode cL_law 1315 = .ok (.iconst 2, 1) := by decide +kernel
theorem dL_law_1316 : decode cL_law 1316 = .ok (.iadd, 1) := by decide +kernel
theorem dL_law_1317 : decode cL_law 1317 = .ok (.iaload, 1) := by decide +kernel
theorem dL_law_1318 : decode cL_law 1318 = .ok (.aload_n 3, 1) := by decide +kernel
theorem dL_law_1319 : decode cL_law 1319 = .ok (.invokestatic 215, 3) := by decide +kernel
theorem dL_law_1322 : decode cL_law 1322 = .ok (.istore 5, 2) := by decide +kernel
theorem dL_law_1324 : decode cL_law 1324 = .ok (.aload_n 2, 1) := by decide +kernel
theorem dL_law_1325 : decode cL_law 1325 = .ok (.aload_n 0, 1) := by decide +kernel
theorem dL_law_1326 : decode cL_law 1326 = .ok (.iload 4, 2) := by decide +kernel
theorem dL_law_1328 : decode cL_law 1328 = .ok (.iconst 1, 1) := by decide +kernel
theorem dL_law_1329 : decode cL_law 1329 = .ok (.iadd, 1) := by decide +kernel
theorem dL_law_1330 : decode cL_law 1330 = .ok (.iaload, 1) := by decide +kernel
theorem dL_law_1331 : decode cL_law 1331 = .ok (.aload_n 0, 1) := by decide +kernel
theorem dL_law_1332 : decode cL_law 1332 = .ok (.iload 4, 2) := by decide +kernel
theorem dL_law_1334 : decode cL_law 1334 = .ok (.iconst 2, 1) := by decide +kernel
theorem dL_law_1335 : decode cL_law 1335 = .ok (.iadd, 1) := by decide +kernel
theorem dL_law_1336 : decode cL_law 1336 = .ok (.iaload, 1) := by decide +kernel
theorem dL_law_1337 : decode cL_law 1337 = .ok (.invokevirtual 217, 3) := by decide +kernel
theorem dL_law_1340 : decode cL_law 1340 = .ok (.istore 6, 2) := by decide +kernel
theorem dL_law_1342 : decode cL_law 1342 = .ok (.aload_n 2, 1) := by decide +kernel
theorem dL_law_1343 : decode cL_law 1343 = .ok (.invokevirtual 142, 3) := by decide +kernel
theorem dL_law_1346 : decode cL_law 1346 = .ok (.iload 5, 2) := by decide +kernel
theorem dL_law_1348 : decode cL_law 1348 = .ok (.if_icmp .eq 5, 3) := by decide +kernel
theorem dL_law_1351 : decode cL_law 1351 = .ok (.iconst 0, 1) := by decide +kernel
theorem dL_law_1352 : decode cL_law 1352 = .ok (.ireturn, 1) := by decide +kernel
theorem dL_law_1353 : decode cL_law 1353 = .ok (.iload 5, 2) := by decide +kernel
theorem dL_law_1355 : decode cL_law 1355 = .ok (.ifCond .ne 15, 3) := by decide +kernel
theorem dL_law_1358 : decode cL_law 1358 = .ok (.aload_n 3, 1) := by decide +kernel
theorem dL_law_1359 : decode cL_law 1359 = .ok (.iconst 0, 1) := by decide +kernel
theorem dL_law_1360 : decode cL_law 1360 = .ok (.laload, 1) := by decide +kernel
theorem dL_law_1361 : decode cL_law 1361 = .ok (.iload 6, 2) := by decide +kernel
theorem dL_law_1363 : decode cL_law 1363 = .ok (.i2l, 1) := by decide +kernel
theorem dL_law_1364 : decode cL_law 1364 = .ok (.lcmp, 1) := by decide +kernel
theorem dL_law_1365 : decode cL_law 1365 = .ok (.ifCond .eq 5, 3) := by decide +kernel
theorem dL_law_1368 : decode cL_law 1368 = .ok (.iconst 0, 1) := by decide +kernel
theorem dL_law_1369 : decode cL_law 1369 = .ok (.ireturn, 1) := by decide +kernel
theorem dL_law_1370 : decode cL_law 1370 = .ok (.goto 1235, 3) := by decide +kernel
theorem dL_law_1373 : decode cL_law 1373 = .ok (.aload_n 1, 1) := by decide +kernel
theorem dL_law_1374 : decode cL_law 1374 = .ok (.aload_n 0, 1) := by decide +kernel
theorem dL_law_1375 : decode cL_law 1375 = .ok (.iload 4, 2) := by decide +kernel
theorem dL_law_1377 : decode cL_law 1377 = .ok (.iconst 1, 1) := by decide +kernel
theorem dL_law_1378 : decode cL_law 1378 = .ok (.iadd, 1) := by decide +kernel
theorem dL_law_1379 : decode cL_law 1379 = .ok (.iaload, 1) := by decide +kernel
theorem dL_law_1380 : decode cL_law 1380 = .ok (.aload_n 3, 1) := by decide +kernel
theorem dL_law_1381 : decode cL_law 1381 = .ok (.invokestatic 218, 3) := by decide +kernel
theorem dL_law_1384 : decode cL_law 1384 = .ok (.istore 5, 2) := by decide +kernel
theorem dL_law_1386 : decode cL_law 1386 = .ok (.aload_n 2, 1) := by decide +kernel
theorem dL_law_1387 : decode cL_law 1387 = .ok (.aload_n 0, 1) := by decide +kernel
theorem dL_law_1388 : decode cL_law 1388 = .ok (.iload 4, 2) := by decide +kernel
theorem dL_law_1390 : decode cL_law 1390 = .ok (.iconst 1, 1) := by decide +kernel
theorem dL_law_1391 : decode cL_law 1391 = .ok (.iadd, 1) := by decide +kernel
theorem dL_law_1392 : decode cL_law 1392 = .ok (.iaload, 1) := by decide +kernel
theorem dL_law_1393 : decode cL_law 1393 = .ok (.invokevirtual 220, 3) := by decide +kernel
theorem dL_law_1396 : decode cL_law 1396 = .ok (.istore 6, 2) := by decide +kernel
theorem dL_law_1398 : decode cL_law 1398 = .ok (.aload_n 2, 1) := by decide +kernel
theorem dL_law_1399 : decode cL_law 1399 = .ok (.invokevirtual 142, 3) := by decide +kernel
theorem dL_law_1402 : decode cL_law 1402 = .ok (.iload 5, 2) := by decide +kernel
theorem dL_law_1404 : decode cL_law 1404 = .ok (.if_icmp .eq 5, 3) := by decide +kernel
theorem dL_law_1407 : decode cL_law 1407 = .ok (.iconst 0, 1) := by decide +kernel
theorem dL_law_1408 : decode cL_law 1408 = .ok (.ireturn, 1) := by decide +kernel
theorem dL_law_1409 : decode cL_law 1409 = .ok (.iload 5, 2) := by decide +kernel
theorem dL_law_1411 : decode cL_law 1411 = .ok (.ifCond .ne 15, 3) := by decide +kernel
theorem dL_law_1414 : decode cL_law 1414 = .ok (.aload_n 3, 1) := by decide +kernel
theorem dL_law_1415 : decode cL_law 1415 = .ok (.iconst 0, 1) := by decide +kernel
theorem dL_law_1416 : decode cL_law 1416 = .ok (.laload, 1) := by decide +kernel
theorem dL_law_1417 : decode cL_law 1417 = .ok (.iload 6, 2) := by decide +kernel
theorem dL_law_1419 : decode cL_law 1419 = .ok (.i2l, 1) := by decide +kernel
theorem dL_law_1420 : decode cL_law 1420 = .ok (.lcmp, 1) := by decide +kernel
theorem dL_law_1421 : decode cL_law 1421 = .ok (.ifCond .eq 5, 3) := by decide +kernel
theorem dL_law_1424 : decode cL_law 1424 = .ok (.iconst 0, 1) := by decide +kernel
theorem dL_law_1425 : decode cL_law 1425 = .ok (.ireturn, 1) := by decide +kernel
theorem dL_law_1426 : decode cL_law 1426 = .ok (.goto 1179, 3) := by decide +kernel
theorem dL_law_1429 : decode cL_law 1429 = .ok (.aload_n 1, 1) := by decide +kernel
theorem dL_law_1430 : decode cL_law 1430 = .ok (.aload_n 0, 1) := by decide +kernel
theorem dL_law_1431 : decode cL_law 1431 = .ok (.iload 4, 2) := by decide +kernel
theorem dL_law_1433 : decode cL_law 1433 = .ok (.iconst 1, 1) := by decide +kernel
theorem dL_law_1434 : decode cL_law 1434 = .ok (.iadd, 1) := by decide +kernel
theorem dL_law_1435 : decode cL_law 1435 = .ok (.iaload, 1) := by decide +kernel
theorem dL_law_1436 : decode cL_law 1436 = .ok (.aload_n 3, 1) := by decide +kernel
theorem dL_law_1437 : decode cL_law 1437 = .ok (.invokestatic 221, 3) := by decide +kernel
theorem dL_law_1440 : decode cL_law 1440 = .ok (.istore 5, 2) := by decide +kernel
theorem dL_law_1442 : decode cL_law 1442 = .ok (.aload_n 2, 1) := by decide +kernel
theorem dL_law_1443 : decode cL_law 1443 = .ok (.aload_n 0, 1) := by decide +kernel
theorem dL_law_1444 : decode cL_law 1444 = .ok (.iload 4, 2) := by decide +kernel
theorem dL_law_1446 : decode cL_law 1446 = .ok (.iconst 1, 1) := by decide +kernel
theorem dL_law_1447 : decode cL_law 1447 = .ok (.iadd, 1) := by decide +kernel
theorem dL_law_1448 : decode cL_law 1448 = .ok (.iaload, 1) := by decide +kernel
theorem dL_law_1449 : decode cL_law 1449 = .ok (.invokevirtual 223, 3) := by decide +kernel
theorem dL_law_1452 : decode cL_law 1452 = .ok (.istore 6, 2) := by decide +kernel
theorem dL_law_1454 : decode cL_law 1454 = .ok (.aload_n 2, 1) := by decide +kernel
theorem dL_law_1455 : decode cL_law 1455 = .ok (.invokevirtual 142, 3) := by decide +kernel
theorem dL_law_1458 : decode cL_law 1458 = .ok (.iload 5, 2) := by decide +kernel
theorem dL_law_1460 : decode cL_law 1460 = .ok (.if_icmp .eq 5, 3) := by decide +kernel
theorem dL_law_1463 : decode cL_law 1463 = .ok (.iconst 0, 1) := by decide +kernel
theorem dL_law_1464 : decode cL_law 1464 = .ok (.ireturn, 1) := by decide +kernel
theorem dL_law_1465 : decode cL_law 1465 = .ok (.iload 5, 2) := by decide +kernel
theorem dL_law_1467 : decode cL_law 1467 = .ok (.ifCond .ne 15, 3) := by decide +kernel
theorem dL_law_1470 : decode cL_law 1470 = .ok (.aload_n 3, 1) := by decide +kernel
theorem dL_law_1471 : decode cL_law 1471 = .ok (.iconst 0, 1) := by decide +kernel
theorem dL_law_1472 : decode cL_law 1472 = .ok (.laload, 1) := by decide +kernel
theorem dL_law_1473 : decode cL_law 1473 = .ok (.iload 6, 2) := by decide +kernel
theorem dL_law_1475 : decode cL_law 1475 = .ok (.i2l, 1) := by decide +kernel
theorem dL_law_1476 : decode cL_law 1476 = .ok (.lcmp, 1) := by decide +kernel
theorem dL_law_1477 : decode cL_law 1477 = .ok (.ifCond .eq 5, 3) := by decide +kernel
theorem dL_law_1480 : decode cL_law 1480 = .ok (.iconst 0, 1) := by decide +kernel
theorem dL_law_1481 : decode cL_law 1481 = .ok (.ireturn, 1) := by decide +kernel
theorem dL_law_1482 : decode cL_law 1482 = .ok (.goto 1123, 3) := by decide +kernel
theorem dL_law_1485 : decode cL_law 1485 = .ok (.aload_n 1, 1) := by decide +kernel
theorem dL_law_1486 : decode cL_law 1486 = .ok (.invokevirtual 224, 3) := by decide +kernel
theorem dL_law_1489 : decode cL_law 1489 = .ok (.aload_n 2, 1) := by decide +kernel
theorem dL_law_1490 : decode cL_law 1490 = .ok (.invokevirtual 227, 3) := by decide +kernel
theorem dL_law_1493 : decode cL_law 1493 = .ok (.if_icmp .eq 1112, 3) := by decide +kernel
theorem dL_law_1496 : decode cL_law 1496 = .ok (.iconst 0, 1) := by decide +kernel
theorem dL_law_1497 : decode cL_law 1497 = .ok (.ireturn, 1) := by decide +kernel
theorem dL_law_1498 : decode cL_law 1498 = .ok (.aload_n 1, 1) := by decide +kernel
theorem dL_law_1499 : decode cL_law 1499 = .ok (.aload_n 0, 1) := by decide +kernel
theorem dL_law_1500 : decode cL_law 1500 = .ok (.iload 4, 2) := by decide +kernel
theorem dL_law_1502 : decode cL_law 1502 = .ok (.iconst 1, 1) := by decide +kernel
theorem dL_law_1503 : decode cL_law 1503 = .ok (.iadd, 1) := by decide +kernel
theorem dL_law_1504 : decode cL_law 1504 = .ok (.iaload, 1) := by decide +kernel
theorem dL_law_1505 : decode cL_law 1505 = .ok (.aload_n 3, 1) := by decide +kernel
theorem dL_law_1506 : decode cL_law 1506 = .ok (.invokestatic 228, 3) := by decide +kernel
theorem dL_law_1509 : decode cL_law 1509 = .ok (.istore 5, 2) := by decide +kernel
theorem dL_law_1511 : decode cL_law 1511 = .ok (.aload_n 2, 1) := by decide +kernel
theorem dL_law_1512 : decode cL_law 1512 = .ok (.aload_n 0, 1) := by decide +kernel
theorem dL_law_1513 : decode cL_law 1513 = .ok (.iload 4, 2) := by decide +kernel
theorem dL_law_1515 : decode cL_law 1515 = .ok (.iconst 1, 1) := by decide +kernel
theorem dL_law_1516 : decode cL_law 1516 = .ok (.iadd, 1) := by decide +kernel
theorem dL_law_1517 : decode cL_law 1517 = .ok (.iaload, 1) := by decide +kernel
theorem dL_law_1518 : decode cL_law 1518 = .ok (.invokevirtual 230, 3) := by decide +kernel
theorem dL_law_1521 : decode cL_law 1521 = .ok (.istore 6, 2) := by decide +kernel
theorem dL_law_1523 : decode cL_law 1523 = .ok (.aload_n 2, 1) := by decide +kernel
theorem dL_law_1524 : decode cL_law 1524 = .ok (.invokevirtual 142, 3) := by decide +kernel
theorem dL_law_1527 : decode cL_law 1527 = .ok (.iload 5, 2) := by decide +kernel
theorem dL_law_1529 : decode cL_law 1529 = .ok (.if_icmp .eq 5, 3) := by decide +kernel
theorem dL_law_1532 : decode cL_law 1532 = .ok (.iconst 0, 1) := by decide +kernel
theorem dL_law_1533 : decode cL_law 1533 = .ok (.ireturn, 1) := by decide +kernel
theorem dL_law_1534 : decode cL_law 1534 = .ok (.iload 5, 2) := by decide +kernel
theorem dL_law_1536 : decode cL_law 1536 = .ok (.ifCond .ne 15, 3) := by decide +kernel
theorem dL_law_1539 : decode cL_law 1539 = .ok (.aload_n 3, 1) := by decide +kernel
theorem dL_law_1540 : decode cL_law 1540 = .ok (.iconst 0, 1) := by decide +kernel
theorem dL_law_1541 : decode cL_law 1541 = .ok (.laload, 1) := by decide +kernel
theorem dL_law_1542 : decode cL_law 1542 = .ok (.iload 6, 2) := by decide +kernel
theorem dL_law_1544 : decode cL_law 1544 = .ok (.i2l, 1) := by decide +kernel
theorem dL_law_1545 : decode cL_law 1545 = .ok (.lcmp, 1) := by decide +kernel
theorem dL_law_1546 : decode cL_law 1546 = .ok (.ifCond .eq 5, 3) := by decide +kernel
theorem dL_law_1549 : decode cL_law 1549 = .ok (.iconst 0, 1) := by decide +kernel
theorem dL_law_1550 : decode cL_law 1550 = .ok (.ireturn, 1) := by decide +kernel
theorem dL_law_1551 : decode cL_law 1551 = .ok (.goto 1054, 3) := by decide +kernel
theorem dL_law_1554 : decode cL_law 1554 = .ok (.aload_n 1, 1) := by decide +kernel
theorem dL_law_1555 : decode cL_law 1555 = .ok (.invokevirtual 231, 3) := by decide +kernel
theorem dL_law_1558 : decode cL_law 1558 = .ok (.aload_n 2, 1) := by decide +kernel
theorem dL_law_1559 : decode cL_law 1559 = .ok (.invokevirtual 234, 3) := by decide +kernel
theorem dL_law_1562 : decode cL_law 1562 = .ok (.if_icmp .eq 1043, 3) := by decide +kernel
theorem dL_law_1565 : decode cL_law 1565 = .ok (.iconst 0, 1) := by decide +kernel
theorem dL_law_1566 : decode cL_law 1566 = .ok (.ireturn, 1) := by decide +kernel
theorem dL_law_1567 : decode cL_law 1567 = .ok (.aload_n 1, 1) := by decide +kernel
theorem dL_law_1568 : decode cL_law 1568 = .ok (.aload_n 0, 1) := by decide +kernel
theorem dL_law_1569 : decode cL_law 1569 = .ok (.iload 4, 2) := by decide +kernel
theorem dL_law_1571 : decode cL_law 1571 = .ok (.iconst 1, 1) := by decide +kernel
theorem dL_law_1572 : decode cL_law 1572 = .ok (.iadd, 1) := by decide +kernel
theorem dL_law_1573 : decode cL_law 1573 = .ok (.iaload, 1) := by decide +kernel
theorem dL_law_1574 : decode cL_law 1574 = .ok (.aload_n 3, 1) := by decide +kernel
theorem dL_law_1575 : decode cL_law 1575 = .ok (.invokestatic 235, 3) := by decide +kernel
theorem dL_law_1578 : decode cL_law 1578 = .ok (.istore 5, 2) := by decide +kernel
theorem dL_law_1580 : decode cL_law 1580 = .ok (.aload_n 2, 1) := by decide +kernel
theorem dL_law_1581 : decode cL_law 1581 = .ok (.aload_n 0, 1) := by decide +kernel
theorem dL_law_1582 : decode cL_law 1582 = .ok (.iload 4, 2) := by decide +kernel
theorem dL_law_1584 : decode cL_law 1584 = .ok (.iconst 1, 1) := by decide +kernel
theorem dL_law_1585 : decode cL_law 1585 = .ok (.iadd, 1) := by decide +kernel
theorem dL_law_1586 : decode cL_law 1586 = .ok (.iaload, 1) := by decide +kernel
theorem dL_law_1587 : decode cL_law 1587 = .ok (.invokevirtual 237, 3) := by decide +kernel
theorem dL_law_1590 : decode cL_law 1590 = .ok (.istore 6, 2) := by decide +kernel
theorem dL_law_1592 : decode cL_law 1592 = .ok (.aload_n 2, 1) := by decide +kernel
theorem dL_law_1593 : decode cL_law 1593 = .ok (.invokevirtual 142, 3) := by decide +kernel
theorem dL_law_1596 : decode cL_law 1596 = .ok (.iload 5, 2) := by decide +kernel
theorem dL_law_1598 : decode cL_law 1598 = .ok (.if_icmp .eq 5, 3) := by decide +kernel
theorem dL_law_1601 : decode cL_law 1601 = .ok (.iconst 0, 1) := by decide +kernel
theorem dL_law_1602 : decode cL_law 1602 = .ok (.ireturn, 1) := by decide +kernel
theorem dL_law_1603 : decode cL_law 1603 = .ok (.iload 5, 2) := by decide +kernel
theorem dL_law_1605 : decode cL_law 1605 = .ok (.ifCond .ne 15, 3) := by decide +kernel
theorem dL_law_1608 : decode cL_law 1608 = .ok (.aload_n 3, 1) := by decide +kernel
theorem dL_law_1609 : decode cL_law 1609 = .ok (.iconst 0, 1) := by decide +kernel
theorem dL_law_1610 : decode cL_law 1610 = .ok (.laload, 1) := by decide +kernel
theorem dL_law_1611 : decode cL_law 1611 = .ok (.iload 6, 2) := by decide +kernel
theorem dL_law_1613 : decode cL_law 1613 = .ok (.i2l, 1) := by decide +kernel
theorem dL_law_1614 : decode cL_law 1614 = .ok (.lcmp, 1) := by decide +kernel
theorem dL_law_1615 : decode cL_law 1615 = .ok (.ifCond .eq 5, 3) := by decide +kernel
theorem dL_law_1618 : decode cL_law 1618 = .ok (.iconst 0, 1) := by decide +kernel
theorem dL_law_1619 : decode cL_law 1619 = .ok (.ireturn, 1) := by decide +kernel
theorem dL_law_1620 : decode cL_law 1620 = .ok (.goto 985, 3) := by decide +kernel
theorem dL_law_1623 : decode cL_law 1623 = .ok (.aload_n 1, 1) := by decide +kernel
theorem dL_law_1624 : decode cL_law 1624 = .ok (.aload_n 0, 1) := by decide +kernel
theorem dL_law_1625 : decode cL_law 1625 = .ok (.iload 4, 2) := by decide +kernel
theorem dL_law_1627 : decode cL_law 1627 = .ok (.iconst 1, 1) := by decide +kernel
theorem dL_law_1628 : decode cL_law 1628 = .ok (.iadd, 1) := by decide +kernel
theorem dL_law_1629 : decode cL_law 1629 = .ok (.iaload, 1) := by decide +kernel
theorem dL_law_1630 : decode cL_law 1630 = .ok (.aload_n 0, 1) := by decide +kernel
theorem dL_law_1631 : decode cL_law 1631 = .ok (.iload 4, 2) := by decide +kernel
theorem dL_law_1633 : decode cL_law 1633 = .ok (.iconst 2, 1) := by decide +kernel
theorem dL_law_1634 : decode cL_law 1634 = .ok (.iadd, 1) := by decide +kernel
theorem dL_law_1635 : decode cL_law 1635 = .ok (.iaload, 1) := by decide +kernel
theorem dL_law_1636 : decode cL_law 1636 = .ok (.aload_n 3, 1) := by decide +kernel
theorem dL_law_1637 : decode cL_law 1637 = .ok (.invokestatic 238, 3) := by decide +kernel
theorem dL_law_1640 : decode cL_law 1640 = .ok (.istore 5, 2) := by decide +kernel
theorem dL_law_1642 : decode cL_law 1642 = .ok (.aload_n 2, 1) := by decide +kernel
theorem dL_law_1643 : decode cL_law 1643 = .ok (.aload_n 0, 1) := by decide +kernel
theorem dL_law_1644 : decode cL_law 1644 = .ok (.iload 4, 2) := by decide +kernel
theorem dL_law_1646 : decode cL_law 1646 = .ok (.iconst 1, 1) := by decide +kernel
theorem dL_law_1647 : decode cL_law 1647 = .ok (.iadd, 1) := by decide +kernel
theorem dL_law_1648 : decode cL_law 1648 = .ok (.iaload, 1) := by decide +kernel
theorem dL_law_1649 : decode cL_law 1649 = .ok (.aload_n 0, 1) := by decide +kernel
theorem dL_law_1650 : decode cL_law 1650 = .ok (.iload 4, 2) := by decide +kernel
theorem dL_law_1652 : decode cL_law 1652 = .ok (.iconst 2, 1) := by decide +kernel
theorem dL_law_1653 : decode cL_law 1653 = .ok (.iadd, 1) := by decide +kernel
theorem dL_law_1654 : decode cL_law 1654 = .ok (.iaload, 1) := by decide +kernel
theorem dL_law_1655 : decode cL_law 1655 = .ok (.invokevirtual 240, 3) := by decide +kernel
theorem dL_law_1658 : decode cL_law 1658 = .ok (.istore 6, 2) := by decide +kernel
theorem dL_law_1660 : decode cL_law 1660 = .ok (.aload_n 2, 1) := by decide +kernel
theorem dL_law_1661 : decode cL_law 1661 = .ok (.invokevirtual 142, 3) := by decide +kernel
theorem dL_law_1664 : decode cL_law 1664 = .ok (.iload 5, 2) := by decide +kernel
theorem dL_law_1666 : decode cL_law 1666 = .ok (.if_icmp .eq 5, 3) := by decide +kernel
theorem dL_law_1669 : decode cL_law 1669 = .ok (.iconst 0, 1) := by decide +kernel
theorem dL_law_1670 : decode cL_law 1670 = .ok (.ireturn, 1) := by decide +kernel
theorem dL_law_1671 : decode cL_law 1671 = .ok (.iload 5, 2) := by decide +kernel
theorem dL_law_1673 : decode cL_law 1673 = .ok (.ifCond .ne 15, 3) := by decide +kernel
theorem dL_law_1676 : decode cL_law 1676 = .ok (.aload_n 3, 1) := by decide +kernel
theorem dL_law_1677 : decode cL_law 1677 = .ok (.iconst 0, 1) := by decide +kernel
theorem dL_law_1678 : decode cL_law 1678 = .ok (.laload, 1) := by decide +kernel
theorem dL_law_1679 : decode cL_law 1679 = .ok (.iload 6, 2) := by decide +kernel
theorem dL_law_1681 : decode cL_law 1681 = .ok (.i2l, 1) := by decide +kernel
theorem dL_law_1682 : decode cL_law 1682 = .ok (.lcmp, 1) := by decide +kernel
theorem dL_law_1683 : decode cL_law 1683 = .ok (.ifCond .eq 5, 3) := by decide +kernel
theorem dL_law_1686 : decode cL_law 1686 = .ok (.iconst 0, 1) := by decide +kernel
theorem dL_law_1687 : decode cL_law 1687 = .ok (.ireturn, 1) := by decide +kernel
theorem dL_law_1688 : decode cL_law 1688 = .ok (.goto 917, 3) := by decide +kernel
theorem dL_law_1691 : decode cL_law 1691 = .ok (.aload_n 1, 1) := by decide +kernel
theorem dL_law_1692 : decode cL_law 1692 = .ok (.aload_n 0, 1) := by decide +kernel
theorem dL_law_1693 : decode cL_law 1693 = .ok (.iload 4, 2) := by decide +kernel
theorem dL_law_1695 : decode cL_law 1695 = .ok (.iconst 1, 1) := by decide +kernel
theorem dL_law_1696 : decode cL_law 1696 = .ok (.iadd, 1) := by decide +kernel
theorem dL_law_1697 : decode cL_law 1697 = .ok (.iaload, 1) := by decide +kernel
theorem dL_law_1698 : decode cL_law 1698 = .ok (.aload_n 0, 1) := by decide +kernel
theorem dL_law_1699 : decode cL_law 1699 = .ok (.iload 4, 2) := by decide +kernel
theorem dL_law_1701 : decode cL_law 1701 = .ok (.iconst 2, 1) := by decide +kernel
theorem dL_law_1702 : decode cL_law 1702 = .ok (.iadd, 1) := by decide +kernel
theorem dL_law_1703 : decode cL_law 1703 = .ok (.iaload, 1) := by decide +kernel
theorem dL_law_1704 : decode cL_law 1704 = .ok (.aload_n 3, 1) := by decide +kernel
theorem dL_law_1705 : decode cL_law 1705 = .ok (.invokestatic 241, 3) := by decide +kernel
theorem dL_law_1708 : decode cL_law 1708 = .ok (.istore 5, 2) := by decide +kernel
theorem dL_law_1710 : decode cL_law 1710 = .ok (.aload_n 2, 1) := by decide +kernel
theorem dL_law_1711 : decode cL_law 1711 = .ok (.aload_n 0, 1) := by decide +kernel
theorem dL_law_1712 : decode cL_law 1712 = .ok (.iload 4, 2) := by decide +kernel
theorem dL_law_1714 : decode cL_law 1714 = .ok (.iconst 1, 1) := by decide +kernel
theorem dL_law_1715 : decode cL_law 1715 = .ok (.iadd, 1) := by decide +kernel
theorem dL_law_1716 : decode cL_law 1716 = .ok (.iaload, 1) := by decide +kernel
theorem dL_law_1717 : decode cL_law 1717 = .ok (.aload_n 0, 1) := by decide +kernel
theorem dL_law_1718 : decode cL_law 1718 = .ok (.iload 4, 2) := by decide +kernel
theorem dL_law_1720 : decode cL_law 1720 = .ok (.iconst 2, 1) := by decide +kernel
theorem dL_law_1721 : decode cL_law 1721 = .ok (.iadd, 1) := by decide +kernel
theorem dL_law_1722 : decode cL_law 1722 = .ok (.iaload, 1) := by decide +kernel
theorem dL_law_1723 : decode cL_law 1723 = .ok (.invokevirtual 243, 3) := by decide +kernel
theorem dL_law_1726 : decode cL_law 1726 = .ok (.istore 6, 2) := by decide +kernel
theorem dL_law_1728 : decode cL_law 1728 = .ok (.aload_n 2, 1) := by decide +kernel
theorem dL_law_1729 : decode cL_law 1729 = .ok (.invokevirtual 142, 3) := by decide +kernel
theorem dL_law_1732 : decode cL_law 1732 = .ok (.iload 5, 2) := by decide +kernel
theorem dL_law_1734 : decode cL_law 1734 = .ok (.if_icmp .eq 5, 3) := by decide +kernel
theorem dL_law_1737 : decode cL_law 1737 = .ok (.iconst 0, 1) := by decide +kernel
theorem dL_law_1738 : decode cL_law 1738 = .ok (.ireturn, 1) := by decide +kernel
theorem dL_law_1739 : decode cL_law 1739 = .ok (.iload 5, 2) := by decide +kernel
theorem dL_law_1741 : decode cL_law 1741 = .ok (.ifCond .ne 22, 3) := by decide +kernel
theorem dL_law_1744 : decode cL_law 1744 = .ok (.aload_n 3, 1) := by decide +kernel
theorem dL_law_1745 : decode cL_law 1745 = .ok (.iconst 0, 1) := by decide +kernel
theorem dL_law_1746 : decode cL_law 1746 = .ok (.laload, 1) := by decide +kernel
theorem dL_law_1747 : decode cL_law 1747 = .ok (.iload 6, 2) := by decide +kernel
theorem dL_law_1749 : decode cL_law 1749 = .ok (.ifCond .eq 7, 3) := by decide +kernel
theorem dL_law_1752 : decode cL_law 1752 = .ok (.lconst 1, 1) := by decide +kernel
theorem dL_law_1753 : decode cL_law 1753 = .ok (.goto 4, 3) := by decide +kernel
theorem dL_law_1756 : decode cL_law 1756 = .ok (.lconst 0, 1) := by decide +kernel
theorem dL_law_1757 : decode cL_law 1757 = .ok (.lcmp, 1) := by decide +kernel
theorem dL_law_1758 : decode cL_law 1758 = .ok (.ifCond .eq 5, 3) := by decide +kernel
theorem dL_law_1761 : decode cL_law 1761 = .ok (.iconst 0, 1) := by decide +kernel
theorem dL_law_1762 : decode cL_law 1762 = .ok (.ireturn, 1) := by decide +kernel
theorem dL_law_1763 : decode cL_law 1763 = .ok (.goto 842, 3) := by decide +kernel
theorem dL_law_1766 : decode cL_law 1766 = .ok (.aload_n 1, 1) := by decide +kernel
theorem dL_law_1767 : decode cL_law 1767 = .ok (.aload_n 0, 1) := by decide +kernel
theorem dL_law_1768 : decode cL_law 1768 = .ok (.iload 4, 2) := by decide +kernel
theorem dL_law_1770 : decode cL_law 1770 = .ok (.iconst 1, 1) := by decide +kernel
theorem dL_law_1771 : decode cL_law 1771 = .ok (.iadd, 1) := by decide +kernel
theorem dL_law_1772 : decode cL_law 1772 = .ok (.iaload, 1) := by decide +kernel
theorem dL_law_1773 : decode cL_law 1773 = .ok (.aload_n 3, 1) := by decide +kernel
theorem dL_law_1774 : decode cL_law 1774 = .ok (.invokestatic 244, 3) := by decide +kernel
theorem dL_law_1777 : decode cL_law 1777 = .ok (.istore 5, 2) := by decide +kernel
theorem dL_law_1779 : decode cL_law 1779 = .ok (.aload_n 2, 1) := by decide +kernel
theorem dL_law_1780 : decode cL_law 1780 = .ok (.aload_n 0, 1) := by decide +kernel
theorem dL_law_1781 : decode cL_law 1781 = .ok (.iload 4, 2) := by decide +kernel
theorem dL_law_1783 : decode cL_law 1783 = .ok (.iconst 1, 1) := by decide +kernel
theorem dL_law_1784 : decode cL_law 1784 = .ok (.iadd, 1) := by decide +kernel
theorem dL_law_1785 : decode cL_law 1785 = .ok (.iaload, 1) := by decide +kernel
theorem dL_law_1786 : decode cL_law 1786 = .ok (.invokevirtual 246, 3) := by decide +kernel
theorem dL_law_1789 : decode cL_law 1789 = .ok (.istore 6, 2) := by decide +kernel
theorem dL_law_1791 : decode cL_law 1791 = .ok (.aload_n 2, 1) := by decide +kernel
theorem dL_law_1792 : decode cL_law 1792 = .ok (.invokevirtual 142, 3) := by decide +kernel
theorem dL_law_1795 : decode cL_law 1795 = .ok (.iload 5, 2) := by decide +kernel
theorem dL_law_1797 : decode cL_law 1797 = .ok (.if_icmp .eq 5, 3) := by decide +kernel
theorem dL_law_1800 : decode cL_law 1800 = .ok (.iconst 0, 1) := by decide +kernel
theorem dL_law_1801 : decode cL_law 1801 = .ok (.ireturn, 1) := by decide +kernel
theorem dL_law_1802 : decode cL_law 1802 = .ok (.iload 5, 2) := by decide +kernel
theorem dL_law_1804 : decode cL_law 1804 = .ok (.ifCond .ne 15, 3) := by decide +kernel
theorem dL_law_1807 : decode cL_law 1807 = .ok (.aload_n 3, 1) := by decide +kernel
theorem dL_law_1808 : decode cL_law 1808 = .ok (.iconst 0, 1) := by decide +kernel
theorem dL_law_1809 : decode cL_law 1809 = .ok (.laload, 1) := by decide +kernel
theorem dL_law_1810 : decode cL_law 1810 = .ok (.iload 6, 2) := by decide +kernel
theorem dL_law_1812 : decode cL_law 1812 = .ok (.i2l, 1) := by decide +kernel
theorem dL_law_1813 : decode cL_law 1813 = .ok (.lcmp, 1) := by decide +kernel
theorem dL_law_1814 : decode cL_law 1814 = .ok (.ifCond .eq 5, 3) := by decide +kernel
theorem dL_law_1817 : decode cL_law 1817 = .ok (.iconst 0, 1) := by decide +kernel
theorem dL_law_1818 : decode cL_law 1818 = .ok (.ireturn, 1) := by decide +kernel
theorem dL_law_1819 : decode cL_law 1819 = .ok (.goto 786, 3) := by decide +kernel
theorem dL_law_1822 : decode cL_law 1822 = .ok (.aload_n 1, 1) := by decide +kernel
theorem dL_law_1823 : decode cL_law 1823 = .ok (.invokevirtual 247, 3) := by decide +kernel
theorem dL_law_1826 : decode cL_law 1826 = .ok (.aload_n 2, 1) := by decide +kernel
theorem dL_law_1827 : decode cL_law 1827 = .ok (.invokevirtual 250, 3) := by decide +kernel
theorem dL_law_1830 : decode cL_law 1830 = .ok (.if_icmp .eq 775, 3) := by decide +kernel
theorem dL_law_1833 : decode cL_law 1833 = .ok (.iconst 0, 1) := by decide +kernel
theorem dL_law_1834 : decode cL_law 1834 = .ok (.ireturn, 1) := by decide +kernel
theorem dL_law_1835 : decode cL_law 1835 = .ok (.aload_n 1, 1) := by decide +kernel
theorem dL_law_1836 : decode cL_law 1836 = .ok (.invokevirtual 251, 3) := by decide +kernel
theorem dL_law_1839 : decode cL_law 1839 = .ok (.aload_n 2, 1) := by decide +kernel
theorem dL_law_1840 : decode cL_law 1840 = .ok (.invokevirtual 254, 3) := by decide +kernel
theorem dL_law_1843 : decode cL_law 1843 = .ok (.if_icmp .eq 762, 3) := by decide +kernel
theorem dL_law_1846 : decode cL_law 1846 = .ok (.iconst 0, 1) := by decide +kernel
theorem dL_law_1847 : decode cL_law 1847 = .ok (.ireturn, 1) := by decide +kernel
theorem dL_law_1848 : decode cL_law 1848 = .ok (.aload_n 1, 1) := by decide +kernel
theorem dL_law_1849 : decode cL_law 1849 = .ok (.aload_n 0, 1) := by decide +kernel
theorem dL_law_1850 : decode cL_law 1850 = .ok (.iload 4, 2) := by decide +kernel
theorem dL_law_1852 : decode cL_law 1852 = .ok (.iconst 1, 1) := by decide +kernel
theorem dL_law_1853 : decode cL_law 1853 = .ok (.iadd, 1) := by decide +kernel
theorem dL_law_1854 : decode cL_law 1854 = .ok (.iaload, 1) := by decide +kernel
theorem dL_law_1855 : decode cL_law 1855 = .ok (.aload_n 3, 1) := by decide +kernel
theorem dL_law_1856 : decode cL_law 1856 = .ok (.invokestatic 255, 3) := by decide +kernel
theorem dL_law_1859 : decode cL_law 1859 = .ok (.istore 5, 2) := by decide +kernel
theorem dL_law_1861 : decode cL_law 1861 = .ok (.aload_n 2, 1) := by decide +kernel
theorem dL_law_1862 : decode cL_law 1862 = .ok (.aload_n 0, 1) := by decide +kernel
theorem dL_law_1863 : decode cL_law 1863 = .ok (.iload 4, 2) := by decide +kernel
theorem dL_law_1865 : decode cL_law 1865 = .ok (.iconst 1, 1) := by decide +kernel
theorem dL_law_1866 : decode cL_law 1866 = .ok (.iadd, 1) := by decide +kernel
theorem dL_law_1867 : decode cL_law 1867 = .ok (.iaload, 1) := by decide +kernel
theorem dL_law_1868 : decode cL_law 1868 = .ok (.invokevirtual 257, 3) := by decide +kernel
theorem dL_law_1871 : decode cL_law 1871 = .ok (.istore 6, 2) := by decide +kernel
theorem dL_law_1873 : decode cL_law 1873 = .ok (.aload_n 2, 1) := by decide +kernel
theorem dL_law_1874 : decode cL_law 1874 = .ok (.invokevirtual 142, 3) := by decide +kernel
theorem dL_law_1877 : decode cL_law 1877 = .ok (.iload 5, 2) := by decide +kernel
theorem dL_law_1879 : decode cL_law 1879 = .ok (.if_icmp .eq 5, 3) := by decide +kernel
theorem dL_law_1882 : decode cL_law 1882 = .ok (.iconst 0, 1) := by decide +kernel
theorem dL_law_1883 : decode cL_law 1883 = .ok (.ireturn, 1) := by decide +kernel
theorem dL_law_1884 : decode cL_law 1884 = .ok (.iload 5, 2) := by decide +kernel
theorem dL_law_1886 : decode cL_law 1886 = .ok (.ifCond .ne 15, 3) := by decide +kernel
theorem dL_law_1889 : decode cL_law 1889 = .ok (.aload_n 3, 1) := by decide +kernel
theorem dL_law_1890 : decode cL_law 1890 = .ok (.iconst 0, 1) := by decide +kernel
theorem dL_law_1891 : decode cL_law 1891 = .ok (.laload, 1) := by decide +kernel
theorem dL_law_1892 : decode cL_law 1892 = .ok (.iload 6, 2) := by decide +kernel
theorem dL_law_1894 : decode cL_law 1894 = .ok (.i2l, 1) := by decide +kernel
theorem dL_law_1895 : decode cL_law 1895 = .ok (.lcmp, 1) := by decide +kernel
theorem dL_law_1896 : decode cL_law 1896 = .ok (.ifCond .eq 5, 3) := by decide +kernel
theorem dL_law_1899 : decode cL_law 1899 = .ok (.iconst 0, 1) := by decide +kernel
theorem dL_law_1900 : decode cL_law 1900 = .ok (.ireturn, 1) := by decide +kernel
theorem dL_law_1901 : decode cL_law 1901 = .ok (.goto 704, 3) := by decide +kernel
theorem dL_law_1904 : decode cL_law 1904 = .ok (.aload_n 1, 1) := by decide +kernel
theorem dL_law_1905 : decode cL_law 1905 = .ok (.aload_n 0, 1) := by decide +kernel
theorem dL_law_1906 : decode cL_law 1906 = .ok (.iload 4, 2) := by decide +kernel
theorem dL_law_1908 : decode cL_law 1908 = .ok (.iconst 1, 1) := by decide +kernel
theorem dL_law_1909 : decode cL_law 1909 = .ok (.iadd, 1) := by decide +kernel
theorem dL_law_1910 : decode cL_law 1910 = .ok (.iaload, 1) := by decide +kernel
theorem dL_law_1911 : decode cL_law 1911 = .ok (.aload_n 0, 1) := by decide +kernel
theorem dL_law_1912 : decode cL_law 1912 = .ok (.iload 4, 2) := by decide +kernel
theorem dL_law_1914 : decode cL_law 1914 = .ok (.iconst 2, 1) := by decide +kernel
theorem dL_law_1915 : decode cL_law 1915 = .ok (.iadd, 1) := by decide +kernel
theorem dL_law_1916 : decode cL_law 1916 = .ok (.iaload, 1) := by decide +kernel
theorem dL_law_1917 : decode cL_law 1917 = .ok (.aload_n 3, 1) := by decide +kernel
theorem dL_law_1918 : decode cL_law 1918 = .ok (.invokestatic 258, 3) := by decide +kernel
theorem dL_law_1921 : decode cL_law 1921 = .ok (.istore 5, 2) := by decide +kernel
theorem dL_law_1923 : decode cL_law 1923 = .ok (.aload_n 2, 1) := by decide +kernel
theorem dL_law_1924 : decode cL_law 1924 = .ok (.aload_n 0, 1) := by decide +kernel
theorem dL_law_1925 : decode cL_law 1925 = .ok (.iload 4, 2) := by decide +kernel
theorem dL_law_1927 : decode cL_law 1927 = .ok (.iconst 1, 1) := by decide +kernel
theorem dL_law_1928 : decode cL_law 1928 = .ok (.iadd, 1) := by decide +kernel
theorem dL_law_1929 : decode cL_law 1929 = .ok (.iaload, 1) := by decide +kernel
theorem dL_law_1930 : decode cL_law 1930 = .ok (.aload_n 0, 1) := by decide +kernel
theorem dL_law_1931 : decode cL_law 1931 = .ok (.iload 4, 2) := by decide +kernel
theorem dL_law_1933 : decode cL_law 1933 = .ok (.iconst 2, 1) := by decide +kernel
theorem dL_law_1934 : decode cL_law 1934 = .ok (.iadd, 1) := by decide +kernel
theorem dL_law_1935 : decode cL_law 1935 = .ok (.iaload, 1) := by decide +kernel
theorem dL_law_1936 : decode cL_law 1936 = .ok (.invokevirtual 260, 3) := by decide +kernel
theorem dL_law_1939 : decode cL_law 1939 = .ok (.istore 6, 2) := by decide +kernel
theorem dL_law_1941 : decode cL_law 1941 = .ok (.aload_n 2, 1) := by decide +kernel
theorem dL_law_1942 : decode cL_law 1942 = .ok (.invokevirtual 142, 3) := by decide +kernel
theorem dL_law_1945 : decode cL_law 1945 = .ok (.iload 5, 2) := by decide +kernel
theorem dL_law_1947 : decode cL_law 1947 = .ok (.if_icmp .eq 5, 3) := by decide +kernel
theorem dL_law_1950 : decode cL_law 1950 = .ok (.iconst 0, 1) := by decide +kernel
theorem dL_law_1951 : decode cL_law 1951 = .ok (.ireturn, 1) := by decide +kernel
theorem dL_law_1952 : decode cL_law 1952 = .ok (.iload 5, 2) := by decide +kernel
theorem dL_law_1954 : decode cL_law 1954 = .ok (.ifCond .ne 15, 3) := by decide +kernel
theorem dL_law_1957 : decode cL_law 1957 = .ok (.aload_n 3, 1) := by decide +kernel
theorem dL_law_1958 : decode cL_law 1958 = .ok (.iconst 0, 1) := by decide +kernel
theorem dL_law_1959 : decode cL_law 1959 = .ok (.laload, 1) := by decide +kernel
theorem dL_law_1960 : decode cL_law 1960 = .ok (.iload 6, 2) := by decide +kernel
theorem dL_law_1962 : decode cL_law 1962 = .ok (.i2l, 1) := by decide +kernel
theorem dL_law_1963 : decode cL_law 1963 = .ok (.lcmp, 1) := by decide +kernel
theorem dL_law_1964 : decode cL_law 1964 = .ok (.ifCond .eq 5, 3) := by decide +kernel
theorem dL_law_1967 : decode cL_law 1967 = .ok (.iconst 0, 1) := by decide +kernel
theorem dL_law_1968 : decode cL_law 1968 = .ok (.ireturn, 1) := by decide +kernel
theorem dL_law_1969 : decode cL_law 1969 = .ok (.goto 636, 3) := by decide +kernel
theorem dL_law_1972 : decode cL_law 1972 = .ok (.aload_n 1, 1) := by decide +kernel
theorem dL_law_1973 : decode cL_law 1973 = .ok (.aload_n 0, 1) := by decide +kernel
theorem dL_law_1974 : decode cL_law 1974 = .ok (.iload 4, 2) := by decide +kernel
theorem dL_law_1976 : decode cL_law 1976 = .ok (.iconst 1, 1) := by decide +kernel
theorem dL_law_1977 : decode cL_law 1977 = .ok (.iadd, 1) := by decide +kernel
theorem dL_law_1978 : decode cL_law 1978 = .ok (.iaload, 1) := by decide +kernel
theorem dL_law_1979 : decode cL_law 1979 = .ok (.aload_n 3, 1) := by decide +kernel
theorem dL_law_1980 : decode cL_law 1980 = .ok (.invokestatic 261, 3) := by decide +kernel
theorem dL_law_1983 : decode cL_law 1983 = .ok (.istore 5, 2) := by decide +kernel
theorem dL_law_1985 : decode cL_law 1985 = .ok (.aload_n 2, 1) := by decide +kernel
theorem dL_law_1986 : decode cL_law 1986 = .ok (.aload_n 0, 1) := by decide +kernel
theorem dL_law_1987 : decode cL_law 1987 = .ok (.iload 4, 2) := by decide +kernel
theorem dL_law_1989 : decode cL_law 1989 = .ok (.iconst 1, 1) := by decide +kernel
theorem dL_law_1990 : decode cL_law 1990 = .ok (.iadd, 1) := by decide +kernel
theorem dL_law_1991 : decode cL_law 1991 = .ok (.iaload, 1) := by decide +kernel
theorem dL_law_1992 : decode cL_law 1992 = .ok (.invokevirtual 263, 3) := by decide +kernel
theorem dL_law_1995 : decode cL_law 1995 = .ok (.istore 6, 2) := by decide +kernel
theorem dL_law_1997 : decode cL_law 1997 = .ok (.aload_n 2, 1) := by decide +kernel
theorem dL_law_1998 : decode cL_law 1998 = .ok (.invokevirtual 142, 3) := by decide +kernel
theorem dL_law_2001 : decode cL_law 2001 = .ok (.iload 5, 2) := by decide +kernel
theorem dL_law_2003 : decode cL_law 2003 = .ok (.if_icmp .eq 5, 3) := by decide +kernel
theorem dL_law_2006 : decode cL_law 2006 = .ok (.iconst 0, 1) := by decide +kernel
theorem dL_law_2007 : decode cL_law 2007 = .ok (.ireturn, 1) := by decide +kernel
theorem dL_law_2008 : decode cL_law 2008 = .ok (.iload 5, 2) := by decide +kernel
theorem dL_law_2010 : decode cL_law 2010 = .ok (.ifCond .ne 15, 3) := by decide +kernel
theorem dL_law_2013 : decode cL_law 2013 = .ok (.aload_n 3, 1) := by decide +kernel
theorem dL_law_2014 : decode cL_law 2014 = .ok (.iconst 0, 1) := by decide +kernel
theorem dL_law_2015 : decode cL_law 2015 = .ok (.laload, 1) := by decide +kernel
theorem dL_law_2016 : decode cL_law 2016 = .ok (.iload 6, 2) := by decide +kernel
theorem dL_law_2018 : decode cL_law 2018 = .ok (.i2l, 1) := by decide +kernel
theorem dL_law_2019 : decode cL_law 2019 = .ok (.lcmp, 1) := by decide +kernel
theorem dL_law_2020 : decode cL_law 2020 = .ok (.ifCond .eq 5, 3) := by decide +kernel
theorem dL_law_2023 : decode cL_law 2023 = .ok (.iconst 0, 1) := by decide +kernel
theorem dL_law_2024 : decode cL_law 2024 = .ok (.ireturn, 1) := by decide +kernel
theorem dL_law_2025 : decode cL_law 2025 = .ok (.goto 580, 3) := by decide +kernel
theorem dL_law_2028 : decode cL_law 2028 = .ok (.aload_n 1, 1) := by decide +kernel
theorem dL_law_2029 : decode cL_law 2029 = .ok (.aload_n 0, 1) := by decide +kernel
theorem dL_law_2030 : decode cL_law 2030 = .ok (.iload 4, 2) := by decide +kernel
theorem dL_law_2032 : decode cL_law 2032 = .ok (.iconst 1, 1) := by decide +kernel
theorem dL_law_2033 : decode cL_law 2033 = .ok (.iadd, 1) := by decide +kernel
theorem dL_law_2034 : decode cL_law 2034 = .ok (.iaload, 1) := by decide +kernel
theorem dL_law_2035 : decode cL_law 2035 = .ok (.aload_n 3, 1) := by decide +kernel
theorem dL_law_2036 : decode cL_law 2036 = .ok (.invokestatic 264, 3) := by decide +kernel
theorem dL_law_2039 : decode cL_law 2039 = .ok (.istore 5, 2) := by decide +kernel
theorem dL_law_2041 : decode cL_law 2041 = .ok (.aload_n 2, 1) := by decide +kernel
theorem dL_law_2042 : decode cL_law 2042 = .ok (.aload_n 0, 1) := by decide +kernel
theorem dL_law_2043 : decode cL_law 2043 = .ok (.iload 4, 2) := by decide +kernel
theorem dL_law_2045 : decode cL_law 2045 = .ok (.iconst 1, 1) := by decide +kernel
theorem dL_law_2046 : decode cL_law 2046 = .ok (.iadd, 1) := by decide +kernel
theorem dL_law_2047 : decode cL_law 2047 = .ok (.iaload, 1) := by decide +kernel
theorem dL_law_2048 : decode cL_law 2048 = .ok (.invokevirtual 266, 3) := by decide +kernel
theorem dL_law_2051 : decode cL_law 2051 = .ok (.istore 6, 2) := by decide +kernel
theorem dL_law_2053 : decode cL_law 2053 = .ok (.aload_n 2, 1) := by decide +kernel
theorem dL_law_2054 : decode cL_law 2054 = .ok (.invokevirtual 142, 3) := by decide +kernel
theorem dL_law_2057 : decode cL_law 2057 = .ok (.iload 5, 2) := by decide +kernel
theorem dL_law_2059 : decode cL_law 2059 = .ok (.if_icmp .eq 5, 3) := by decide +kernel
theorem dL_law_2062 : decode cL_law 2062 = .ok (.iconst 0, 1) := by decide +kernel
theorem dL_law_2063 : decode cL_law 2063 = .ok (.ireturn, 1) := by decide +kernel
theorem dL_law_2064 : decode cL_law 2064 = .ok (.iload 5, 2) := by decide +kernel
theorem dL_law_2066 : decode cL_law 2066 = .ok (.ifCond .ne 15, 3) := by decide +kernel
theorem dL_law_2069 : decode cL_law 2069 = .ok (.aload_n 3, 1) := by decide +kernel
theorem dL_law_2070 : decode cL_law 2070 = .ok (.iconst 0, 1) := by decide +kernel
theorem dL_law_2071 : decode cL_law 2071 = .ok (.laload, 1) := by decide +kernel
theorem dL_law_2072 : decode cL_law 2072 = .ok (.iload 6, 2) := by decide +kernel
theorem dL_law_2074 : decode cL_law 2074 = .ok (.i2l, 1) := by decide +kernel
theorem dL_law_2075 : decode cL_law 2075 = .ok (.lcmp, 1) := by decide +kernel
theorem dL_law_2076 : decode cL_law 2076 = .ok (.ifCond .eq 5, 3) := by decide +kernel
theorem dL_law_2079 : decode cL_law 2079 = .ok (.iconst 0, 1) := by decide +kernel
theorem dL_law_2080 : decode cL_law 2080 = .ok (.ireturn, 1) := by decide +kernel
theorem dL_law_2081 : decode cL_law 2081 = .ok (.goto 524, 3) := by decide +kernel
theorem dL_law_2084 : decode cL_law 2084 = .ok (.aload_n 1, 1) := by decide +kernel
theorem dL_law_2085 : decode cL_law 2085 = .ok (.invokevirtual 267, 3) := by decide +kernel
theorem dL_law_2088 : decode cL_law 2088 = .ok (.aload_n 2, 1) := by decide +kernel
theorem dL_law_2089 : decode cL_law 2089 = .ok (.invokevirtual 270, 3) := by decide +kernel
theorem dL_law_2092 : decode cL_law 2092 = .ok (.if_icmp .eq 513, 3) := by decide +kernel
theorem dL_law_2095 : decode cL_law 2095 = .ok (.iconst 0, 1) := by decide +kernel
theorem dL_law_2096 : decode cL_law 2096 = .ok (.ireturn, 1) := by decide +kernel
theorem dL_law_2097 : decode cL_law 2097 = .ok (.aload_n 1, 1) := by decide +kernel
theorem dL_law_2098 : decode cL_law 2098 = .ok (.aload_n 0, 1) := by decide +kernel
theorem dL_law_2099 : decode cL_law 2099 = .ok (.iload 4, 2) := by decide +kernel
theorem dL_law_2101 : decode cL_law 2101 = .ok (.iconst 1, 1) := by decide +kernel
theorem dL_law_2102 : decode cL_law 2102 = .ok (.iadd, 1) := by decide +kernel
theorem dL_law_2103 : decode cL_law 2103 = .ok (.iaload, 1) := by decide +kernel
theorem dL_law_2104 : decode cL_law 2104 = .ok (.aload_n 3, 1) := by decide +kernel
theorem dL_law_2105 : decode cL_law 2105 = .ok (.invokestatic 271, 3) := by decide +kernel
theorem dL_law_2108 : decode cL_law 2108 = .ok (.istore 5, 2) := by decide +kernel
theorem dL_law_2110 : decode cL_law 2110 = .ok (.aload_n 2, 1) := by decide +kernel
theorem dL_law_2111 : decode cL_law 2111 = .ok (.aload_n 0, 1) := by decide +kernel
theorem dL_law_2112 : decode cL_law 2112 = .ok (.iload 4, 2) := by decide +kernel
theorem dL_law_2114 : decode cL_law 2114 = .ok (.iconst 1, 1) := by decide +kernel
theorem dL_law_2115 : decode cL_law 2115 = .ok (.iadd, 1) := by decide +kernel
theorem dL_law_2116 : decode cL_law 2116 = .ok (.iaload, 1) := by decide +kernel
theorem dL_law_2117 : decode cL_law 2117 = .ok (.invokevirtual 273, 3) := by decide +kernel
theorem dL_law_2120 : decode cL_law 2120 = .ok (.istore 6, 2) := by decide +kernel
theorem dL_law_2122 : decode cL_law 2122 = .ok (.aload_n 2, 1) := by decide +kernel
theorem dL_law_2123 : decode cL_law 2123 = .ok (.invokevirtual 142, 3) := by decide +kernel
theorem dL_law_2126 : decode cL_law 2126 = .ok (.iload 5, 2) := by decide +kernel
theorem dL_law_2128 : decode cL_law 2128 = .ok (.if_icmp .eq 5, 3) := by decide +kernel
theorem dL_law_2131 : decode cL_law 2131 = .ok (.iconst 0, 1) := by decide +kernel
theorem dL_law_2132 : decode cL_law 2132 = .ok (.ireturn, 1) := by decide +kernel
theorem dL_law_2133 : decode cL_law 2133 = .ok (.iload 5, 2) := by decide +kernel
theorem dL_law_2135 : decode cL_law 2135 = .ok (.ifCond .ne 15, 3) := by decide +kernel
theorem dL_law_2138 : decode cL_law 2138 = .ok (.aload_n 3, 1) := by decide +kernel
theorem dL_law_2139 : decode cL_law 2139 = .ok (.iconst 0, 1) := by decide +kernel
theorem dL_law_2140 : decode cL_law 2140 = .ok (.laload, 1) := by decide +kernel
theorem dL_law_2141 : decode cL_law 2141 = .ok (.iload 6, 2) := by decide +kernel
theorem dL_law_2143 : decode cL_law 2143 = .ok (.i2l, 1) := by decide +kernel
theorem dL_law_2144 : decode cL_law 2144 = .ok (.lcmp, 1) := by decide +kernel
theorem dL_law_2145 : decode cL_law 2145 = .ok (.ifCond .eq 5, 3) := by decide +kernel
theorem dL_law_2148 : decode cL_law 2148 = .ok (.iconst 0, 1) := by decide +kernel
theorem dL_law_2149 : decode cL_law 2149 = .ok (.ireturn, 1) := by decide +kernel
theorem dL_law_2150 : decode cL_law 2150 = .ok (.goto 455, 3) := by decide +kernel
theorem dL_law_2153 : decode cL_law 2153 = .ok (.aload_n 1, 1) := by decide +kernel
theorem dL_law_2154 : decode cL_law 2154 = .ok (.aload_n 0, 1) := by decide +kernel
theorem dL_law_2155 : decode cL_law 2155 = .ok (.iload 4, 2) := by decide +kernel
theorem dL_law_2157 : decode cL_law 2157 = .ok (.iconst 1, 1) := by decide +kernel
theorem dL_law_2158 : decode cL_law 2158 = .ok (.iadd, 1) := by decide +kernel
theorem dL_law_2159 : decode cL_law 2159 = .ok (.iaload, 1) := by decide +kernel
theorem dL_law_2160 : decode cL_law 2160 = .ok (.aload_n 0, 1) := by decide +kernel
theorem dL_law_2161 : decode cL_law 2161 = .ok (.iload 4, 2) := by decide +kernel
theorem dL_law_2163 : decode cL_law 2163 = .ok (.iconst 2, 1) := by decide +kernel
theorem dL_law_2164 : decode cL_law 2164 = .ok (.iadd, 1) := by decide +kernel
theorem dL_law_2165 : decode cL_law 2165 = .ok (.iaload, 1) := by decide +kernel
theorem dL_law_2166 : decode cL_law 2166 = .ok (.aload_n 3, 1) := by decide +kernel
theorem dL_law_2167 : decode cL_law 2167 = .ok (.invokestatic 274, 3) := by decide +kernel
theorem dL_law_2170 : decode cL_law 2170 = .ok (.istore 5, 2) := by decide +kernel
theorem dL_law_2172 : decode cL_law 2172 = .ok (.aload_n 2, 1) := by decide +kernel
theorem dL_law_2173 : decode cL_law 2173 = .ok (.aload_n 0, 1) := by decide +kernel
theorem dL_law_2174 : decode cL_law 2174 = .ok (.iload 4, 2) := by decide +kernel
theorem dL_law_2176 : decode cL_law 2176 = .ok (.iconst 1, 1) := by decide +kernel
theorem dL_law_2177 : decode cL_law 2177 = .ok (.iadd, 1) := by decide +kernel
theorem dL_law_2178 : decode cL_law 2178 = .ok (.iaload, 1) := by decide +kernel
theorem dL_law_2179 : decode cL_law 2179 = .ok (.aload_n 0, 1) := by decide +kernel
theorem dL_law_2180 : decode cL_law 2180 = .ok (.iload 4, 2) := by decide +kernel
theorem dL_law_2182 : decode cL_law 2182 = .ok (.iconst 2, 1) := by decide +kernel
theorem dL_law_2183 : decode cL_law 2183 = .ok (.iadd, 1) := by decide +kernel
theorem dL_law_2184 : decode cL_law 2184 = .ok (.iaload, 1) := by decide +kernel
theorem dL_law_2185 : decode cL_law 2185 = .ok (.invokevirtual 276, 3) := by decide +kernel
theorem dL_law_2188 : decode cL_law 2188 = .ok (.istore 6, 2) := by decide +kernel
theorem dL_law_2190 : decode cL_law 2190 = .ok (.aload_n 2, 1) := by decide +kernel
theorem dL_law_2191 : decode cL_law 2191 = .ok (.invokevirtual 142, 3) := by decide +kernel
theorem dL_law_2194 : decode cL_law 2194 = .ok (.iload 5, 2) := by decide +kernel
theorem dL_law_2196 : decode cL_law 2196 = .ok (.if_icmp .eq 5, 3) := by decide +kernel
theorem dL_law_2199 : decode cL_law 2199 = .ok (.iconst 0, 1) := by decide +kernel
theorem dL_law_2200 : decode cL_law 2200 = .ok (.ireturn, 1) := by decide +kernel
theorem dL_law_2201 : decode cL_law 2201 = .ok (.iload 5, 2) := by decide +kernel
theorem dL_law_2203 : decode cL_law 2203 = .ok (.ifCond .ne 15, 3) := by decide +kernel
theorem dL_law_2206 : decode cL_law 2206 = .ok (.aload_n 3, 1) := by decide +kernel
theorem dL_law_2207 : decode cL_law 2207 = .ok (.iconst 0, 1) := by decide +kernel
theorem dL_law_2208 : decode cL_law 2208 = .ok (.laload, 1) := by decide +kernel
theorem dL_law_2209 : decode cL_law 2209 = .ok (.iload 6, 2) := by decide +kernel
theorem dL_law_2211 : decode cL_law 2211 = .ok (.i2l, 1) := by decide +kernel
theorem dL_law_2212 : decode cL_law 2212 = .ok (.lcmp, 1) := by decide +kernel
theorem dL_law_2213 : decode cL_law 2213 = .ok (.ifCond .eq 5, 3) := by decide +kernel
theorem dL_law_2216 : decode cL_law 2216 = .ok (.iconst 0, 1) := by decide +kernel
theorem dL_law_2217 : decode cL_law 2217 = .ok (.ireturn, 1) := by decide +kernel
theorem dL_law_2218 : decode cL_law 2218 = .ok (.goto 387, 3) := by decide +kernel
theorem dL_law_2221 : decode cL_law 2221 = .ok (.aload_n 1, 1) := by decide +kernel
theorem dL_law_2222 : decode cL_law 2222 = .ok (.aload_n 0, 1) := by decide +kernel
theorem dL_law_2223 : decode cL_law 2223 = .ok (.iload 4, 2) := by decide +kernel
theorem dL_law_2225 : decode cL_law 2225 = .ok (.iconst 1, 1) := by decide +kernel
theorem dL_law_2226 : decode cL_law 2226 = .ok (.iadd, 1) := by decide +kernel
theorem dL_law_2227 : decode cL_law 2227 = .ok (.iaload, 1) := by decide +kernel
theorem dL_law_2228 : decode cL_law 2228 = .ok (.aload_n 0, 1) := by decide +kernel
theorem dL_law_2229 : decode cL_law 2229 = .ok (.iload 4, 2) := by decide +kernel
theorem dL_law_2231 : decode cL_law 2231 = .ok (.iconst 2, 1) := by decide +kernel
theorem dL_law_2232 : decode cL_law 2232 = .ok (.iadd, 1) := by decide +kernel
theorem dL_law_2233 : decode cL_law 2233 = .ok (.iaload, 1) := by decide +kernel
theorem dL_law_2234 : decode cL_law 2234 = .ok (.aload_n 3, 1) := by decide +kernel
theorem dL_law_2235 : decode cL_law 2235 = .ok (.invokestatic 277, 3) := by decide +kernel
theorem dL_law_2238 : decode cL_law 2238 = .ok (.istore 5, 2) := by decide +kernel
theorem dL_law_2240 : decode cL_law 2240 = .ok (.aload_n 2, 1) := by decide +kernel
theorem dL_law_2241 : decode cL_law 2241 = .ok (.aload_n 0, 1) := by decide +kernel
theorem dL_law_2242 : decode cL_law 2242 = .ok (.iload 4, 2) := by decide +kernel
theorem dL_law_2244 : decode cL_law 2244 = .ok (.iconst 1, 1) := by decide +kernel
theorem dL_law_2245 : decode cL_law 2245 = .ok (.iadd, 1) := by decide +kernel
theorem dL_law_2246 : decode cL_law 2246 = .ok (.iaload, 1) := by decide +kernel
theorem dL_law_2247 : decode cL_law 2247 = .ok (.aload_n 0, 1) := by decide +kernel
theorem dL_law_2248 : decode cL_law 2248 = .ok (.iload 4, 2) := by decide +kernel
theorem dL_law_2250 : decode cL_law 2250 = .ok (.iconst 2, 1) := by decide +kernel
theorem dL_law_2251 : decode cL_law 2251 = .ok (.iadd, 1) := by decide +kernel
theorem dL_law_2252 : decode cL_law 2252 = .ok (.iaload, 1) := by decide +kernel
theorem dL_law_2253 : decode cL_law 2253 = .ok (.invokevirtual 279, 3) := by decide +kernel
theorem dL_law_2256 : decode cL_law 2256 = .ok (.istore 6, 2) := by decide +kernel
theorem dL_law_2258 : decode cL_law 2258 = .ok (.aload_n 2, 1) := by decide +kernel
theorem dL_law_2259 : decode cL_law 2259 = .ok (.invokevirtual 142, 3) := by decide +kernel
theorem dL_law_2262 : decode cL_law 2262 = .ok (.iload 5, 2) := by decide +kernel
theorem dL_law_2264 : decode cL_law 2264 = .ok (.if_icmp .eq 5, 3) := by decide +kernel
theorem dL_law_2267 : decode cL_law 2267 = .ok (.iconst 0, 1) := by decide +kernel
theorem dL_law_2268 : decode cL_law 2268 = .ok (.ireturn, 1) := by decide +kernel
theorem dL_law_2269 : decode cL_law 2269 = .ok (.iload 5, 2) := by decide +kernel
theorem dL_law_2271 : decode cL_law 2271 = .ok (.ifCond .ne 15, 3) := by decide +kernel
theorem dL_law_2274 : decode cL_law 2274 = .ok (.aload_n 3, 1) := by decide +kernel
theorem dL_law_2275 : decode cL_law 2275 = .ok (.iconst 0, 1) := by decide +kernel
theorem dL_law_2276 : decode cL_law 2276 = .ok (.laload, 1) := by decide +kernel
theorem dL_law_2277 : decode cL_law 2277 = .ok (.iload 6, 2) := by decide +kernel
theorem dL_law_2279 : decode cL_law 2279 = .ok (.i2l, 1) := by decide +kernel
theorem dL_law_2280 : decode cL_law 2280 = .ok (.lcmp, 1) := by decide +kernel
theorem dL_law_2281 : decode cL_law 2281 = .ok (.ifCond .eq 5, 3) := by decide +kernel
theorem dL_law_2284 : decode cL_law 2284 = .ok (.iconst 0, 1) := by decide +kernel
theorem dL_law_2285 : decode cL_law 2285 = .ok (.ireturn, 1) := by decide +kernel
theorem dL_law_2286 : decode cL_law 2286 = .ok (.goto 319, 3) := by decide +kernel
theorem dL_law_2289 : decode cL_law 2289 = .ok (.aload_n 1, 1) := by decide +kernel
theorem dL_law_2290 : decode cL_law 2290 = .ok (.aload_n 0, 1) := by decide +kernel
theorem dL_law_2291 : decode cL_law 2291 = .ok (.iload 4, 2) := by decide +kernel
theorem dL_law_2293 : decode cL_law 2293 = .ok (.iconst 1, 1) := by decide +kernel
theorem dL_law_2294 : decode cL_law 2294 = .ok (.iadd, 1) := by decide +kernel
theorem dL_law_2295 : decode cL_law 2295 = .ok (.iaload, 1) := by decide +kernel
theorem dL_law_2296 : decode cL_law 2296 = .ok (.aload_n 3, 1) := by decide +kernel
theorem dL_law_2297 : decode cL_law 2297 = .ok (.invokestatic 280, 3) := by decide +kernel
theorem dL_law_2300 : decode cL_law 2300 = .ok (.istore 5, 2) := by decide +kernel
theorem dL_law_2302 : decode cL_law 2302 = .ok (.aload_n 2, 1) := by decide +kernel
theorem dL_law_2303 : decode cL_law 2303 = .ok (.aload_n 0, 1) := by decide +kernel
theorem dL_law_2304 : decode cL_law 2304 = .ok (.iload 4, 2) := by decide +kernel
theorem dL_law_2306 : decode cL_law 2306 = .ok (.iconst 1, 1) := by decide +kernel
theorem dL_law_2307 : decode cL_law 2307 = .ok (.iadd, 1) := by decide +kernel
theorem dL_law_2308 : decode cL_law 2308 = .ok (.iaload, 1) := by decide +kernel
theorem dL_law_2309 : decode cL_law 2309 = .ok (.invokevirtual 282, 3) := by decide +kernel
theorem dL_law_2312 : decode cL_law 2312 = .ok (.istore 6, 2) := by decide +kernel
theorem dL_law_2314 : decode cL_law 2314 = .ok (.aload_n 2, 1) := by decide +kernel
theorem dL_law_2315 : decode cL_law 2315 = .ok (.invokevirtual 142, 3) := by decide +kernel
theorem dL_law_2318 : decode cL_law 2318 = .ok (.iload 5, 2) := by decide +kernel
theorem dL_law_2320 : decode cL_law 2320 = .ok (.if_icmp .eq 5, 3) := by decide +kernel
theorem dL_law_2323 : decode cL_law 2323 = .ok (.iconst 0, 1) := by decide +kernel
theorem dL_law_2324 : decode cL_law 2324 = .ok (.ireturn, 1) := by decide +kernel
theorem dL_law_2325 : decode cL_law 2325 = .ok (.iload 5, 2) := by decide +kernel
theorem dL_law_2327 : decode cL_law 2327 = .ok (.ifCond .ne 15, 3) := by decide +kernel
theorem dL_law_2330 : decode cL_law 2330 = .ok (.aload_n 3, 1) := by decide +kernel
theorem dL_law_2331 : decode cL_law 2331 = .ok (.iconst 0, 1) := by decide +kernel
theorem dL_law_2332 : decode cL_law 2332 = .ok (.laload, 1) := by decide +kernel
theorem dL_law_2333 : decode cL_law 2333 = .ok (.iload 6, 2) := by decide +kernel
theorem dL_law_2335 : decode cL_law 2335 = .ok (.i2l, 1) := by decide +kernel
theorem dL_law_2336 : decode cL_law 2336 = .ok (.lcmp, 1) := by decide +kernel
theorem dL_law_2337 : decode cL_law 2337 = .ok (.ifCond .eq 5, 3) := by decide +kernel
theorem dL_law_2340 : decode cL_law 2340 = .ok (.iconst 0, 1) := by decide +kernel
theorem dL_law_2341 : decode cL_law 2341 = .ok (.ireturn, 1) := by decide +kernel
theorem dL_law_2342 : decode cL_law 2342 = .ok (.goto 263, 3) := by decide +kernel
theorem dL_law_2345 : decode cL_law 2345 = .ok (.aload_n 1, 1) := by decide +kernel
theorem dL_law_2346 : decode cL_law 2346 = .ok (.invokevirtual 283, 3) := by decide +kernel
theorem dL_law_2349 : decode cL_law 2349 = .ok (.aload_n 2, 1) := by decide +kernel
theorem dL_law_2350 : decode cL_law 2350 = .ok (.invokevirtual 286, 3) := by decide +kernel
theorem dL_law_2353 : decode cL_law 2353 = .ok (.if_icmp .eq 252, 3) := by decide +kernel
theorem dL_law_2356 : decode cL_law 2356 = .ok (.iconst 0, 1) := by decide +kernel
theorem dL_law_2357 : decode cL_law 2357 = .ok (.ireturn, 1) := by decide +kernel
theorem dL_law_2358 : decode cL_law 2358 = .ok (.aload_n 1, 1) := by decide +kernel
theorem dL_law_2359 : decode cL_law 2359 = .ok (.invokevirtual 287, 3) := by decide +kernel
theorem dL_law_2362 : decode cL_law 2362 = .ok (.aload_n 2, 1) := by decide +kernel
theorem dL_law_2363 : decode cL_law 2363 = .ok (.invokevirtual 290, 3) := by decide +kernel
theorem dL_law_2366 : decode cL_law 2366 = .ok (.if_icmp .eq 239, 3) := by decide +kernel
theorem dL_law_2369 : decode cL_law 2369 = .ok (.iconst 0, 1) := by decide +kernel
theorem dL_law_2370 : decode cL_law 2370 = .ok (.ireturn, 1) := by decide +kernel
theorem dL_law_2371 : decode cL_law 2371 = .ok (.aload_n 1, 1) := by decide +kernel
theorem dL_law_2372 : decode cL_law 2372 = .ok (.invokevirtual 291, 3) := by decide +kernel
theorem dL_law_2375 : decode cL_law 2375 = .ok (.aload_n 2, 1) := by decide +kernel
theorem dL_law_2376 : decode cL_law 2376 = .ok (.invokevirtual 294, 3) := by decide +kernel
theorem dL_law_2379 : decode cL_law 2379 = .ok (.if_icmp .eq 226, 3) := by decide +kernel
theorem dL_law_2382 : decode cL_law 2382 = .ok (.iconst 0, 1) := by decide +kernel
theorem dL_law_2383 : decode cL_law 2383 = .ok (.ireturn, 1) := by decide +kernel
theorem dL_law_2384 : decode cL_law 2384 = .ok (.aload_n 1, 1) := by decide +kernel
theorem dL_law_2385 : decode cL_law 2385 = .ok (.invokevirtual 295, 3) := by decide +kernel
theorem dL_law_2388 : decode cL_law 2388 = .ok (.dstore 5, 2) := by decide +kernel
theorem dL_law_2390 : decode cL_law 2390 = .ok (.aload_n 2, 1) := by decide +kernel
theorem dL_law_2391 : decode cL_law 2391 = .ok (.invokevirtual 299, 3) := by decide +kernel
theorem dL_law_2394 : decode cL_law 2394 = .ok (.dstore 7, 2) := by decide +kernel
theorem dL_law_2396 : decode cL_law 2396 = .ok (.dload 5, 2) := by decide +kernel
theorem dL_law_2398 : decode cL_law 2398 = .ok (.dload 7, 2) := by decide +kernel
theorem dL_law_2400 : decode cL_law 2400 = .ok (.dcmp .l, 1) := by decide +kernel
theorem dL_law_2401 : decode cL_law 2401 = .ok (.ifCond .eq 21, 3) := by decide +kernel
theorem dL_law_2404 : decode cL_law 2404 = .ok (.dload 5, 2) := by decide +kernel
theorem dL_law_2406 : decode cL_law 2406 = .ok (.dload 5, 2) := by decide +kernel
theorem dL_law_2408 : decode cL_law 2408 = .ok (.dcmp .l, 1) := by decide +kernel
theorem dL_law_2409 : decode cL_law 2409 = .ok (.ifCond .eq 11, 3) := by decide +kernel
theorem dL_law_2412 : decode cL_law 2412 = .ok (.dload 7, 2) := by decide +kernel
theorem dL_law_2414 : decode cL_law 2414 = .ok (.dload 7, 2) := by decide +kernel
theorem dL_law_2416 : decode cL_law 2416 = .ok (.dcmp .l, 1) := by decide +kernel
theorem dL_law_2417 : decode cL_law 2417 = .ok (.ifCond .ne 5, 3) := by decide +kernel
theorem dL_law_2420 : decode cL_law 2420 = .ok (.iconst 0, 1) := by decide +kernel
theorem dL_law_2421 : decode cL_law 2421 = .ok (.ireturn, 1) := by decide +kernel
theorem dL_law_2422 : decode cL_law 2422 = .ok (.goto 183, 3) := by decide +kernel
theorem dL_law_2425 : decode cL_law 2425 = .ok (.aload_n 1, 1) := by decide +kernel
theorem dL_law_2426 : decode cL_law 2426 = .ok (.invokevirtual 300, 3) := by decide +kernel
theorem dL_law_2429 : decode cL_law 2429 = .ok (.dstore 5, 2) := by decide +kernel
theorem dL_law_2431 : decode cL_law 2431 = .ok (.aload_n 2, 1) := by decide +kernel
theorem dL_law_2432 : decode cL_law 2432 = .ok (.invokevirtual 303, 3) := by decide +kernel
theorem dL_law_2435 : decode cL_law 2435 = .ok (.dstore 7, 2) := by decide +kernel
theorem dL_law_2437 : decode cL_law 2437 = .ok (.dload 5, 2) := by decide +kernel
theorem dL_law_2439 : decode cL_law 2439 = .ok (.dload 7, 2) := by decide +kernel
theorem dL_law_2441 : decode cL_law 2441 = .ok (.dcmp .l, 1) := by decide +kernel
theorem dL_law_2442 : decode cL_law 2442 = .ok (.ifCond .eq 21, 3) := by decide +kernel
theorem dL_law_2445 : decode cL_law 2445 = .ok (.dload 5, 2) := by decide +kernel
theorem dL_law_2447 : decode cL_law 2447 = .ok (.dload 5, 2) := by decide +kernel
theorem dL_law_2449 : decode cL_law 2449 = .ok (.dcmp .l, 1) := by decide +kernel
theorem dL_law_2450 : decode cL_law 2450 = .ok (.ifCond .eq 11, 3) := by decide +kernel
theorem dL_law_2453 : decode cL_law 2453 = .ok (.dload 7, 2) := by decide +kernel
theorem dL_law_2455 : decode cL_law 2455 = .ok (.dload 7, 2) := by decide +kernel
theorem dL_law_2457 : decode cL_law 2457 = .ok (.dcmp .l, 1) := by decide +kernel
theorem dL_law_2458 : decode cL_law 2458 = .ok (.ifCond .ne 5, 3) := by decide +kernel
theorem dL_law_2461 : decode cL_law 2461 = .ok (.iconst 0, 1) := by decide +kernel
theorem dL_law_2462 : decode cL_law 2462 = .ok (.ireturn, 1) := by decide +kernel
theorem dL_law_2463 : decode cL_law 2463 = .ok (.goto 142, 3) := by decide +kernel
theorem dL_law_2466 : decode cL_law 2466 = .ok (.aload_n 1, 1) := by decide +kernel
theorem dL_law_2467 : decode cL_law 2467 = .ok (.invokevirtual 304, 3) := by decide +kernel
theorem dL_law_2470 : decode cL_law 2470 = .ok (.aload_n 2, 1) := by decide +kernel
theorem dL_law_2471 : decode cL_law 2471 = .ok (.invokevirtual 307, 3) := by decide +kernel
theorem dL_law_2474 : decode cL_law 2474 = .ok (.if_icmp .eq 131, 3) := by decide +kernel
theorem dL_law_2477 : decode cL_law 2477 = .ok (.iconst 0, 1) := by decide +kernel
theorem dL_law_2478 : decode cL_law 2478 = .ok (.ireturn, 1) := by decide +kernel
theorem dL_law_2479 : decode cL_law 2479 = .ok (.aload_n 1, 1) := by decide +kernel
theorem dL_law_2480 : decode cL_law 2480 = .ok (.aload_n 0, 1) := by decide +kernel
theorem dL_law_2481 : decode cL_law 2481 = .ok (.iload 4, 2) := by decide +kernel
theorem dL_law_2483 : decode cL_law 2483 = .ok (.iconst 1, 1) := by decide +kernel
theorem dL_law_2484 : decode cL_law 2484 = .ok (.iadd, 1) := by decide +kernel
theorem dL_law_2485 : decode cL_law 2485 = .ok (.iaload, 1) := by decide +kernel
theorem dL_law_2486 : decode cL_law 2486 = .ok (.aload_n 3, 1) := by decide +kernel
theorem dL_law_2487 : decode cL_law 2487 = .ok (.invokestatic 308, 3) := by decide +kernel
theorem dL_law_2490 : decode cL_law 2490 = .ok (.istore 5, 2) := by decide +kernel
theorem dL_law_2492 : decode cL_law 2492 = .ok (.aload_n 2, 1) := by decide +kernel
theorem dL_law_2493 : decode cL_law 2493 = .ok (.aload_n 0, 1) := by decide +kernel
theorem dL_law_2494 : decode cL_law 2494 = .ok (.iload 4, 2) := by decide +kernel
theorem dL_law_2496 : decode cL_law 2496 = .ok (.iconst 1, 1) := by decide +kernel
theorem dL_law_2497 : decode cL_law 2497 = .ok (.iadd, 1) := by decide +kernel
theorem dL_law_2498 : decode cL_law 2498 = .ok (.iaload, 1) := by decide +kernel
theorem dL_law_2499 : decode cL_law 2499 = .ok (.invokevirtual 310, 3) := by decide +kernel
theorem dL_law_2502 : decode cL_law 2502 = .ok (.istore 6, 2) := by decide +kernel
theorem dL_law_2504 : decode cL_law 2504 = .ok (.aload_n 2, 1) := by decide +kernel
theorem dL_law_2505 : decode cL_law 2505 = .ok (.invokevirtual 142, 3) := by decide +kernel
theorem dL_law_2508 : decode cL_law 2508 = .ok (.iload 5, 2) := by decide +kernel
theorem dL_law_2510 : decode cL_law 2510 = .ok (.if_icmp .eq 5, 3) := by decide +kernel
theorem dL_law_2513 : decode cL_law 2513 = .ok (.iconst 0, 1) := by decide +kernel
theorem dL_law_2514 : decode cL_law 2514 = .ok (.ireturn, 1) := by decide +kernel
theorem dL_law_2515 : decode cL_law 2515 = .ok (.iload 5, 2) := by decide +kernel
theorem dL_law_2517 : decode cL_law 2517 = .ok (.ifCond .ne 15, 3) := by decide +kernel
theorem dL_law_2520 : decode cL_law 2520 = .ok (.aload_n 3, 1) := by decide +kernel
theorem dL_law_2521 : decode cL_law 2521 = .ok (.iconst 0, 1) := by decide +kernel
theorem dL_law_2522 : decode cL_law 2522 = .ok (.laload, 1) := by decide +kernel
theorem dL_law_2523 : decode cL_law 2523 = .ok (.iload 6, 2) := by decide +kernel
theorem dL_law_2525 : decode cL_law 2525 = .ok (.i2l, 1) := by decide +kernel
theorem dL_law_2526 : decode cL_law 2526 = .ok (.lcmp, 1) := by decide +kernel
theorem dL_law_2527 : decode cL_law 2527 = .ok (.ifCond .eq 5, 3) := by decide +kernel
theorem dL_law_2530 : decode cL_law 2530 = .ok (.iconst 0, 1) := by decide +kernel
theorem dL_law_2531 : decode cL_law 2531 = .ok (.ireturn, 1) := by decide +kernel
theorem dL_law_2532 : decode cL_law 2532 = .ok (.goto 73, 3) := by decide +kernel
theorem dL_law_2535 : decode cL_law 2535 = .ok (.aload_n 1, 1) := by decide +kernel
theorem dL_law_2536 : decode cL_law 2536 = .ok (.aload_n 0, 1) := by decide +kernel
theorem dL_law_2537 : decode cL_law 2537 = .ok (.iload 4, 2) := by decide +kernel
theorem dL_law_2539 : decode cL_law 2539 = .ok (.iconst 1, 1) := by decide +kernel
theorem dL_law_2540 : decode cL_law 2540 = .ok (.iadd, 1) := by decide +kernel
theorem dL_law_2541 : decode cL_law 2541 = .ok (.iaload, 1) := by decide +kernel
theorem dL_law_2542 : decode cL_law 2542 = .ok (.aload_n 3, 1) := by decide +kernel
theorem dL_law_2543 : decode cL_law 2543 = .ok (.invokestatic 311, 3) := by decide +kernel
theorem dL_law_2546 : decode cL_law 2546 = .ok (.istore 5, 2) := by decide +kernel
theorem dL_law_2548 : decode cL_law 2548 = .ok (.aload_n 2, 1) := by decide +kernel
theorem dL_law_2549 : decode cL_law 2549 = .ok (.aload_n 0, 1) := by decide +kernel
theorem dL_law_2550 : decode cL_law 2550 = .ok (.iload 4, 2) := by decide +kernel
theorem dL_law_2552 : decode cL_law 2552 = .ok (.iconst 1, 1) := by decide +kernel
theorem dL_law_2553 : decode cL_law 2553 = .ok (.iadd, 1) := by decide +kernel
theorem dL_law_2554 : decode cL_law 2554 = .ok (.iaload, 1) := by decide +kernel
theorem dL_law_2555 : decode cL_law 2555 = .ok (.invokevirtual 313, 3) := by decide +kernel
theorem dL_law_2558 : decode cL_law 2558 = .ok (.istore 6, 2) := by decide +kernel
theorem dL_law_2560 : decode cL_law 2560 = .ok (.aload_n 2, 1) := by decide +kernel
theorem dL_law_2561 : decode cL_law 2561 = .ok (.invokevirtual 142, 3) := by decide +kernel
theorem dL_law_2564 : decode cL_law 2564 = .ok (.iload 5, 2) := by decide +kernel
theorem dL_law_2566 : decode cL_law 2566 = .ok (.if_icmp .eq 5, 3) := by decide +kernel
theorem dL_law_2569 : decode cL_law 2569 = .ok (.iconst 0, 1) := by decide +kernel
theorem dL_law_2570 : decode cL_law 2570 = .ok (.ireturn, 1) := by decide +kernel
theorem dL_law_2571 : decode cL_law 2571 = .ok (.iload 5, 2) := by decide +kernel
theorem dL_law_2573 : decode cL_law 2573 = .ok (.ifCond .ne 15, 3) := by decide +kernel
theorem dL_law_2576 : decode cL_law 2576 = .ok (.aload_n 3, 1) := by decide +kernel
theorem dL_law_2577 : decode cL_law 2577 = .ok (.iconst 0, 1) := by decide +kernel
theorem dL_law_2578 : decode cL_law 2578 = .ok (.laload, 1) := by decide +kernel
theorem dL_law_2579 : decode cL_law 2579 = .ok (.iload 6, 2) := by decide +kernel
theorem dL_law_2581 : decode cL_law 2581 = .ok (.i2l, 1) := by decide +kernel
theorem dL_law_2582 : decode cL_law 2582 = .ok (.lcmp, 1) := by decide +kernel
theorem dL_law_2583 : decode cL_law 2583 = .ok (.ifCond .eq 5, 3) := by decide +kernel
theorem dL_law_2586 : decode cL_law 2586 = .ok (.iconst 0, 1) := by decide +kernel
theorem dL_law_2587 : decode cL_law 2587 = .ok (.ireturn, 1) := by decide +kernel
theorem dL_law_2588 : decode cL_law 2588 = .ok (.goto 17, 3) := by decide +kernel
theorem dL_law_2591 : decode cL_law 2591 = .ok (.aload_n 1, 1) := by decide +kernel
theorem dL_law_2592 : decode cL_law 2592 = .ok (.invokevirtual 314, 3) := by decide +kernel
theorem dL_law_2595 : decode cL_law 2595 = .ok (.aload_n 2, 1) := by decide +kernel
theorem dL_law_2596 : decode cL_law 2596 = .ok (.invokevirtual 318, 3) := by decide +kernel
theorem dL_law_2599 : decode cL_law 2599 = .ok (.lcmp, 1) := by decide +kernel
theorem dL_law_2600 : decode cL_law 2600 = .ok (.ifCond .eq 5, 3) := by decide +kernel
theorem dL_law_2603 : decode cL_law 2603 = .ok (.iconst 0, 1) := by decide +kernel
theorem dL_law_2604 : decode cL_law 2604 = .ok (.ireturn, 1) := by decide +kernel
theorem dL_law_2605 : decode cL_law 2605 = .ok (.iinc 4 3, 3) := by decide +kernel
theorem dL_law_2608 : decode cL_law 2608 = .ok (.goto (-2585), 3) := by decide +kernel
theorem dL_law_2611 : decode cL_law 2611 = .ok (.iconst 1, 1) := by decide +kernel
theorem dL_law_2612 : decode cL_law 2612 = .ok (.ireturn, 1) := by decide +kernel
