theorem dL_part_0 : decode cL_part 0 = .ok (.iload_n 0, 1) := by decide +kernel
theorem dL_part_1 : decode cL_part 1 = .ok (.ldc 7, 2) := by decide +kernel
theorem dL_part_3 : decode cL_part 3 = .ok (.iand, 1) := by decide +kernel
theorem dL_part_4 : decode cL_part 4 = .ok (.iload_n 1, 1) := by decide +kernel
theorem dL_part_5 : decode cL_part 5 = .ok (.irem, 1) := by decide +kernel
theorem dL_part_6 : decode cL_part 6 = .ok (.ireturn, 1) := by decide +kernel
theorem dL_drawn_0 : decode cL_drawn 0 = .ok (.aload_n 0, 1) := by decide +kernel
theorem dL_drawn_1 : decode cL_drawn 1 = .ok (.arraylength, 1) := by decide +kernel
theorem dL_drawn_2 : decode cL_drawn 2 = .ok (.ifCond .ne 13, 3) := by decide +kernel
theorem dL_drawn_5 : decode cL_drawn 5 = .ok (.sipush 7919, 3) := by decide +kernel
theorem dL_drawn_8 : decode cL_drawn 8 = .ok (.iload_n 1, 1) := by decide +kernel
theorem dL_drawn_9 : decode cL_drawn 9 = .ok (.imul, 1) := by decide +kernel
theorem dL_drawn_10 : decode cL_drawn 10 = .ok (.iconst 3, 1) := by decide +kernel
theorem dL_drawn_11 : decode cL_drawn 11 = .ok (.iadd, 1) := by decide +kernel
theorem dL_drawn_12 : decode cL_drawn 12 = .ok (.goto 27, 3) := by decide +kernel
theorem dL_drawn_15 : decode cL_drawn 15 = .ok (.aload_n 0, 1) := by decide +kernel
theorem dL_drawn_16 : decode cL_drawn 16 = .ok (.iload_n 1, 1) := by decide +kernel
theorem dL_drawn_17 : decode cL_drawn 17 = .ok (.aload_n 0, 1) := by decide +kernel
theorem dL_drawn_18 : decode cL_drawn 18 = .ok (.arraylength, 1) := by decide +kernel
theorem dL_drawn_19 : decode cL_drawn 19 = .ok (.irem, 1) := by decide +kernel
theorem dL_drawn_20 : decode cL_drawn 20 = .ok (.iaload, 1) := by decide +kernel
theorem dL_drawn_21 : decode cL_drawn 21 = .ok (.iload_n 1, 1) := by decide +kernel
theorem dL_drawn_22 : decode cL_drawn 22 = .ok (.bipush 7, 2) := by decide +kernel
theorem dL_drawn_24 : decode cL_drawn 24 = .ok (.irem, 1) := by decide +kernel
theorem dL_drawn_25 : decode cL_drawn 25 = .ok (.ishr, 1) := by decide +kernel
theorem dL_drawn_26 : decode cL_drawn 26 = .ok (.iload_n 1, 1) := by decide +kernel
theorem dL_drawn_27 : decode cL_drawn 27 = .ok (.aload_n 0, 1) := by decide +kernel
theorem dL_drawn_28 : decode cL_drawn 28 = .ok (.arraylength, 1) := by decide +kernel
theorem dL_drawn_29 : decode cL_drawn 29 = .ok (.idiv, 1) := by decide +kernel
theorem dL_drawn_30 : decode cL_drawn 30 = .ok (.bipush 31, 2) := by decide +kernel
theorem dL_drawn_32 : decode cL_drawn 32 = .ok (.imul, 1) := by decide +kernel
theorem dL_drawn_33 : decode cL_drawn 33 = .ok (.ixor, 1) := by decide +kernel
theorem dL_drawn_34 : decode cL_drawn 34 = .ok (.iload_n 1, 1) := by decide +kernel
theorem dL_drawn_35 : decode cL_drawn 35 = .ok (.ldc 8, 2) := by decide +kernel
theorem dL_drawn_37 : decode cL_drawn 37 = .ok (.imul, 1) := by decide +kernel
theorem dL_drawn_38 : decode cL_drawn 38 = .ok (.ixor, 1) := by decide +kernel
theorem dL_drawn_39 : decode cL_drawn 39 = .ok (.ireturn, 1) := by decide +kernel
theorem dL_call_0 : decode cL_call 0 = .ok (.iload_n 1, 1) := by decide +kernel
theorem dL_call_1 : decode cL_call 1 = .ok (.bipush 12, 2) := by decide +kernel
theorem dL_call_3 : decode cL_call 3 = .ok (.if_icmp .ge 13, 3) := by decide +kernel
theorem dL_call_6 : decode cL_call 6 = .ok (.aload_n 0, 1) := by decide +kernel
theorem dL_call_7 : decode cL_call 7 = .ok (.iload_n 1, 1) := by decide +kernel
theorem dL_call_8 : decode cL_call 8 = .ok (.iload_n 2, 1) := by decide +kernel
theorem dL_call_9 : decode cL_call 9 = .ok (.iload_n 3, 1) := by decide +kernel
theorem dL_call_10 : decode cL_call 10 = .ok (.invokestatic 9, 3) := by decide +kernel
theorem dL_call_13 : decode cL_call 13 = .ok (.goto 26, 3) := by decide +kernel
theorem dL_call_16 : decode cL_call 16 = .ok (.iload_n 1, 1) := by decide +kernel
theorem dL_call_17 : decode cL_call 17 = .ok (.bipush 22, 2) := by decide +kernel
theorem dL_call_19 : decode cL_call 19 = .ok (.if_icmp .ge 13, 3) := by decide +kernel
theorem dL_call_22 : decode cL_call 22 = .ok (.aload_n 0, 1) := by decide +kernel
theorem dL_call_23 : decode cL_call 23 = .ok (.iload_n 1, 1) := by decide +kernel
theorem dL_call_24 : decode cL_call 24 = .ok (.iload_n 2, 1) := by decide +kernel
theorem dL_call_25 : decode cL_call 25 = .ok (.iload_n 3, 1) := by decide +kernel
theorem dL_call_26 : decode cL_call 26 = .ok (.invokestatic 15, 3) := by decide +kernel
theorem dL_call_29 : decode cL_call 29 = .ok (.goto 10, 3) := by decide +kernel
theorem dL_call_32 : decode cL_call 32 = .ok (.aload_n 0, 1) := by decide +kernel
theorem dL_call_33 : decode cL_call 33 = .ok (.iload_n 1, 1) := by decide +kernel
theorem dL_call_34 : decode cL_call 34 = .ok (.iload_n 2, 1) := by decide +kernel
theorem dL_call_35 : decode cL_call 35 = .ok (.iload_n 3, 1) := by decide +kernel
theorem dL_call_36 : decode cL_call 36 = .ok (.invokestatic 18, 3) := by decide +kernel
theorem dL_call_39 : decode cL_call 39 = .ok (.ireturn, 1) := by decide +kernel
theorem dL_call_40 : decode cL_call 40 = .ok (.astore 4, 2) := by decide +kernel
theorem dL_call_42 : decode cL_call 42 = .ok (.sipush (-2011), 3) := by decide +kernel
theorem dL_call_45 : decode cL_call 45 = .ok (.ireturn, 1) := by decide +kernel
theorem dL_call_46 : decode cL_call 46 = .ok (.astore 4, 2) := by decide +kernel
theorem dL_call_48 : decode cL_call 48 = .ok (.sipush (-2012), 3) := by decide +kernel
theorem dL_call_51 : decode cL_call 51 = .ok (.ireturn, 1) := by decide +kernel
theorem dL_call_52 : decode cL_call 52 = .ok (.astore 4, 2) := by decide +kernel
theorem dL_call_54 : decode cL_call 54 = .ok (.sipush (-2013), 3) := by decide +kernel
theorem dL_call_57 : decode cL_call 57 = .ok (.ireturn, 1) := by decide +kernel
theorem dL_act_0 : decode cL_act 0 = .ok (.iload_n 1, 1) := by decide +kernel
theorem dL_act_1 : decode cL_act 1 = .ok (.ifCond .ne 12, 3) := by decide +kernel
theorem dL_act_4 : decode cL_act 4 = .ok (.aload_n 0, 1) := by decide +kernel
theorem dL_act_5 : decode cL_act 5 = .ok (.iload_n 2, 1) := by decide +kernel
theorem dL_act_6 : decode cL_act 6 = .ok (.iload_n 3, 1) := by decide +kernel
theorem dL_act_7 : decode cL_act 7 = .ok (.invokevirtual 27, 3) := by decide +kernel
theorem dL_act_10 : decode cL_act 10 = .ok (.goto 140, 3) := by decide +kernel
theorem dL_act_13 : decode cL_act 13 = .ok (.iload_n 1, 1) := by decide +kernel
theorem dL_act_14 : decode cL_act 14 = .ok (.iconst 1, 1) := by decide +kernel
theorem dL_act_15 : decode cL_act 15 = .ok (.if_icmp .ne 11, 3) := by decide +kernel
theorem dL_act_18 : decode cL_act 18 = .ok (.aload_n 0, 1) := by decide +kernel
theorem dL_act_19 : decode cL_act 19 = .ok (.iload_n 2, 1) := by decide +kernel
theorem dL_act_20 : decode cL_act 20 = .ok (.invokevirtual 33, 3) := by decide +kernel
theorem dL_act_23 : decode cL_act 23 = .ok (.goto 127, 3) := by decide +kernel
theorem dL_act_26 : decode cL_act 26 = .ok (.iload_n 1, 1) := by decide +kernel
theorem dL_act_27 : decode cL_act 27 = .ok (.iconst 2, 1) := by decide +kernel
theorem dL_act_28 : decode cL_act 28 = .ok (.if_icmp .ne 10, 3) := by decide +kernel
theorem dL_act_31 : decode cL_act 31 = .ok (.aload_n 0, 1) := by decide +kernel
theorem dL_act_32 : decode cL_act 32 = .ok (.invokevirtual 37, 3) := by decide +kernel
theorem dL_act_35 : decode cL_act 35 = .ok (.goto 115, 3) := by decide +kernel
theorem dL_act_38 : decode cL_act 38 = .ok (.iload_n 1, 1) := by decide +kernel
theorem dL_act_39 : decode cL_act 39 = .ok (.iconst 3, 1) := by decide +kernel
theorem dL_act_40 : decode cL_act 40 = .ok (.if_icmp .ne 10, 3) := by decide +kernel
theorem dL_act_43 : decode cL_act 43 = .ok (.aload_n 0, 1) := by decide +kernel
theorem dL_act_44 : decode cL_act 44 = .ok (.invokevirtual 41, 3) := by decide +kernel
theorem dL_act_47 : decode cL_act 47 = .ok (.goto 103, 3) := by decide +kernel
theorem dL_act_50 : decode cL_act 50 = .ok (.iload_n 1, 1) := by decide +kernel
theorem dL_act_51 : decode cL_act 51 = .ok (.iconst 4, 1) := by decide +kernel
theorem dL_act_52 : decode cL_act 52 = .ok (.if_icmp .ne 11, 3) := by decide +kernel
theorem dL_act_55 : decode cL_act 55 = .ok (.aload_n 0, 1) := by decide +kernel
theorem dL_act_56 : decode cL_act 56 = .ok (.iload_n 2, 1) := by decide +kernel
theorem dL_act_57 : decode cL_act 57 = .ok (.invokevirtual 44, 3) := by decide +kernel
theorem dL_act_60 : decode cL_act 60 = .ok (.goto 90, 3) := by decide +kernel
theorem dL_act_63 : decode cL_act 63 = .ok (.iload_n 1, 1) := by decide +kernel
theorem dL_act_64 : decode cL_act 64 = .ok (.iconst 5, 1) := by decide +kernel
theorem dL_act_65 : decode cL_act 65 = .ok (.if_icmp .ne 12, 3) := by decide +kernel
theorem dL_act_68 : decode cL_act 68 = .ok (.aload_n 0, 1) := by decide +kernel
theorem dL_act_69 : decode cL_act 69 = .ok (.iload_n 2, 1) := by decide +kernel
theorem dL_act_70 : decode cL_act 70 = .ok (.iload_n 3, 1) := by decide +kernel
theorem dL_act_71 : decode cL_act 71 = .ok (.invokevirtual 47, 3) := by decide +kernel
theorem dL_act_74 : decode cL_act 74 = .ok (.goto 76, 3) := by decide +kernel
theorem dL_act_77 : decode cL_act 77 = .ok (.iload_n 1, 1) := by decide +kernel
theorem dL_act_78 : decode cL_act 78 = .ok (.bipush 6, 2) := by decide +kernel
theorem dL_act_80 : decode cL_act 80 = .ok (.if_icmp .ne 11, 3) := by decide +kernel
theorem dL_act_83 : decode cL_act 83 = .ok (.aload_n 0, 1) := by decide +kernel
theorem dL_act_84 : decode cL_act 84 = .ok (.iload_n 2, 1) := by decide +kernel
theorem dL_act_85 : decode cL_act 85 = .ok (.invokevirtual 50, 3) := by decide +kernel
theorem dL_act_88 : decode cL_act 88 = .ok (.goto 62, 3) := by decide +kernel
theorem dL_act_91 : decode cL_act 91 = .ok (.iload_n 1, 1) := by decide +kernel
theorem dL_act_92 : decode cL_act 92 = .ok (.bipush 7, 2) := by decide +kernel
theorem dL_act_94 : decode cL_act 94 = .ok (.if_icmp .ne 11, 3) := by decide +kernel
theorem dL_act_97 : decode cL_act 97 = .ok (.aload_n 0, 1) := by decide +kernel
theorem dL_act_98 : decode cL_act 98 = .ok (.iload_n 2, 1) := by decide +kernel
theorem dL_act_99 : decode cL_act 99 = .ok (.invokevirtual 53, 3) := by decide +kernel
theorem dL_act_102 : decode cL_act 102 = .ok (.goto 48, 3) := by decide +kernel
theorem dL_act_105 : decode cL_act 105 = .ok (.iload_n 1, 1) := by decide +kernel
theorem dL_act_106 : decode cL_act 106 = .ok (.bipush 8, 2) := by decide +kernel
theorem dL_act_108 : decode cL_act 108 = .ok (.if_icmp .ne 11, 3) := by decide +kernel
theorem dL_act_111 : decode cL_act 111 = .ok (.aload_n 0, 1) := by decide +kernel
theorem dL_act_112 : decode cL_act 112 = .ok (.iload_n 2, 1) := by decide +kernel
theorem dL_act_113 : decode cL_act 113 = .ok (.invokevirtual 56, 3) := by decide +kernel
theorem dL_act_116 : decode cL_act 116 = .ok (.goto 34, 3) := by decide +kernel
theorem dL_act_119 : decode cL_act 119 = .ok (.iload_n 1, 1) := by decide +kernel
theorem dL_act_120 : decode cL_act 120 = .ok (.bipush 9, 2) := by decide +kernel
theorem dL_act_122 : decode cL_act 122 = .ok (.if_icmp .ne 11, 3) := by decide +kernel
theorem dL_act_125 : decode cL_act 125 = .ok (.aload_n 0, 1) := by decide +kernel
theorem dL_act_126 : decode cL_act 126 = .ok (.iload_n 2, 1) := by decide +kernel
theorem dL_act_127 : decode cL_act 127 = .ok (.invokevirtual 59, 3) := by decide +kernel
theorem dL_act_130 : decode cL_act 130 = .ok (.goto 20, 3) := by decide +kernel
theorem dL_act_133 : decode cL_act 133 = .ok (.iload_n 1, 1) := by decide +kernel
theorem dL_act_134 : decode cL_act 134 = .ok (.bipush 10, 2) := by decide +kernel
theorem dL_act_136 : decode cL_act 136 = .ok (.if_icmp .ne 10, 3) := by decide +kernel
theorem dL_act_139 : decode cL_act 139 = .ok (.aload_n 0, 1) := by decide +kernel
theorem dL_act_140 : decode cL_act 140 = .ok (.invokevirtual 62, 3) := by decide +kernel
theorem dL_act_143 : decode cL_act 143 = .ok (.goto 7, 3) := by decide +kernel
theorem dL_act_146 : decode cL_act 146 = .ok (.aload_n 0, 1) := by decide +kernel
theorem dL_act_147 : decode cL_act 147 = .ok (.invokevirtual 65, 3) := by decide +kernel
theorem dL_act_150 : decode cL_act 150 = .ok (.ireturn, 1) := by decide +kernel
theorem dL_find_0 : decode cL_find 0 = .ok (.iload_n 1, 1) := by decide +kernel
theorem dL_find_1 : decode cL_find 1 = .ok (.bipush 12, 2) := by decide +kernel
theorem dL_find_3 : decode cL_find 3 = .ok (.if_icmp .ne 19, 3) := by decide +kernel
theorem dL_find_6 : decode cL_find 6 = .ok (.aload_n 0, 1) := by decide +kernel
theorem dL_find_7 : decode cL_find 7 = .ok (.iload_n 2, 1) := by decide +kernel
theorem dL_find_8 : decode cL_find 8 = .ok (.invokevirtual 68, 3) := by decide +kernel
theorem dL_find_11 : decode cL_find 11 = .ok (.ifCond .eq 7, 3) := by decide +kernel
theorem dL_find_14 : decode cL_find 14 = .ok (.iconst 1, 1) := by decide +kernel
theorem dL_find_15 : decode cL_find 15 = .ok (.goto 134, 3) := by decide +kernel
theorem dL_find_18 : decode cL_find 18 = .ok (.iconst 0, 1) := by decide +kernel
theorem dL_find_19 : decode cL_find 19 = .ok (.goto 130, 3) := by decide +kernel
theorem dL_find_22 : decode cL_find 22 = .ok (.iload_n 1, 1) := by decide +kernel
theorem dL_find_23 : decode cL_find 23 = .ok (.bipush 13, 2) := by decide +kernel
theorem dL_find_25 : decode cL_find 25 = .ok (.if_icmp .ne 19, 3) := by decide +kernel
theorem dL_find_28 : decode cL_find 28 = .ok (.aload_n 0, 1) := by decide +kernel
theorem dL_find_29 : decode cL_find 29 = .ok (.iload_n 2, 1) := by decide +kernel
theorem dL_find_30 : decode cL_find 30 = .ok (.invokevirtual 72, 3) := by decide +kernel
theorem dL_find_33 : decode cL_find 33 = .ok (.ifCond .eq 7, 3) := by decide +kernel
theorem dL_find_36 : decode cL_find 36 = .ok (.iconst 1, 1) := by decide +kernel
theorem dL_find_37 : decode cL_find 37 = .ok (.goto 112, 3) := by decide +kernel
theorem dL_find_40 : decode cL_find 40 = .ok (.iconst 0, 1) := by decide +kernel
theorem dL_find_41 : decode cL_find 41 = .ok (.goto 108, 3) := by decide +kernel
theorem dL_find_44 : decode cL_find 44 = .ok (.iload_n 1, 1) := by decide +kernel
theorem dL_find_45 : decode cL_find 45 = .ok (.bipush 14, 2) := by decide +kernel
theorem dL_find_47 : decode cL_find 47 = .ok (.if_icmp .ne 11, 3) := by decide +kernel
theorem dL_find_50 : decode cL_find 50 = .ok (.aload_n 0, 1) := by decide +kernel
theorem dL_find_51 : decode cL_find 51 = .ok (.iload_n 2, 1) := by decide +kernel
theorem dL_find_52 : decode cL_find 52 = .ok (.invokevirtual 75, 3) := by decide +kernel
theorem dL_find_55 : decode cL_find 55 = .ok (.goto 94, 3) := by decide +kernel
theorem dL_find_58 : decode cL_find 58 = .ok (.iload_n 1, 1) := by decide +kernel
theorem dL_find_59 : decode cL_find 59 = .ok (.bipush 15, 2) := by decide +kernel
theorem dL_find_61 : decode cL_find 61 = .ok (.if_icmp .ne 11, 3) := by decide +kernel
theorem dL_find_64 : decode cL_find 64 = .ok (.aload_n 0, 1) := by decide +kernel
theorem dL_find_65 : decode cL_find 65 = .ok (.iload_n 2, 1) := by decide +kernel
theorem dL_find_66 : decode cL_find 66 = .ok (.invokevirtual 78, 3) := by decide +kernel
theorem dL_find_69 : decode cL_find 69 = .ok (.goto 80, 3) := by decide +kernel
theorem dL_find_72 : decode cL_find 72 = .ok (.iload_n 1, 1) := by decide +kernel
theorem dL_find_73 : decode cL_find 73 = .ok (.bipush 16, 2) := by decide +kernel
theorem dL_find_75 : decode cL_find 75 = .ok (.if_icmp .ne 12, 3) := by decide +kernel
theorem dL_find_78 : decode cL_find 78 = .ok (.aload_n 0, 1) := by decide +kernel
theorem dL_find_79 : decode cL_find 79 = .ok (.iload_n 2, 1) := by decide +kernel
theorem dL_find_80 : decode cL_find 80 = .ok (.iload_n 3, 1) := by decide +kernel
theorem dL_find_81 : decode cL_find 81 = .ok (.invokevirtual 81, 3) := by decide +kernel
theorem dL_find_84 : decode cL_find 84 = .ok (.goto 65, 3) := by decide +kernel
theorem dL_find_87 : decode cL_find 87 = .ok (.iload_n 1, 1) := by decide +kernel
theorem dL_find_88 : decode cL_find 88 = .ok (.bipush 17, 2) := by decide +kernel
theorem dL_find_90 : decode cL_find 90 = .ok (.if_icmp .ne 12, 3) := by decide +kernel
theorem dL_find_93 : decode cL_find 93 = .ok (.aload_n 0, 1) := by decide +kernel
theorem dL_find_94 : decode cL_find 94 = .ok (.iload_n 2, 1) := by decide +kernel
theorem dL_find_95 : decode cL_find 95 = .ok (.iload_n 3, 1) := by decide +kernel
theorem dL_find_96 : decode cL_find 96 = .ok (.invokevirtual 84, 3) := by decide +kernel
theorem dL_find_99 : decode cL_find 99 = .ok (.goto 50, 3) := by decide +kernel
theorem dL_find_102 : decode cL_find 102 = .ok (.iload_n 1, 1) := by decide +kernel
theorem dL_find_103 : decode cL_find 103 = .ok (.bipush 18, 2) := by decide +kernel
theorem dL_find_105 : decode cL_find 105 = .ok (.if_icmp .ne 11, 3) := by decide +kernel
theorem dL_find_108 : decode cL_find 108 = .ok (.aload_n 0, 1) := by decide +kernel
theorem dL_find_109 : decode cL_find 109 = .ok (.iload_n 2, 1) := by decide +kernel
theorem dL_find_110 : decode cL_find 110 = .ok (.invokevirtual 87, 3) := by decide +kernel
theorem dL_find_113 : decode cL_find 113 = .ok (.goto 36, 3) := by decide +kernel
theorem dL_find_116 : decode cL_find 116 = .ok (.iload_n 1, 1) := by decide +kernel
theorem dL_find_117 : decode cL_find 117 = .ok (.bipush 19, 2) := by decide +kernel
theorem dL_find_119 : decode cL_find 119 = .ok (.if_icmp .ne 11, 3) := by decide +kernel
theorem dL_find_122 : decode cL_find 122 = .ok (.aload_n 0, 1) := by decide +kernel
theorem dL_find_123 : decode cL_find 123 = .ok (.iload_n 2, 1) := by decide +kernel
theorem dL_find_124 : decode cL_find 124 = .ok (.invokevirtual 90, 3) := by decide +kernel
theorem dL_find_127 : decode cL_find 127 = .ok (.goto 22, 3) := by decide +kernel
theorem dL_find_130 : decode cL_find 130 = .ok (.iload_n 1, 1) := by decide +kernel
theorem dL_find_131 : decode cL_find 131 = .ok (.bipush 20, 2) := by decide +kernel
theorem dL_find_133 : decode cL_find 133 = .ok (.if_icmp .ne 11, 3) := by decide +kernel
theorem dL_find_136 : decode cL_find 136 = .ok (.aload_n 0, 1) := by decide +kernel
theorem dL_find_137 : decode cL_find 137 = .ok (.iload_n 2, 1) := by decide +kernel
theorem dL_find_138 : decode cL_find 138 = .ok (.invokevirtual 93, 3) := by decide +kernel
theorem dL_find_141 : decode cL_find 141 = .ok (.goto 8, 3) := by decide +kernel
theorem dL_find_144 : decode cL_find 144 = .ok (.aload_n 0, 1) := by decide +kernel
theorem dL_find_145 : decode cL_find 145 = .ok (.iload_n 2, 1) := by decide +kernel
theorem dL_find_146 : decode cL_find 146 = .ok (.invokevirtual 96, 3) := by decide +kernel
theorem dL_find_149 : decode cL_find 149 = .ok (.ireturn, 1) := by decide +kernel
theorem dL_tree_0 : decode cL_tree 0 = .ok (.iload_n 1, 1) := by decide +kernel
theorem dL_tree_1 : decode cL_tree 1 = .ok (.bipush 22, 2) := by decide +kernel
theorem dL_tree_3 : decode cL_tree 3 = .ok (.if_icmp .ne 11, 3) := by decide +kernel
theorem dL_tree_6 : decode cL_tree 6 = .ok (.aload_n 0, 1) := by decide +kernel
theorem dL_tree_7 : decode cL_tree 7 = .ok (.iload_n 2, 1) := by decide +kernel
theorem dL_tree_8 : decode cL_tree 8 = .ok (.invokevirtual 99, 3) := by decide +kernel
theorem dL_tree_11 : decode cL_tree 11 = .ok (.goto 175, 3) := by decide +kernel
theorem dL_tree_14 : decode cL_tree 14 = .ok (.iload_n 1, 1) := by decide +kernel
theorem dL_tree_15 : decode cL_tree 15 = .ok (.bipush 23, 2) := by decide +kernel
theorem dL_tree_17 : decode cL_tree 17 = .ok (.if_icmp .ne 12, 3) := by decide +kernel
theorem dL_tree_20 : decode cL_tree 20 = .ok (.aload_n 0, 1) := by decide +kernel
theorem dL_tree_21 : decode cL_tree 21 = .ok (.iload_n 2, 1) := by decide +kernel
theorem dL_tree_22 : decode cL_tree 22 = .ok (.iload_n 3, 1) := by decide +kernel
theorem dL_tree_23 : decode cL_tree 23 = .ok (.invokevirtual 102, 3) := by decide +kernel
theorem dL_tree_26 : decode cL_tree 26 = .ok (.goto 160, 3) := by decide +kernel
theorem dL_tree_29 : decode cL_tree 29 = .ok (.iload_n 1, 1) := by decide +kernel
theorem dL_tree_30 : decode cL_tree 30 = .ok (.bipush 24, 2) := by decide +kernel
theorem dL_tree_32 : decode cL_tree 32 = .ok (.if_icmp .ne 20, 3) := by decide +kernel
theorem dL_tree_35 : decode cL_tree 35 = .ok (.aload_n 0, 1) := by decide +kernel
theorem dL_tree_36 : decode cL_tree 36 = .ok (.iload_n 2, 1) := by decide +kernel
theorem dL_tree_37 : decode cL_tree 37 = .ok (.iload_n 3, 1) := by decide +kernel
theorem dL_tree_38 : decode cL_tree 38 = .ok (.invokevirtual 105, 3) := by decide +kernel
theorem dL_tree_41 : decode cL_tree 41 = .ok (.ifCond .eq 7, 3) := by decide +kernel
theorem dL_tree_44 : decode cL_tree 44 = .ok (.iconst 1, 1) := by decide +kernel
theorem dL_tree_45 : decode cL_tree 45 = .ok (.goto 141, 3) := by decide +kernel
theorem dL_tree_48 : decode cL_tree 48 = .ok (.iconst 0, 1) := by decide +kernel
theorem dL_tree_49 : decode cL_tree 49 = .ok (.goto 137, 3) := by decide +kernel
theorem dL_tree_52 : decode cL_tree 52 = .ok (.iload_n 1, 1) := by decide +kernel
theorem dL_tree_53 : decode cL_tree 53 = .ok (.bipush 25, 2) := by decide +kernel
theorem dL_tree_55 : decode cL_tree 55 = .ok (.if_icmp .ne 11, 3) := by decide +kernel
theorem dL_tree_58 : decode cL_tree 58 = .ok (.aload_n 0, 1) := by decide +kernel
theorem dL_tree_59 : decode cL_tree 59 = .ok (.iload_n 2, 1) := by decide +kernel
theorem dL_tree_60 : decode cL_tree 60 = .ok (.invokevirtual 109, 3) := by decide +kernel
theorem dL_tree_63 : decode cL_tree 63 = .ok (.goto 123, 3) := by decide +kernel
theorem dL_tree_66 : decode cL_tree 66 = .ok (.iload_n 1, 1) := by decide +kernel
theorem dL_tree_67 : decode cL_tree 67 = .ok (.bipush 26, 2) := by decide +kernel
theorem dL_tree_69 : decode cL_tree 69 = .ok (.if_icmp .ne 12, 3) := by decide +kernel
theorem dL_tree_72 : decode cL_tree 72 = .ok (.aload_n 0, 1) := by decide +kernel
theorem dL_tree_73 : decode cL_tree 73 = .ok (.iload_n 2, 1) := by decide +kernel
theorem dL_tree_74 : decode cL_tree 74 = .ok (.iload_n 3, 1) := by decide +kernel
theorem dL_tree_75 : decode cL_tree 75 = .ok (.invokevirtual 112, 3) := by decide +kernel
theorem dL_tree_78 : decode cL_tree 78 = .ok (.goto 108, 3) := by decide +kernel
theorem dL_tree_81 : decode cL_tree 81 = .ok (.iload_n 1, 1) := by decide +kernel
theorem dL_tree_82 : decode cL_tree 82 = .ok (.bipush 27, 2) := by decide +kernel
theorem dL_tree_84 : decode cL_tree 84 = .ok (.if_icmp .ne 11, 3) := by decide +kernel
theorem dL_tree_87 : decode cL_tree 87 = .ok (.aload_n 0, 1) := by decide +kernel
theorem dL_tree_88 : decode cL_tree 88 = .ok (.iload_n 2, 1) := by decide +kernel
theorem dL_tree_89 : decode cL_tree 89 = .ok (.invokevirtual 115, 3) := by decide +kernel
theorem dL_tree_92 : decode cL_tree 92 = .ok (.goto 94, 3) := by decide +kernel
theorem dL_tree_95 : decode cL_tree 95 = .ok (.iload_n 1, 1) := by decide +kernel
theorem dL_tree_96 : decode cL_tree 96 = .ok (.bipush 28, 2) := by decide +kernel
theorem dL_tree_98 : decode cL_tree 98 = .ok (.if_icmp .ne 11, 3) := by decide +kernel
theorem dL_tree_101 : decode cL_tree 101 = .ok (.aload_n 0, 1) := by decide +kernel
theorem dL_tree_102 : decode cL_tree 102 = .ok (.iload_n 2, 1) := by decide +kernel
theorem dL_tree_103 : decode cL_tree 103 = .ok (.invokevirtual 118, 3) := by decide +kernel
theorem dL_tree_106 : decode cL_tree 106 = .ok (.goto 80, 3) := by decide +kernel
theorem dL_tree_109 : decode cL_tree 109 = .ok (.iload_n 1, 1) := by decide +kernel
theorem dL_tree_110 : decode cL_tree 110 = .ok (.bipush 29, 2) := by decide +kernel
theorem dL_tree_112 : decode cL_tree 112 = .ok (.if_icmp .ne 11, 3) := by decide +kernel
theorem dL_tree_115 : decode cL_tree 115 = .ok (.aload_n 0, 1) := by decide +kernel
theorem dL_tree_116 : decode cL_tree 116 = .ok (.iload_n 2, 1) := by decide +kernel
theorem dL_tree_117 : decode cL_tree 117 = .ok (.invokevirtual 121, 3) := by decide +kernel
theorem dL_tree_120 : decode cL_tree 120 = .ok (.goto 66, 3) := by decide +kernel
theorem dL_tree_123 : decode cL_tree 123 = .ok (.iload_n 1, 1) := by decide +kernel
theorem dL_tree_124 : decode cL_tree 124 = .ok (.bipush 30, 2) := by decide +kernel
theorem dL_tree_126 : decode cL_tree 126 = .ok (.if_icmp .ne 12, 3) := by decide +kernel
theorem dL_tree_129 : decode cL_tree 129 = .ok (.aload_n 0, 1) := by decide +kernel
theorem dL_tree_130 : decode cL_tree 130 = .ok (.iload_n 2, 1) := by decide +kernel
theorem dL_tree_131 : decode cL_tree 131 = .ok (.iload_n 3, 1) := by decide +kernel
theorem dL_tree_132 : decode cL_tree 132 = .ok (.invokevirtual 124, 3) := by decide +kernel
theorem dL_tree_135 : decode cL_tree 135 = .ok (.goto 51, 3) := by decide +kernel
theorem dL_tree_138 : decode cL_tree 138 = .ok (.iload_n 1, 1) := by decide +kernel
theorem dL_tree_139 : decode cL_tree 139 = .ok (.bipush 31, 2) := by decide +kernel
theorem dL_tree_141 : decode cL_tree 141 = .ok (.if_icmp .ne 12, 3) := by decide +kernel
theorem dL_tree_144 : decode cL_tree 144 = .ok (.aload_n 0, 1) := by decide +kernel
theorem dL_tree_145 : decode cL_tree 145 = .ok (.iload_n 2, 1) := by decide +kernel
theorem dL_tree_146 : decode cL_tree 146 = .ok (.iload_n 3, 1) := by decide +kernel
theorem dL_tree_147 : decode cL_tree 147 = .ok (.invokevirtual 127, 3) := by decide +kernel
theorem dL_tree_150 : decode cL_tree 150 = .ok (.goto 36, 3) := by decide +kernel
theorem dL_tree_153 : decode cL_tree 153 = .ok (.iload_n 1, 1) := by decide +kernel
theorem dL_tree_154 : decode cL_tree 154 = .ok (.bipush 32, 2) := by decide +kernel
theorem dL_tree_156 : decode cL_tree 156 = .ok (.if_icmp .ne 11, 3) := by decide +kernel
theorem dL_tree_159 : decode cL_tree 159 = .ok (.aload_n 0, 1) := by decide +kernel
theorem dL_tree_160 : decode cL_tree 160 = .ok (.iload_n 2, 1) := by decide +kernel
theorem dL_tree_161 : decode cL_tree 161 = .ok (.invokevirtual 130, 3) := by decide +kernel
theorem dL_tree_164 : decode cL_tree 164 = .ok (.goto 22, 3) := by decide +kernel
theorem dL_tree_167 : decode cL_tree 167 = .ok (.iload_n 1, 1) := by decide +kernel
theorem dL_tree_168 : decode cL_tree 168 = .ok (.bipush 33, 2) := by decide +kernel
theorem dL_tree_170 : decode cL_tree 170 = .ok (.if_icmp .ne 11, 3) := by decide +kernel
theorem dL_tree_173 : decode cL_tree 173 = .ok (.aload_n 0, 1) := by decide +kernel
theorem dL_tree_174 : decode cL_tree 174 = .ok (.iload_n 2, 1) := by decide +kernel
theorem dL_tree_175 : decode cL_tree 175 = .ok (.invokevirtual 133, 3) := by decide +kernel
theorem dL_tree_178 : decode cL_tree 178 = .ok (.goto 8, 3) := by decide +kernel
theorem dL_tree_181 : decode cL_tree 181 = .ok (.aload_n 0, 1) := by decide +kernel
theorem dL_tree_182 : decode cL_tree 182 = .ok (.iload_n 2, 1) := by decide +kernel
theorem dL_tree_183 : decode cL_tree 183 = .ok (.invokevirtual 136, 3) := by decide +kernel
theorem dL_tree_186 : decode cL_tree 186 = .ok (.ireturn, 1) := by decide +kernel
theorem dL_seen_0 : decode cL_seen 0 = .ok (.ldc2_w 139, 3) := by decide +kernel
theorem dL_seen_3 : decode cL_seen 3 = .ok (.lstore_n 1, 1) := by decide +kernel
theorem dL_seen_4 : decode cL_seen 4 = .ok (.ldc2_w 141, 3) := by decide +kernel
theorem dL_seen_7 : decode cL_seen 7 = .ok (.ldc2_w 141, 3) := by decide +kernel
theorem dL_seen_10 : decode cL_seen 10 = .ok (.ldc2_w 141, 3) := by decide +kernel
theorem dL_seen_13 : decode cL_seen 13 = .ok (.ldc2_w 141, 3) := by decide +kernel
theorem dL_seen_16 : decode cL_seen 16 = .ok (.lload_n 1, 1) := by decide +kernel
theorem dL_seen_17 : decode cL_seen 17 = .ok (.lmul, 1) := by decide +kernel
theorem dL_seen_18 : decode cL_seen 18 = .ok (.aload_n 0, 1) := by decide +kernel
theorem dL_seen_19 : decode cL_seen 19 = .ok (.invokevirtual 143, 3) := by decide +kernel
theorem dL_seen_22 : decode cL_seen 22 = .ok (.i2l, 1) := by decide +kernel
theorem dL_seen_23 : decode cL_seen 23 = .ok (.ladd, 1) := by decide +kernel
theorem dL_seen_24 : decode cL_seen 24 = .ok (.lmul, 1) := by decide +kernel
theorem dL_seen_25 : decode cL_seen 25 = .ok (.aload_n 0, 1) := by decide +kernel
theorem dL_seen_26 : decode cL_seen 26 = .ok (.invokevirtual 146, 3) := by decide +kernel
theorem dL_seen_29 : decode cL_seen 29 = .ok (.i2l, 1) := by decide +kernel
theorem dL_seen_30 : decode cL_seen 30 = .ok (.ladd, 1) := by decide +kernel
theorem dL_seen_31 : decode cL_seen 31 = .ok (.lmul, 1) := by decide +kernel
theorem dL_seen_32 : decode cL_seen 32 = .ok (.aload_n 0, 1) := by decide +kernel
theorem dL_seen_33 : decode cL_seen 33 = .ok (.invokevirtual 149, 3) := by decide +kernel
theorem dL_seen_36 : decode cL_seen 36 = .ok (.i2l, 1) := by decide +kernel
theorem dL_seen_37 : decode cL_seen 37 = .ok (.ladd, 1) := by decide +kernel
theorem dL_seen_38 : decode cL_seen 38 = .ok (.lmul, 1) := by decide +kernel
theorem dL_seen_39 : decode cL_seen 39 = .ok (.aload_n 0, 1) := by decide +kernel
theorem dL_seen_40 : decode cL_seen 40 = .ok (.invokevirtual 152, 3) := by decide +kernel
theorem dL_seen_43 : decode cL_seen 43 = .ok (.i2l, 1) := by decide +kernel
theorem dL_seen_44 : decode cL_seen 44 = .ok (.ladd, 1) := by decide +kernel
theorem dL_seen_45 : decode cL_seen 45 = .ok (.lstore_n 1, 1) := by decide +kernel
theorem dL_seen_46 : decode cL_seen 46 = .ok (.ldc2_w 141, 3) := by decide +kernel
theorem dL_seen_49 : decode cL_seen 49 = .ok (.ldc2_w 141, 3) := by decide +kernel
theorem dL_seen_52 : decode cL_seen 52 = .ok (.lload_n 1, 1) := by decide +kernel
theorem dL_seen_53 : decode cL_seen 53 = .ok (.lmul, 1) := by decide +kernel
theorem dL_seen_54 : decode cL_seen 54 = .ok (.aload_n 0, 1) := by decide +kernel
theorem dL_seen_55 : decode cL_seen 55 = .ok (.bipush 100, 2) := by decide +kernel
theorem dL_seen_57 : decode cL_seen 57 = .ok (.invokevirtual 133, 3) := by decide +kernel
theorem dL_seen_60 : decode cL_seen 60 = .ok (.i2l, 1) := by decide +kernel
theorem dL_seen_61 : decode cL_seen 61 = .ok (.ladd, 1) := by decide +kernel
theorem dL_seen_62 : decode cL_seen 62 = .ok (.lmul, 1) := by decide +kernel
theorem dL_seen_63 : decode cL_seen 63 = .ok (.aload_n 0, 1) := by decide +kernel
theorem dL_seen_64 : decode cL_seen 64 = .ok (.bipush 50, 2) := by decide +kernel
theorem dL_seen_66 : decode cL_seen 66 = .ok (.invokevirtual 136, 3) := by decide +kernel
theorem dL_seen_69 : decode cL_seen 69 = .ok (.i2l, 1) := by decide +kernel
theorem dL_seen_70 : decode cL_seen 70 = .ok (.ladd, 1) := by decide +kernel
theorem dL_seen_71 : decode cL_seen 71 = .ok (.lstore_n 1, 1) := by decide +kernel
theorem dL_seen_72 : decode cL_seen 72 = .ok (.iconst 0, 1) := by decide +kernel
theorem dL_seen_73 : decode cL_seen 73 = .ok (.istore_n 3, 1) := by decide +kernel
theorem dL_seen_74 : decode cL_seen 74 = .ok (.iload_n 3, 1) := by decide +kernel
theorem dL_seen_75 : decode cL_seen 75 = .ok (.aload_n 0, 1) := by decide +kernel
theorem dL_seen_76 : decode cL_seen 76 = .ok (.invokevirtual 155, 3) := by decide +kernel
theorem dL_seen_79 : decode cL_seen 79 = .ok (.if_icmp .gt 77, 3) := by decide +kernel
theorem dL_seen_82 : decode cL_seen 82 = .ok (.ldc2_w 141, 3) := by decide +kernel
theorem dL_seen_85 : decode cL_seen 85 = .ok (.lload_n 1, 1) := by decide +kernel
theorem dL_seen_86 : decode cL_seen 86 = .ok (.lmul, 1) := by decide +kernel
theorem dL_seen_87 : decode cL_seen 87 = .ok (.aload_n 0, 1) := by decide +kernel
theorem dL_seen_88 : decode cL_seen 88 = .ok (.iload_n 3, 1) := by decide +kernel
theorem dL_seen_89 : decode cL_seen 89 = .ok (.invokevirtual 99, 3) := by decide +kernel
theorem dL_seen_92 : decode cL_seen 92 = .ok (.i2l, 1) := by decide +kernel
theorem dL_seen_93 : decode cL_seen 93 = .ok (.ladd, 1) := by decide +kernel
theorem dL_seen_94 : decode cL_seen 94 = .ok (.lstore_n 1, 1) := by decide +kernel
theorem dL_seen_95 : decode cL_seen 95 = .ok (.iconst 0, 1) := by decide +kernel
theorem dL_seen_96 : decode cL_seen 96 = .ok (.istore 4, 2) := by decide +kernel
theorem dL_seen_98 : decode cL_seen 98 = .ok (.iload 4, 2) := by decide +kernel
theorem dL_seen_100 : decode cL_seen 100 = .ok (.aload_n 0, 1) := by decide +kernel
theorem dL_seen_101 : decode cL_seen 101 = .ok (.iload_n 3, 1) := by decide +kernel
theorem dL_seen_102 : decode cL_seen 102 = .ok (.invokevirtual 99, 3) := by decide +kernel
theorem dL_seen_105 : decode cL_seen 105 = .ok (.if_icmp .ge 45, 3) := by decide +kernel
theorem dL_seen_108 : decode cL_seen 108 = .ok (.ldc2_w 141, 3) := by decide +kernel
theorem dL_seen_111 : decode cL_seen 111 = .ok (.ldc2_w 141, 3) := by decide +kernel
theorem dL_seen_114 : decode cL_seen 114 = .ok (.lload_n 1, 1) := by decide +kernel
theorem dL_seen_115 : decode cL_seen 115 = .ok (.lmul, 1) := by decide +kernel
theorem dL_seen_116 : decode cL_seen 116 = .ok (.aload_n 0, 1) := by decide +kernel
theorem dL_seen_117 : decode cL_seen 117 = .ok (.iload_n 3, 1) := by decide +kernel
theorem dL_seen_118 : decode cL_seen 118 = .ok (.iload 4, 2) := by decide +kernel
theorem dL_seen_120 : decode cL_seen 120 = .ok (.invokevirtual 102, 3) := by decide +kernel
theorem dL_seen_123 : decode cL_seen 123 = .ok (.i2l, 1) := by decide +kernel
theorem dL_seen_124 : decode cL_seen 124 = .ok (.ladd, 1) := by decide +kernel
theorem dL_seen_125 : decode cL_seen 125 = .ok (.lmul, 1) := by decide +kernel
theorem dL_seen_126 : decode cL_seen 126 = .ok (.aload_n 0, 1) := by decide +kernel
theorem dL_seen_127 : decode cL_seen 127 = .ok (.iload_n 3, 1) := by decide +kernel
theorem dL_seen_128 : decode cL_seen 128 = .ok (.iload 4, 2) := by decide +kernel
theorem dL_seen_130 : decode cL_seen 130 = .ok (.invokevirtual 105, 3) := by decide +kernel
theorem dL_seen_133 : decode cL_seen 133 = .ok (.ifCond .eq 7, 3) := by decide +kernel
theorem dL_seen_136 : decode cL_seen 136 = .ok (.iconst 1, 1) := by decide +kernel
theorem dL_seen_137 : decode cL_seen 137 = .ok (.goto 4, 3) := by decide +kernel
theorem dL_seen_140 : decode cL_seen 140 = .ok (.iconst 0, 1) := by decide +kernel
theorem dL_seen_141 : decode cL_seen 141 = .ok (.i2l, 1) := by decide +kernel
theorem dL_seen_142 : decode cL_seen 142 = .ok (.ladd, 1) := by decide +kernel
theorem dL_seen_143 : decode cL_seen 143 = .ok (.lstore_n 1, 1) := by decide +kernel
theorem dL_seen_144 : decode cL_seen 144 = .ok (.iinc 4 1, 3) := by decide +kernel
theorem dL_seen_147 : decode cL_seen 147 = .ok (.goto (-49), 3) := by decide +kernel
theorem dL_seen_150 : decode cL_seen 150 = .ok (.iinc 3 1, 3) := by decide +kernel
theorem dL_seen_153 : decode cL_seen 153 = .ok (.goto (-79), 3) := by decide +kernel
theorem dL_seen_156 : decode cL_seen 156 = .ok (.iconst 0, 1) := by decide +kernel
theorem dL_seen_157 : decode cL_seen 157 = .ok (.istore_n 3, 1) := by decide +kernel
theorem dL_seen_158 : decode cL_seen 158 = .ok (.iload_n 3, 1) := by decide +kernel
theorem dL_seen_159 : decode cL_seen 159 = .ok (.aload_n 0, 1) := by decide +kernel
theorem dL_seen_160 : decode cL_seen 160 = .ok (.invokevirtual 146, 3) := by decide +kernel
theorem dL_seen_163 : decode cL_seen 163 = .ok (.if_icmp .ge 78, 3) := by decide +kernel
theorem dL_seen_166 : decode cL_seen 166 = .ok (.ldc2_w 141, 3) := by decide +kernel
theorem dL_seen_169 : decode cL_seen 169 = .ok (.ldc2_w 141, 3) := by decide +kernel
theorem dL_seen_172 : decode cL_seen 172 = .ok (.ldc2_w 141, 3) := by decide +kernel
theorem dL_seen_175 : decode cL_seen 175 = .ok (.lload_n 1, 1) := by decide +kernel
theorem dL_seen_176 : decode cL_seen 176 = .ok (.lmul, 1) := by decide +kernel
theorem dL_seen_177 : decode cL_seen 177 = .ok (.aload_n 0, 1) := by decide +kernel
theorem dL_seen_178 : decode cL_seen 178 = .ok (.iload_n 3, 1) := by decide +kernel
theorem dL_seen_179 : decode cL_seen 179 = .ok (.invokevirtual 109, 3) := by decide +kernel
theorem dL_seen_182 : decode cL_seen 182 = .ok (.i2l, 1) := by decide +kernel
theorem dL_seen_183 : decode cL_seen 183 = .ok (.ladd, 1) := by decide +kernel
theorem dL_seen_184 : decode cL_seen 184 = .ok (.lmul, 1) := by decide +kernel
theorem dL_seen_185 : decode cL_seen 185 = .ok (.aload_n 0, 1) := by decide +kernel
theorem dL_seen_186 : decode cL_seen 186 = .ok (.iload_n 3, 1) := by decide +kernel
theorem dL_seen_187 : decode cL_seen 187 = .ok (.invokevirtual 115, 3) := by decide +kernel
theorem dL_seen_190 : decode cL_seen 190 = .ok (.i2l, 1) := by decide +kernel
theorem dL_seen_191 : decode cL_seen 191 = .ok (.ladd, 1) := by decide +kernel
theorem dL_seen_192 : decode cL_seen 192 = .ok (.lmul, 1) := by decide +kernel
theorem dL_seen_193 : decode cL_seen 193 = .ok (.aload_n 0, 1) := by decide +kernel
theorem dL_seen_194 : decode cL_seen 194 = .ok (.iload_n 3, 1) := by decide +kernel
theorem dL_seen_195 : decode cL_seen 195 = .ok (.invokevirtual 118, 3) := by decide +kernel
theorem dL_seen_198 : decode cL_seen 198 = .ok (.i2l, 1) := by decide +kernel
theorem dL_seen_199 : decode cL_seen 199 = .ok (.ladd, 1) := by decide +kernel
theorem dL_seen_200 : decode cL_seen 200 = .ok (.lstore_n 1, 1) := by decide +kernel
theorem dL_seen_201 : decode cL_seen 201 = .ok (.iconst 0, 1) := by decide +kernel
theorem dL_seen_202 : decode cL_seen 202 = .ok (.istore 4, 2) := by decide +kernel
theorem dL_seen_204 : decode cL_seen 204 = .ok (.iload 4, 2) := by decide +kernel
theorem dL_seen_206 : decode cL_seen 206 = .ok (.aload_n 0, 1) := by decide +kernel
theorem dL_seen_207 : decode cL_seen 207 = .ok (.iload_n 3, 1) := by decide +kernel
theorem dL_seen_208 : decode cL_seen 208 = .ok (.invokevirtual 109, 3) := by decide +kernel
theorem dL_seen_211 : decode cL_seen 211 = .ok (.if_icmp .ge 24, 3) := by decide +kernel
theorem dL_seen_214 : decode cL_seen 214 = .ok (.ldc2_w 141, 3) := by decide +kernel
theorem dL_seen_217 : decode cL_seen 217 = .ok (.lload_n 1, 1) := by decide +kernel
theorem dL_seen_218 : decode cL_seen 218 = .ok (.lmul, 1) := by decide +kernel
theorem dL_seen_219 : decode cL_seen 219 = .ok (.aload_n 0, 1) := by decide +kernel
theorem dL_seen_220 : decode cL_seen 220 = .ok (.iload_n 3, 1) := by decide +kernel
theorem dL_seen_221 : decode cL_seen 221 = .ok (.iload 4, 2) := by decide +kernel
theorem dL_seen_223 : decode cL_seen 223 = .ok (.invokevirtual 112, 3) := by decide +kernel
theorem dL_seen_226 : decode cL_seen 226 = .ok (.i2l, 1) := by decide +kernel
theorem dL_seen_227 : decode cL_seen 227 = .ok (.ladd, 1) := by decide +kernel
theorem dL_seen_228 : decode cL_seen 228 = .ok (.lstore_n 1, 1) := by decide +kernel
theorem dL_seen_229 : decode cL_seen 229 = .ok (.iinc 4 1, 3) := by decide +kernel
theorem dL_seen_232 : decode cL_seen 232 = .ok (.goto (-28), 3) := by decide +kernel
theorem dL_seen_235 : decode cL_seen 235 = .ok (.iinc 3 1, 3) := by decide +kernel
theorem dL_seen_238 : decode cL_seen 238 = .ok (.goto (-80), 3) := by decide +kernel
theorem dL_seen_241 : decode cL_seen 241 = .ok (.iconst 0, 1) := by decide +kernel
theorem dL_seen_242 : decode cL_seen 242 = .ok (.istore_n 3, 1) := by decide +kernel
theorem dL_seen_243 : decode cL_seen 243 = .ok (.iload_n 3, 1) := by decide +kernel
theorem dL_seen_244 : decode cL_seen 244 = .ok (.aload_n 0, 1) := by decide +kernel
theorem dL_seen_245 : decode cL_seen 245 = .ok (.invokevirtual 158, 3) := by decide +kernel
theorem dL_seen_248 : decode cL_seen 248 = .ok (.if_icmp .ge 52, 3) := by decide +kernel
theorem dL_seen_251 : decode cL_seen 251 = .ok (.ldc2_w 141, 3) := by decide +kernel
theorem dL_seen_254 : decode cL_seen 254 = .ok (.ldc2_w 141, 3) := by decide +kernel
theorem dL_seen_257 : decode cL_seen 257 = .ok (.ldc2_w 141, 3) := by decide +kernel
theorem dL_seen_260 : decode cL_seen 260 = .ok (.lload_n 1, 1) := by decide +kernel
theorem dL_seen_261 : decode cL_seen 261 = .ok (.lmul, 1) := by decide +kernel
theorem dL_seen_262 : decode cL_seen 262 = .ok (.aload_n 0, 1) := by decide +kernel
theorem dL_seen_263 : decode cL_seen 263 = .ok (.iload_n 3, 1) := by decide +kernel
theorem dL_seen_264 : decode cL_seen 264 = .ok (.invokevirtual 93, 3) := by decide +kernel
theorem dL_seen_267 : decode cL_seen 267 = .ok (.i2l, 1) := by decide +kernel
theorem dL_seen_268 : decode cL_seen 268 = .ok (.ladd, 1) := by decide +kernel
theorem dL_seen_269 : decode cL_seen 269 = .ok (.lmul, 1) := by decide +kernel
theorem dL_seen_270 : decode cL_seen 270 = .ok (.aload_n 0, 1) := by decide +kernel
theorem dL_seen_271 : decode cL_seen 271 = .ok (.aload_n 0, 1) := by decide +kernel
theorem dL_seen_272 : decode cL_seen 272 = .ok (.iload_n 3, 1) := by decide +kernel
theorem dL_seen_273 : decode cL_seen 273 = .ok (.invokevirtual 93, 3) := by decide +kernel
theorem dL_seen_276 : decode cL_seen 276 = .ok (.invokevirtual 75, 3) := by decide +kernel
theorem dL_seen_279 : decode cL_seen 279 = .ok (.i2l, 1) := by decide +kernel
theorem dL_seen_280 : decode cL_seen 280 = .ok (.ladd, 1) := by decide +kernel
theorem dL_seen_281 : decode cL_seen 281 = .ok (.lmul, 1) := by decide +kernel
theorem dL_seen_282 : decode cL_seen 282 = .ok (.aload_n 0, 1) := by decide +kernel
theorem dL_seen_283 : decode cL_seen 283 = .ok (.aload_n 0, 1) := by decide +kernel
theorem dL_seen_284 : decode cL_seen 284 = .ok (.iload_n 3, 1) := by decide +kernel
theorem dL_seen_285 : decode cL_seen 285 = .ok (.invokevirtual 93, 3) := by decide +kernel
theorem dL_seen_288 : decode cL_seen 288 = .ok (.invokevirtual 78, 3) := by decide +kernel
theorem dL_seen_291 : decode cL_seen 291 = .ok (.i2l, 1) := by decide +kernel
theorem dL_seen_292 : decode cL_seen 292 = .ok (.ladd, 1) := by decide +kernel
theorem dL_seen_293 : decode cL_seen 293 = .ok (.lstore_n 1, 1) := by decide +kernel
theorem dL_seen_294 : decode cL_seen 294 = .ok (.iinc 3 1, 3) := by decide +kernel
theorem dL_seen_297 : decode cL_seen 297 = .ok (.goto (-54), 3) := by decide +kernel
theorem dL_seen_300 : decode cL_seen 300 = .ok (.lload_n 1, 1) := by decide +kernel
theorem dL_seen_301 : decode cL_seen 301 = .ok (.lreturn, 1) := by decide +kernel
theorem dL_undone_0 : decode cL_undone 0 = .ok (.aload_n 0, 1) := by decide +kernel
theorem dL_undone_1 : decode cL_undone 1 = .ok (.invokevirtual 161, 3) := by decide +kernel
theorem dL_undone_4 : decode cL_undone 4 = .ok (.goto 8, 3) := by decide +kernel
theorem dL_undone_7 : decode cL_undone 7 = .ok (.astore_n 1, 1) := by decide +kernel
theorem dL_undone_8 : decode cL_undone 8 = .ok (.sipush (-2013), 3) := by decide +kernel
theorem dL_undone_11 : decode cL_undone 11 = .ok (.ireturn, 1) := by decide +kernel
theorem dL_undone_12 : decode cL_undone 12 = .ok (.aload_n 0, 1) := by decide +kernel
theorem dL_undone_13 : decode cL_undone 13 = .ok (.invokevirtual 164, 3) := by decide +kernel
theorem dL_undone_16 : decode cL_undone 16 = .ok (.ireturn, 1) := by decide +kernel
theorem dL_back_0 : decode cL_back 0 = .ok (.aload_n 0, 1) := by decide +kernel
theorem dL_back_1 : decode cL_back 1 = .ok (.iload_n 1, 1) := by decide +kernel
theorem dL_back_2 : decode cL_back 2 = .ok (.invokevirtual 167, 3) := by decide +kernel
theorem dL_back_5 : decode cL_back 5 = .ok (.goto 13, 3) := by decide +kernel
theorem dL_back_8 : decode cL_back 8 = .ok (.astore_n 2, 1) := by decide +kernel
theorem dL_back_9 : decode cL_back 9 = .ok (.sipush (-2012), 3) := by decide +kernel
theorem dL_back_12 : decode cL_back 12 = .ok (.ireturn, 1) := by decide +kernel
theorem dL_back_13 : decode cL_back 13 = .ok (.astore_n 2, 1) := by decide +kernel
theorem dL_back_14 : decode cL_back 14 = .ok (.sipush (-2013), 3) := by decide +kernel
theorem dL_back_17 : decode cL_back 17 = .ok (.ireturn, 1) := by decide +kernel
theorem dL_back_18 : decode cL_back 18 = .ok (.iconst 0, 1) := by decide +kernel
theorem dL_back_19 : decode cL_back 19 = .ok (.ireturn, 1) := by decide +kernel
theorem dL_keeps_0 : decode cL_keeps 0 = .ok (.aload_n 0, 1) := by decide +kernel
theorem dL_keeps_1 : decode cL_keeps 1 = .ok (.iload_n 1, 1) := by decide +kernel
theorem dL_keeps_2 : decode cL_keeps 2 = .ok (.invokevirtual 171, 3) := by decide +kernel
theorem dL_keeps_5 : decode cL_keeps 5 = .ok (.goto 8, 3) := by decide +kernel
theorem dL_keeps_8 : decode cL_keeps 8 = .ok (.astore_n 2, 1) := by decide +kernel
theorem dL_keeps_9 : decode cL_keeps 9 = .ok (.sipush (-2012), 3) := by decide +kernel
theorem dL_keeps_12 : decode cL_keeps 12 = .ok (.ireturn, 1) := by decide +kernel
theorem dL_keeps_13 : decode cL_keeps 13 = .ok (.iconst 0, 1) := by decide +kernel
theorem dL_keeps_14 : decode cL_keeps 14 = .ok (.ireturn, 1) := by decide +kernel
theorem dL_far_0 : decode cL_far 0 = .ok (.iload_n 0, 1) := by decide +kernel
theorem dL_far_1 : decode cL_far 1 = .ok (.ifCond .ne 9, 3) := by decide +kernel
theorem dL_far_4 : decode cL_far 4 = .ok (.iload_n 1, 1) := by decide +kernel
theorem dL_far_5 : decode cL_far 5 = .ok (.iconst 1, 1) := by decide +kernel
theorem dL_far_6 : decode cL_far 6 = .ok (.isub, 1) := by decide +kernel
theorem dL_far_7 : decode cL_far 7 = .ok (.goto 26, 3) := by decide +kernel
theorem dL_far_10 : decode cL_far 10 = .ok (.iload_n 0, 1) := by decide +kernel
theorem dL_far_11 : decode cL_far 11 = .ok (.iconst 1, 1) := by decide +kernel
theorem dL_far_12 : decode cL_far 12 = .ok (.if_icmp .ne 9, 3) := by decide +kernel
theorem dL_far_15 : decode cL_far 15 = .ok (.iload_n 2, 1) := by decide +kernel
theorem dL_far_16 : decode cL_far 16 = .ok (.iconst 1, 1) := by decide +kernel
theorem dL_far_17 : decode cL_far 17 = .ok (.iadd, 1) := by decide +kernel
theorem dL_far_18 : decode cL_far 18 = .ok (.goto 15, 3) := by decide +kernel
theorem dL_far_21 : decode cL_far 21 = .ok (.iload_n 0, 1) := by decide +kernel
theorem dL_far_22 : decode cL_far 22 = .ok (.iconst 2, 1) := by decide +kernel
theorem dL_far_23 : decode cL_far 23 = .ok (.if_icmp .ne 8, 3) := by decide +kernel
theorem dL_far_26 : decode cL_far 26 = .ok (.ldc 174, 2) := by decide +kernel
theorem dL_far_28 : decode cL_far 28 = .ok (.goto 5, 3) := by decide +kernel
theorem dL_far_31 : decode cL_far 31 = .ok (.ldc 7, 2) := by decide +kernel
theorem dL_far_33 : decode cL_far 33 = .ok (.ireturn, 1) := by decide +kernel
theorem dL_refusesOne_0 : decode cL_refusesOne 0 = .ok (.iload_n 1, 1) := by decide +kernel
theorem dL_refusesOne_1 : decode cL_refusesOne 1 = .ok (.iconst 0, 1) := by decide +kernel
theorem dL_refusesOne_2 : decode cL_refusesOne 2 = .ok (.sipush 9999, 3) := by decide +kernel
theorem dL_refusesOne_5 : decode cL_refusesOne 5 = .ok (.invokestatic 175, 3) := by decide +kernel
theorem dL_refusesOne_8 : decode cL_refusesOne 8 = .ok (.istore_n 2, 1) := by decide +kernel
theorem dL_refusesOne_9 : decode cL_refusesOne 9 = .ok (.iload_n 1, 1) := by decide +kernel
theorem dL_refusesOne_10 : decode cL_refusesOne 10 = .ok (.iconst 0, 1) := by decide +kernel
theorem dL_refusesOne_11 : decode cL_refusesOne 11 = .ok (.aload_n 0, 1) := by decide +kernel
theorem dL_refusesOne_12 : decode cL_refusesOne 12 = .ok (.invokevirtual 155, 3) := by decide +kernel
theorem dL_refusesOne_15 : decode cL_refusesOne 15 = .ok (.invokestatic 175, 3) := by decide +kernel
theorem dL_refusesOne_18 : decode cL_refusesOne 18 = .ok (.istore_n 3, 1) := by decide +kernel
theorem dL_refusesOne_19 : decode cL_refusesOne 19 = .ok (.iload_n 1, 1) := by decide +kernel
theorem dL_refusesOne_20 : decode cL_refusesOne 20 = .ok (.iconst 0, 1) := by decide +kernel
theorem dL_refusesOne_21 : decode cL_refusesOne 21 = .ok (.aload_n 0, 1) := by decide +kernel
theorem dL_refusesOne_22 : decode cL_refusesOne 22 = .ok (.invokevirtual 146, 3) := by decide +kernel
theorem dL_refusesOne_25 : decode cL_refusesOne 25 = .ok (.iconst 1, 1) := by decide +kernel
theorem dL_refusesOne_26 : decode cL_refusesOne 26 = .ok (.isub, 1) := by decide +kernel
theorem dL_refusesOne_27 : decode cL_refusesOne 27 = .ok (.invokestatic 175, 3) := by decide +kernel
theorem dL_refusesOne_30 : decode cL_refusesOne 30 = .ok (.istore 4, 2) := by decide +kernel
theorem dL_refusesOne_32 : decode cL_refusesOne 32 = .ok (.iload_n 1, 1) := by decide +kernel
theorem dL_refusesOne_33 : decode cL_refusesOne 33 = .ok (.iconst 0, 1) := by decide +kernel
theorem dL_refusesOne_34 : decode cL_refusesOne 34 = .ok (.aload_n 0, 1) := by decide +kernel
theorem dL_refusesOne_35 : decode cL_refusesOne 35 = .ok (.invokevirtual 179, 3) := by decide +kernel
theorem dL_refusesOne_38 : decode cL_refusesOne 38 = .ok (.iconst 1, 1) := by decide +kernel
theorem dL_refusesOne_39 : decode cL_refusesOne 39 = .ok (.isub, 1) := by decide +kernel
theorem dL_refusesOne_40 : decode cL_refusesOne 40 = .ok (.invokestatic 175, 3) := by decide +kernel
theorem dL_refusesOne_43 : decode cL_refusesOne 43 = .ok (.istore 5, 2) := by decide +kernel
theorem dL_refusesOne_45 : decode cL_refusesOne 45 = .ok (.aload_n 0, 1) := by decide +kernel
theorem dL_refusesOne_46 : decode cL_refusesOne 46 = .ok (.iconst 0, 1) := by decide +kernel
theorem dL_refusesOne_47 : decode cL_refusesOne 47 = .ok (.iload_n 2, 1) := by decide +kernel
theorem dL_refusesOne_48 : decode cL_refusesOne 48 = .ok (.iconst 0, 1) := by decide +kernel
theorem dL_refusesOne_49 : decode cL_refusesOne 49 = .ok (.invokestatic 182, 3) := by decide +kernel
theorem dL_refusesOne_52 : decode cL_refusesOne 52 = .ok (.sipush (-2012), 3) := by decide +kernel
theorem dL_refusesOne_55 : decode cL_refusesOne 55 = .ok (.if_icmp .ne 317, 3) := by decide +kernel
theorem dL_refusesOne_58 : decode cL_refusesOne 58 = .ok (.aload_n 0, 1) := by decide +kernel
theorem dL_refusesOne_59 : decode cL_refusesOne 59 = .ok (.iconst 0, 1) := by decide +kernel
theorem dL_refusesOne_60 : decode cL_refusesOne 60 = .ok (.sipush 9999, 3) := by decide +kernel
theorem dL_refusesOne_63 : decode cL_refusesOne 63 = .ok (.iload_n 1, 1) := by decide +kernel
theorem dL_refusesOne_64 : decode cL_refusesOne 64 = .ok (.iconst 0, 1) := by decide +kernel
theorem dL_refusesOne_65 : decode cL_refusesOne 65 = .ok (.bipush 99, 2) := by decide +kernel
theorem dL_refusesOne_67 : decode cL_refusesOne 67 = .ok (.invokestatic 175, 3) := by decide +kernel
theorem dL_refusesOne_70 : decode cL_refusesOne 70 = .ok (.invokestatic 182, 3) := by decide +kernel
theorem dL_refusesOne_73 : decode cL_refusesOne 73 = .ok (.sipush (-2012), 3) := by decide +kernel
theorem dL_refusesOne_76 : decode cL_refusesOne 76 = .ok (.if_icmp .ne 296, 3) := by decide +kernel
theorem dL_refusesOne_79 : decode cL_refusesOne 79 = .ok (.aload_n 0, 1) := by decide +kernel
theorem dL_refusesOne_80 : decode cL_refusesOne 80 = .ok (.iconst 1, 1) := by decide +kernel
theorem dL_refusesOne_81 : decode cL_refusesOne 81 = .ok (.iload_n 2, 1) := by decide +kernel
theorem dL_refusesOne_82 : decode cL_refusesOne 82 = .ok (.iconst 0, 1) := by decide +kernel
theorem dL_refusesOne_83 : decode cL_refusesOne 83 = .ok (.invokestatic 182, 3) := by decide +kernel
theorem dL_refusesOne_86 : decode cL_refusesOne 86 = .ok (.sipush (-2012), 3) := by decide +kernel
theorem dL_refusesOne_89 : decode cL_refusesOne 89 = .ok (.if_icmp .ne 283, 3) := by decide +kernel
theorem dL_refusesOne_92 : decode cL_refusesOne 92 = .ok (.aload_n 0, 1) := by decide +kernel
theorem dL_refusesOne_93 : decode cL_refusesOne 93 = .ok (.iconst 4, 1) := by decide +kernel
theorem dL_refusesOne_94 : decode cL_refusesOne 94 = .ok (.iload_n 1, 1) := by decide +kernel
theorem dL_refusesOne_95 : decode cL_refusesOne 95 = .ok (.bipush 50, 2) := by decide +kernel
theorem dL_refusesOne_97 : decode cL_refusesOne 97 = .ok (.bipush 100, 2) := by decide +kernel
theorem dL_refusesOne_99 : decode cL_refusesOne 99 = .ok (.invokestatic 175, 3) := by decide +kernel
theorem dL_refusesOne_102 : decode cL_refusesOne 102 = .ok (.iconst 0, 1) := by decide +kernel
theorem dL_refusesOne_103 : decode cL_refusesOne 103 = .ok (.invokestatic 182, 3) := by decide +kernel
theorem dL_refusesOne_106 : decode cL_refusesOne 106 = .ok (.sipush (-2012), 3) := by decide +kernel
theorem dL_refusesOne_109 : decode cL_refusesOne 109 = .ok (.if_icmp .ne 263, 3) := by decide +kernel
theorem dL_refusesOne_112 : decode cL_refusesOne 112 = .ok (.aload_n 0, 1) := by decide +kernel
theorem dL_refusesOne_113 : decode cL_refusesOne 113 = .ok (.iconst 5, 1) := by decide +kernel
theorem dL_refusesOne_114 : decode cL_refusesOne 114 = .ok (.iload_n 2, 1) := by decide +kernel
theorem dL_refusesOne_115 : decode cL_refusesOne 115 = .ok (.iconst 0, 1) := by decide +kernel
theorem dL_refusesOne_116 : decode cL_refusesOne 116 = .ok (.invokestatic 182, 3) := by decide +kernel
theorem dL_refusesOne_119 : decode cL_refusesOne 119 = .ok (.sipush (-2012), 3) := by decide +kernel
theorem dL_refusesOne_122 : decode cL_refusesOne 122 = .ok (.if_icmp .ne 250, 3) := by decide +kernel
theorem dL_refusesOne_125 : decode cL_refusesOne 125 = .ok (.aload_n 0, 1) := by decide +kernel
theorem dL_refusesOne_126 : decode cL_refusesOne 126 = .ok (.iconst 5, 1) := by decide +kernel
theorem dL_refusesOne_127 : decode cL_refusesOne 127 = .ok (.iconst 0, 1) := by decide +kernel
theorem dL_refusesOne_128 : decode cL_refusesOne 128 = .ok (.iload_n 1, 1) := by decide +kernel
theorem dL_refusesOne_129 : decode cL_refusesOne 129 = .ok (.iconst 0, 1) := by decide +kernel
theorem dL_refusesOne_130 : decode cL_refusesOne 130 = .ok (.bipush 99, 2) := by decide +kernel
theorem dL_refusesOne_132 : decode cL_refusesOne 132 = .ok (.invokestatic 175, 3) := by decide +kernel
theorem dL_refusesOne_135 : decode cL_refusesOne 135 = .ok (.invokestatic 182, 3) := by decide +kernel
theorem dL_refusesOne_138 : decode cL_refusesOne 138 = .ok (.sipush (-2012), 3) := by decide +kernel
theorem dL_refusesOne_141 : decode cL_refusesOne 141 = .ok (.if_icmp .ne 231, 3) := by decide +kernel
theorem dL_refusesOne_144 : decode cL_refusesOne 144 = .ok (.aload_n 0, 1) := by decide +kernel
theorem dL_refusesOne_145 : decode cL_refusesOne 145 = .ok (.bipush 6, 2) := by decide +kernel
theorem dL_refusesOne_147 : decode cL_refusesOne 147 = .ok (.iload_n 2, 1) := by decide +kernel
theorem dL_refusesOne_148 : decode cL_refusesOne 148 = .ok (.iconst 0, 1) := by decide +kernel
theorem dL_refusesOne_149 : decode cL_refusesOne 149 = .ok (.invokestatic 182, 3) := by decide +kernel
theorem dL_refusesOne_152 : decode cL_refusesOne 152 = .ok (.sipush (-2012), 3) := by decide +kernel
theorem dL_refusesOne_155 : decode cL_refusesOne 155 = .ok (.if_icmp .ne 217, 3) := by decide +kernel
theorem dL_refusesOne_158 : decode cL_refusesOne 158 = .ok (.aload_n 0, 1) := by decide +kernel
theorem dL_refusesOne_159 : decode cL_refusesOne 159 = .ok (.bipush 7, 2) := by decide +kernel
theorem dL_refusesOne_161 : decode cL_refusesOne 161 = .ok (.iload_n 1, 1) := by decide +kernel
theorem dL_refusesOne_162 : decode cL_refusesOne 162 = .ok (.iconst 2, 1) := by decide +kernel
theorem dL_refusesOne_163 : decode cL_refusesOne 163 = .ok (.bipush 8, 2) := by decide +kernel
theorem dL_refusesOne_165 : decode cL_refusesOne 165 = .ok (.invokestatic 175, 3) := by decide +kernel
theorem dL_refusesOne_168 : decode cL_refusesOne 168 = .ok (.iconst 0, 1) := by decide +kernel
theorem dL_refusesOne_169 : decode cL_refusesOne 169 = .ok (.invokestatic 182, 3) := by decide +kernel
theorem dL_refusesOne_172 : decode cL_refusesOne 172 = .ok (.sipush (-2012), 3) := by decide +kernel
theorem dL_refusesOne_175 : decode cL_refusesOne 175 = .ok (.if_icmp .ne 197, 3) := by decide +kernel
theorem dL_refusesOne_178 : decode cL_refusesOne 178 = .ok (.aload_n 0, 1) := by decide +kernel
theorem dL_refusesOne_179 : decode cL_refusesOne 179 = .ok (.bipush 8, 2) := by decide +kernel
theorem dL_refusesOne_181 : decode cL_refusesOne 181 = .ok (.iload_n 1, 1) := by decide +kernel
theorem dL_refusesOne_182 : decode cL_refusesOne 182 = .ok (.iconst 2, 1) := by decide +kernel
theorem dL_refusesOne_183 : decode cL_refusesOne 183 = .ok (.bipush 6, 2) := by decide +kernel
theorem dL_refusesOne_185 : decode cL_refusesOne 185 = .ok (.invokestatic 175, 3) := by decide +kernel
theorem dL_refusesOne_188 : decode cL_refusesOne 188 = .ok (.iconst 0, 1) := by decide +kernel
theorem dL_refusesOne_189 : decode cL_refusesOne 189 = .ok (.invokestatic 182, 3) := by decide +kernel
theorem dL_refusesOne_192 : decode cL_refusesOne 192 = .ok (.sipush (-2012), 3) := by decide +kernel
theorem dL_refusesOne_195 : decode cL_refusesOne 195 = .ok (.if_icmp .ne 177, 3) := by decide +kernel
theorem dL_refusesOne_198 : decode cL_refusesOne 198 = .ok (.aload_n 0, 1) := by decide +kernel
theorem dL_refusesOne_199 : decode cL_refusesOne 199 = .ok (.bipush 9, 2) := by decide +kernel
theorem dL_refusesOne_201 : decode cL_refusesOne 201 = .ok (.iload_n 1, 1) := by decide +kernel
theorem dL_refusesOne_202 : decode cL_refusesOne 202 = .ok (.bipush 33, 2) := by decide +kernel
theorem dL_refusesOne_204 : decode cL_refusesOne 204 = .ok (.bipush 126, 2) := by decide +kernel
theorem dL_refusesOne_206 : decode cL_refusesOne 206 = .ok (.invokestatic 175, 3) := by decide +kernel
theorem dL_refusesOne_209 : decode cL_refusesOne 209 = .ok (.iconst 0, 1) := by decide +kernel
theorem dL_refusesOne_210 : decode cL_refusesOne 210 = .ok (.invokestatic 182, 3) := by decide +kernel
theorem dL_refusesOne_213 : decode cL_refusesOne 213 = .ok (.sipush (-2012), 3) := by decide +kernel
theorem dL_refusesOne_216 : decode cL_refusesOne 216 = .ok (.if_icmp .ne 156, 3) := by decide +kernel
theorem dL_refusesOne_219 : decode cL_refusesOne 219 = .ok (.aload_n 0, 1) := by decide +kernel
theorem dL_refusesOne_220 : decode cL_refusesOne 220 = .ok (.bipush 10, 2) := by decide +kernel
theorem dL_refusesOne_222 : decode cL_refusesOne 222 = .ok (.iconst 0, 1) := by decide +kernel
theorem dL_refusesOne_223 : decode cL_refusesOne 223 = .ok (.iconst 0, 1) := by decide +kernel
theorem dL_refusesOne_224 : decode cL_refusesOne 224 = .ok (.invokestatic 182, 3) := by decide +kernel
theorem dL_refusesOne_227 : decode cL_refusesOne 227 = .ok (.sipush (-2012), 3) := by decide +kernel
theorem dL_refusesOne_230 : decode cL_refusesOne 230 = .ok (.if_icmp .ne 142, 3) := by decide +kernel
theorem dL_refusesOne_233 : decode cL_refusesOne 233 = .ok (.aload_n 0, 1) := by decide +kernel
theorem dL_refusesOne_234 : decode cL_refusesOne 234 = .ok (.iload_n 1, 1) := by decide +kernel
theorem dL_refusesOne_235 : decode cL_refusesOne 235 = .ok (.iconst 0, 1) := by decide +kernel
theorem dL_refusesOne_236 : decode cL_refusesOne 236 = .ok (.iconst 1, 1) := by decide +kernel
theorem dL_refusesOne_237 : decode cL_refusesOne 237 = .ok (.invokestatic 175, 3) := by decide +kernel
theorem dL_refusesOne_240 : decode cL_refusesOne 240 = .ok (.invokestatic 185, 3) := by decide +kernel
theorem dL_refusesOne_243 : decode cL_refusesOne 243 = .ok (.sipush (-2012), 3) := by decide +kernel
theorem dL_refusesOne_246 : decode cL_refusesOne 246 = .ok (.if_icmp .ne 126, 3) := by decide +kernel
theorem dL_refusesOne_249 : decode cL_refusesOne 249 = .ok (.aload_n 0, 1) := by decide +kernel
theorem dL_refusesOne_250 : decode cL_refusesOne 250 = .ok (.iload_n 1, 1) := by decide +kernel
theorem dL_refusesOne_251 : decode cL_refusesOne 251 = .ok (.iconst 0, 1) := by decide +kernel
theorem dL_refusesOne_252 : decode cL_refusesOne 252 = .ok (.iconst 1, 1) := by decide +kernel
theorem dL_refusesOne_253 : decode cL_refusesOne 253 = .ok (.invokestatic 175, 3) := by decide +kernel
theorem dL_refusesOne_256 : decode cL_refusesOne 256 = .ok (.invokestatic 189, 3) := by decide +kernel
theorem dL_refusesOne_259 : decode cL_refusesOne 259 = .ok (.sipush (-2012), 3) := by decide +kernel
theorem dL_refusesOne_262 : decode cL_refusesOne 262 = .ok (.if_icmp .ne 110, 3) := by decide +kernel
theorem dL_refusesOne_265 : decode cL_refusesOne 265 = .ok (.aload_n 0, 1) := by decide +kernel
theorem dL_refusesOne_266 : decode cL_refusesOne 266 = .ok (.bipush 16, 2) := by decide +kernel
theorem dL_refusesOne_268 : decode cL_refusesOne 268 = .ok (.iconst 0, 1) := by decide +kernel
theorem dL_refusesOne_269 : decode cL_refusesOne 269 = .ok (.iload_n 2, 1) := by decide +kernel
theorem dL_refusesOne_270 : decode cL_refusesOne 270 = .ok (.invokestatic 182, 3) := by decide +kernel
theorem dL_refusesOne_273 : decode cL_refusesOne 273 = .ok (.sipush (-2012), 3) := by decide +kernel
theorem dL_refusesOne_276 : decode cL_refusesOne 276 = .ok (.if_icmp .ne 96, 3) := by decide +kernel
theorem dL_refusesOne_279 : decode cL_refusesOne 279 = .ok (.aload_n 0, 1) := by decide +kernel
theorem dL_refusesOne_280 : decode cL_refusesOne 280 = .ok (.bipush 17, 2) := by decide +kernel
theorem dL_refusesOne_282 : decode cL_refusesOne 282 = .ok (.sipush 500, 3) := by decide +kernel
theorem dL_refusesOne_285 : decode cL_refusesOne 285 = .ok (.iload_n 1, 1) := by decide +kernel
theorem dL_refusesOne_286 : decode cL_refusesOne 286 = .ok (.iconst 2, 1) := by decide +kernel
theorem dL_refusesOne_287 : decode cL_refusesOne 287 = .ok (.if_icmp .ge 9, 3) := by decide +kernel
theorem dL_refusesOne_290 : decode cL_refusesOne 290 = .ok (.sipush 499, 3) := by decide +kernel
theorem dL_refusesOne_293 : decode cL_refusesOne 293 = .ok (.goto 4, 3) := by decide +kernel
theorem dL_refusesOne_296 : decode cL_refusesOne 296 = .ok (.iload_n 2, 1) := by decide +kernel
theorem dL_refusesOne_297 : decode cL_refusesOne 297 = .ok (.invokestatic 182, 3) := by decide +kernel
theorem dL_refusesOne_300 : decode cL_refusesOne 300 = .ok (.sipush (-2012), 3) := by decide +kernel
theorem dL_refusesOne_303 : decode cL_refusesOne 303 = .ok (.if_icmp .ne 69, 3) := by decide +kernel
theorem dL_refusesOne_306 : decode cL_refusesOne 306 = .ok (.aload_n 0, 1) := by decide +kernel
theorem dL_refusesOne_307 : decode cL_refusesOne 307 = .ok (.bipush 20, 2) := by decide +kernel
theorem dL_refusesOne_309 : decode cL_refusesOne 309 = .ok (.iload_n 1, 1) := by decide +kernel
theorem dL_refusesOne_310 : decode cL_refusesOne 310 = .ok (.iconst 0, 1) := by decide +kernel
theorem dL_refusesOne_311 : decode cL_refusesOne 311 = .ok (.aload_n 0, 1) := by decide +kernel
theorem dL_refusesOne_312 : decode cL_refusesOne 312 = .ok (.invokevirtual 158, 3) := by decide +kernel
theorem dL_refusesOne_315 : decode cL_refusesOne 315 = .ok (.iconst 1, 1) := by decide +kernel
theorem dL_refusesOne_316 : decode cL_refusesOne 316 = .ok (.isub, 1) := by decide +kernel
theorem dL_refusesOne_317 : decode cL_refusesOne 317 = .ok (.invokestatic 175, 3) := by decide +kernel
theorem dL_refusesOne_320 : decode cL_refusesOne 320 = .ok (.iconst 0, 1) := by decide +kernel
theorem dL_refusesOne_321 : decode cL_refusesOne 321 = .ok (.invokestatic 182, 3) := by decide +kernel
theorem dL_refusesOne_324 : decode cL_refusesOne 324 = .ok (.sipush (-2011), 3) := by decide +kernel
theorem dL_refusesOne_327 : decode cL_refusesOne 327 = .ok (.if_icmp .ne 45, 3) := by decide +kernel
theorem dL_refusesOne_330 : decode cL_refusesOne 330 = .ok (.aload_n 0, 1) := by decide +kernel
theorem dL_refusesOne_331 : decode cL_refusesOne 331 = .ok (.bipush 33, 2) := by decide +kernel
theorem dL_refusesOne_333 : decode cL_refusesOne 333 = .ok (.iload_n 1, 1) := by decide +kernel
theorem dL_refusesOne_334 : decode cL_refusesOne 334 = .ok (.bipush 50, 2) := by decide +kernel
theorem dL_refusesOne_336 : decode cL_refusesOne 336 = .ok (.bipush 100, 2) := by decide +kernel
theorem dL_refusesOne_338 : decode cL_refusesOne 338 = .ok (.invokestatic 175, 3) := by decide +kernel
theorem dL_refusesOne_341 : decode cL_refusesOne 341 = .ok (.iconst 0, 1) := by decide +kernel
theorem dL_refusesOne_342 : decode cL_refusesOne 342 = .ok (.invokestatic 182, 3) := by decide +kernel
theorem dL_refusesOne_345 : decode cL_refusesOne 345 = .ok (.sipush (-2012), 3) := by decide +kernel
theorem dL_refusesOne_348 : decode cL_refusesOne 348 = .ok (.if_icmp .ne 24, 3) := by decide +kernel
theorem dL_refusesOne_351 : decode cL_refusesOne 351 = .ok (.aload_n 0, 1) := by decide +kernel
theorem dL_refusesOne_352 : decode cL_refusesOne 352 = .ok (.bipush 34, 2) := by decide +kernel
theorem dL_refusesOne_354 : decode cL_refusesOne 354 = .ok (.iload_n 1, 1) := by decide +kernel
theorem dL_refusesOne_355 : decode cL_refusesOne 355 = .ok (.bipush 50, 2) := by decide +kernel
theorem dL_refusesOne_357 : decode cL_refusesOne 357 = .ok (.bipush 100, 2) := by decide +kernel
theorem dL_refusesOne_359 : decode cL_refusesOne 359 = .ok (.invokestatic 175, 3) := by decide +kernel
theorem dL_refusesOne_362 : decode cL_refusesOne 362 = .ok (.iconst 0, 1) := by decide +kernel
theorem dL_refusesOne_363 : decode cL_refusesOne 363 = .ok (.invokestatic 182, 3) := by decide +kernel
theorem dL_refusesOne_366 : decode cL_refusesOne 366 = .ok (.sipush (-2012), 3) := by decide +kernel
theorem dL_refusesOne_369 : decode cL_refusesOne 369 = .ok (.if_icmp .eq 5, 3) := by decide +kernel
theorem dL_refusesOne_372 : decode cL_refusesOne 372 = .ok (.iconst 0, 1) := by decide +kernel
theorem dL_refusesOne_373 : decode cL_refusesOne 373 = .ok (.ireturn, 1) := by decide +kernel
theorem dL_refusesOne_374 : decode cL_refusesOne 374 = .ok (.bipush 12, 2) := by decide +kernel
theorem dL_refusesOne_376 : decode cL_refusesOne 376 = .ok (.istore 6, 2) := by decide +kernel
theorem dL_refusesOne_378 : decode cL_refusesOne 378 = .ok (.iload 6, 2) := by decide +kernel
theorem dL_refusesOne_380 : decode cL_refusesOne 380 = .ok (.bipush 22, 2) := by decide +kernel
theorem dL_refusesOne_382 : decode cL_refusesOne 382 = .ok (.if_icmp .ge 34, 3) := by decide +kernel
theorem dL_refusesOne_385 : decode cL_refusesOne 385 = .ok (.iload 6, 2) := by decide +kernel
theorem dL_refusesOne_387 : decode cL_refusesOne 387 = .ok (.bipush 20, 2) := by decide +kernel
theorem dL_refusesOne_389 : decode cL_refusesOne 389 = .ok (.if_icmp .eq 21, 3) := by decide +kernel
theorem dL_refusesOne_392 : decode cL_refusesOne 392 = .ok (.aload_n 0, 1) := by decide +kernel
theorem dL_refusesOne_393 : decode cL_refusesOne 393 = .ok (.iload 6, 2) := by decide +kernel
theorem dL_refusesOne_395 : decode cL_refusesOne 395 = .ok (.iload_n 2, 1) := by decide +kernel
theorem dL_refusesOne_396 : decode cL_refusesOne 396 = .ok (.sipush 9999, 3) := by decide +kernel
theorem dL_refusesOne_399 : decode cL_refusesOne 399 = .ok (.invokestatic 182, 3) := by decide +kernel
theorem dL_refusesOne_402 : decode cL_refusesOne 402 = .ok (.sipush (-2012), 3) := by decide +kernel
theorem dL_refusesOne_405 : decode cL_refusesOne 405 = .ok (.if_icmp .eq 5, 3) := by decide +kernel
theorem dL_refusesOne_408 : decode cL_refusesOne 408 = .ok (.iconst 0, 1) := by decide +kernel
theorem dL_refusesOne_409 : decode cL_refusesOne 409 = .ok (.ireturn, 1) := by decide +kernel
theorem dL_refusesOne_410 : decode cL_refusesOne 410 = .ok (.iinc 6 1, 3) := by decide +kernel
theorem dL_refusesOne_413 : decode cL_refusesOne 413 = .ok (.goto (-35), 3) := by decide +kernel
theorem dL_refusesOne_416 : decode cL_refusesOne 416 = .ok (.bipush 22, 2) := by decide +kernel
theorem dL_refusesOne_418 : decode cL_refusesOne 418 = .ok (.istore 6, 2) := by decide +kernel
theorem dL_refusesOne_420 : decode cL_refusesOne 420 = .ok (.iload 6, 2) := by decide +kernel
theorem dL_refusesOne_422 : decode cL_refusesOne 422 = .ok (.bipush 32, 2) := by decide +kernel
theorem dL_refusesOne_424 : decode cL_refusesOne 424 = .ok (.if_icmp .ge 49, 3) := by decide +kernel
theorem dL_refusesOne_427 : decode cL_refusesOne 427 = .ok (.aload_n 0, 1) := by decide +kernel
theorem dL_refusesOne_428 : decode cL_refusesOne 428 = .ok (.iload 6, 2) := by decide +kernel
theorem dL_refusesOne_430 : decode cL_refusesOne 430 = .ok (.iload 6, 2) := by decide +kernel
theorem dL_refusesOne_432 : decode cL_refusesOne 432 = .ok (.bipush 25, 2) := by decide +kernel
theorem dL_refusesOne_434 : decode cL_refusesOne 434 = .ok (.if_icmp .ge 7, 3) := by decide +kernel
theorem dL_refusesOne_437 : decode cL_refusesOne 437 = .ok (.iload_n 3, 1) := by decide +kernel
theorem dL_refusesOne_438 : decode cL_refusesOne 438 = .ok (.goto 17, 3) := by decide +kernel
theorem dL_refusesOne_441 : decode cL_refusesOne 441 = .ok (.iload 6, 2) := by decide +kernel
theorem dL_refusesOne_443 : decode cL_refusesOne 443 = .ok (.bipush 29, 2) := by decide +kernel
theorem dL_refusesOne_445 : decode cL_refusesOne 445 = .ok (.if_icmp .ge 8, 3) := by decide +kernel
theorem dL_refusesOne_448 : decode cL_refusesOne 448 = .ok (.iload 4, 2) := by decide +kernel
theorem dL_refusesOne_450 : decode cL_refusesOne 450 = .ok (.goto 5, 3) := by decide +kernel
theorem dL_refusesOne_453 : decode cL_refusesOne 453 = .ok (.iload 5, 2) := by decide +kernel
theorem dL_refusesOne_455 : decode cL_refusesOne 455 = .ok (.iconst 0, 1) := by decide +kernel
theorem dL_refusesOne_456 : decode cL_refusesOne 456 = .ok (.invokestatic 182, 3) := by decide +kernel
theorem dL_refusesOne_459 : decode cL_refusesOne 459 = .ok (.sipush (-2011), 3) := by decide +kernel
theorem dL_refusesOne_462 : decode cL_refusesOne 462 = .ok (.if_icmp .eq 5, 3) := by decide +kernel
theorem dL_refusesOne_465 : decode cL_refusesOne 465 = .ok (.iconst 0, 1) := by decide +kernel
theorem dL_refusesOne_466 : decode cL_refusesOne 466 = .ok (.ireturn, 1) := by decide +kernel
theorem dL_refusesOne_467 : decode cL_refusesOne 467 = .ok (.iinc 6 1, 3) := by decide +kernel
theorem dL_refusesOne_470 : decode cL_refusesOne 470 = .ok (.goto (-50), 3) := by decide +kernel
theorem dL_refusesOne_473 : decode cL_refusesOne 473 = .ok (.aload_n 0, 1) := by decide +kernel
theorem dL_refusesOne_474 : decode cL_refusesOne 474 = .ok (.invokevirtual 179, 3) := by decide +kernel
theorem dL_refusesOne_477 : decode cL_refusesOne 477 = .ok (.ifCond .le 55, 3) := by decide +kernel
theorem dL_refusesOne_480 : decode cL_refusesOne 480 = .ok (.aload_n 0, 1) := by decide +kernel
theorem dL_refusesOne_481 : decode cL_refusesOne 481 = .ok (.bipush 30, 2) := by decide +kernel
theorem dL_refusesOne_483 : decode cL_refusesOne 483 = .ok (.iconst 0, 1) := by decide +kernel
theorem dL_refusesOne_484 : decode cL_refusesOne 484 = .ok (.iload_n 1, 1) := by decide +kernel
theorem dL_refusesOne_485 : decode cL_refusesOne 485 = .ok (.iconst 0, 1) := by decide +kernel
theorem dL_refusesOne_486 : decode cL_refusesOne 486 = .ok (.aload_n 0, 1) := by decide +kernel
theorem dL_refusesOne_487 : decode cL_refusesOne 487 = .ok (.iconst 0, 1) := by decide +kernel
theorem dL_refusesOne_488 : decode cL_refusesOne 488 = .ok (.invokevirtual 121, 3) := by decide +kernel
theorem dL_refusesOne_491 : decode cL_refusesOne 491 = .ok (.iconst 1, 1) := by decide +kernel
theorem dL_refusesOne_492 : decode cL_refusesOne 492 = .ok (.isub, 1) := by decide +kernel
theorem dL_refusesOne_493 : decode cL_refusesOne 493 = .ok (.invokestatic 175, 3) := by decide +kernel
theorem dL_refusesOne_496 : decode cL_refusesOne 496 = .ok (.invokestatic 182, 3) := by decide +kernel
theorem dL_refusesOne_499 : decode cL_refusesOne 499 = .ok (.sipush (-2011), 3) := by decide +kernel
theorem dL_refusesOne_502 : decode cL_refusesOne 502 = .ok (.if_icmp .ne 28, 3) := by decide +kernel
theorem dL_refusesOne_505 : decode cL_refusesOne 505 = .ok (.aload_n 0, 1) := by decide +kernel
theorem dL_refusesOne_506 : decode cL_refusesOne 506 = .ok (.bipush 31, 2) := by decide +kernel
theorem dL_refusesOne_508 : decode cL_refusesOne 508 = .ok (.iconst 0, 1) := by decide +kernel
theorem dL_refusesOne_509 : decode cL_refusesOne 509 = .ok (.iload_n 1, 1) := by decide +kernel
theorem dL_refusesOne_510 : decode cL_refusesOne 510 = .ok (.iconst 0, 1) := by decide +kernel
theorem dL_refusesOne_511 : decode cL_refusesOne 511 = .ok (.aload_n 0, 1) := by decide +kernel
theorem dL_refusesOne_512 : decode cL_refusesOne 512 = .ok (.iconst 0, 1) := by decide +kernel
theorem dL_refusesOne_513 : decode cL_refusesOne 513 = .ok (.invokevirtual 121, 3) := by decide +kernel
theorem dL_refusesOne_516 : decode cL_refusesOne 516 = .ok (.iconst 1, 1) := by decide +kernel
theorem dL_refusesOne_517 : decode cL_refusesOne 517 = .ok (.isub, 1) := by decide +kernel
theorem dL_refusesOne_518 : decode cL_refusesOne 518 = .ok (.invokestatic 175, 3) := by decide +kernel
theorem dL_refusesOne_521 : decode cL_refusesOne 521 = .ok (.invokestatic 182, 3) := by decide +kernel
theorem dL_refusesOne_524 : decode cL_refusesOne 524 = .ok (.sipush (-2011), 3) := by decide +kernel
theorem dL_refusesOne_527 : decode cL_refusesOne 527 = .ok (.if_icmp .eq 5, 3) := by decide +kernel
theorem dL_refusesOne_530 : decode cL_refusesOne 530 = .ok (.iconst 0, 1) := by decide +kernel
theorem dL_refusesOne_531 : decode cL_refusesOne 531 = .ok (.ireturn, 1) := by decide +kernel
theorem dL_refusesOne_532 : decode cL_refusesOne 532 = .ok (.aload_n 0, 1) := by decide +kernel
theorem dL_refusesOne_533 : decode cL_refusesOne 533 = .ok (.bipush 32, 2) := by decide +kernel
theorem dL_refusesOne_535 : decode cL_refusesOne 535 = .ok (.iload_n 2, 1) := by decide +kernel
theorem dL_refusesOne_536 : decode cL_refusesOne 536 = .ok (.iconst 0, 1) := by decide +kernel
theorem dL_refusesOne_537 : decode cL_refusesOne 537 = .ok (.invokestatic 182, 3) := by decide +kernel
theorem dL_refusesOne_540 : decode cL_refusesOne 540 = .ok (.sipush (-2012), 3) := by decide +kernel
theorem dL_refusesOne_543 : decode cL_refusesOne 543 = .ok (.if_icmp .ne 89, 3) := by decide +kernel
theorem dL_refusesOne_546 : decode cL_refusesOne 546 = .ok (.aload_n 0, 1) := by decide +kernel
theorem dL_refusesOne_547 : decode cL_refusesOne 547 = .ok (.bipush 23, 2) := by decide +kernel
theorem dL_refusesOne_549 : decode cL_refusesOne 549 = .ok (.iconst 0, 1) := by decide +kernel
theorem dL_refusesOne_550 : decode cL_refusesOne 550 = .ok (.iload_n 1, 1) := by decide +kernel
theorem dL_refusesOne_551 : decode cL_refusesOne 551 = .ok (.iconst 0, 1) := by decide +kernel
theorem dL_refusesOne_552 : decode cL_refusesOne 552 = .ok (.aload_n 0, 1) := by decide +kernel
theorem dL_refusesOne_553 : decode cL_refusesOne 553 = .ok (.iconst 0, 1) := by decide +kernel
theorem dL_refusesOne_554 : decode cL_refusesOne 554 = .ok (.invokevirtual 99, 3) := by decide +kernel
theorem dL_refusesOne_557 : decode cL_refusesOne 557 = .ok (.iconst 1, 1) := by decide +kernel
theorem dL_refusesOne_558 : decode cL_refusesOne 558 = .ok (.isub, 1) := by decide +kernel
theorem dL_refusesOne_559 : decode cL_refusesOne 559 = .ok (.invokestatic 175, 3) := by decide +kernel
theorem dL_refusesOne_562 : decode cL_refusesOne 562 = .ok (.invokestatic 182, 3) := by decide +kernel
theorem dL_refusesOne_565 : decode cL_refusesOne 565 = .ok (.sipush (-2011), 3) := by decide +kernel
theorem dL_refusesOne_568 : decode cL_refusesOne 568 = .ok (.if_icmp .ne 64, 3) := by decide +kernel
theorem dL_refusesOne_571 : decode cL_refusesOne 571 = .ok (.aload_n 0, 1) := by decide +kernel
theorem dL_refusesOne_572 : decode cL_refusesOne 572 = .ok (.bipush 24, 2) := by decide +kernel
theorem dL_refusesOne_574 : decode cL_refusesOne 574 = .ok (.iconst 0, 1) := by decide +kernel
theorem dL_refusesOne_575 : decode cL_refusesOne 575 = .ok (.iload_n 1, 1) := by decide +kernel
theorem dL_refusesOne_576 : decode cL_refusesOne 576 = .ok (.iconst 0, 1) := by decide +kernel
theorem dL_refusesOne_577 : decode cL_refusesOne 577 = .ok (.aload_n 0, 1) := by decide +kernel
theorem dL_refusesOne_578 : decode cL_refusesOne 578 = .ok (.iconst 0, 1) := by decide +kernel
theorem dL_refusesOne_579 : decode cL_refusesOne 579 = .ok (.invokevirtual 99, 3) := by decide +kernel
theorem dL_refusesOne_582 : decode cL_refusesOne 582 = .ok (.iconst 1, 1) := by decide +kernel
theorem dL_refusesOne_583 : decode cL_refusesOne 583 = .ok (.isub, 1) := by decide +kernel
theorem dL_refusesOne_584 : decode cL_refusesOne 584 = .ok (.invokestatic 175, 3) := by decide +kernel
theorem dL_refusesOne_587 : decode cL_refusesOne 587 = .ok (.invokestatic 182, 3) := by decide +kernel
theorem dL_refusesOne_590 : decode cL_refusesOne 590 = .ok (.sipush (-2011), 3) := by decide +kernel
theorem dL_refusesOne_593 : decode cL_refusesOne 593 = .ok (.if_icmp .ne 39, 3) := by decide +kernel
theorem dL_refusesOne_596 : decode cL_refusesOne 596 = .ok (.aload_n 0, 1) := by decide +kernel
theorem dL_refusesOne_597 : decode cL_refusesOne 597 = .ok (.invokevirtual 146, 3) := by decide +kernel
theorem dL_refusesOne_600 : decode cL_refusesOne 600 = .ok (.ifCond .eq 28, 3) := by decide +kernel
theorem dL_refusesOne_603 : decode cL_refusesOne 603 = .ok (.aload_n 0, 1) := by decide +kernel
theorem dL_refusesOne_604 : decode cL_refusesOne 604 = .ok (.bipush 26, 2) := by decide +kernel
theorem dL_refusesOne_606 : decode cL_refusesOne 606 = .ok (.iconst 0, 1) := by decide +kernel
theorem dL_refusesOne_607 : decode cL_refusesOne 607 = .ok (.iload_n 1, 1) := by decide +kernel
theorem dL_refusesOne_608 : decode cL_refusesOne 608 = .ok (.iconst 0, 1) := by decide +kernel
theorem dL_refusesOne_609 : decode cL_refusesOne 609 = .ok (.aload_n 0, 1) := by decide +kernel
theorem dL_refusesOne_610 : decode cL_refusesOne 610 = .ok (.iconst 0, 1) := by decide +kernel
theorem dL_refusesOne_611 : decode cL_refusesOne 611 = .ok (.invokevirtual 109, 3) := by decide +kernel
theorem dL_refusesOne_614 : decode cL_refusesOne 614 = .ok (.iconst 1, 1) := by decide +kernel
theorem dL_refusesOne_615 : decode cL_refusesOne 615 = .ok (.isub, 1) := by decide +kernel
theorem dL_refusesOne_616 : decode cL_refusesOne 616 = .ok (.invokestatic 175, 3) := by decide +kernel
theorem dL_refusesOne_619 : decode cL_refusesOne 619 = .ok (.invokestatic 182, 3) := by decide +kernel
theorem dL_refusesOne_622 : decode cL_refusesOne 622 = .ok (.sipush (-2011), 3) := by decide +kernel
theorem dL_refusesOne_625 : decode cL_refusesOne 625 = .ok (.if_icmp .ne 7, 3) := by decide +kernel
theorem dL_refusesOne_628 : decode cL_refusesOne 628 = .ok (.iconst 1, 1) := by decide +kernel
theorem dL_refusesOne_629 : decode cL_refusesOne 629 = .ok (.goto 4, 3) := by decide +kernel
theorem dL_refusesOne_632 : decode cL_refusesOne 632 = .ok (.iconst 0, 1) := by decide +kernel
theorem dL_refusesOne_633 : decode cL_refusesOne 633 = .ok (.ireturn, 1) := by decide +kernel
theorem dL_refused_0 : decode cL_refused 0 = .ok (.aload_n 0, 1) := by decide +kernel
theorem dL_refused_1 : decode cL_refused 1 = .ok (.invokevirtual 192, 3) := by decide +kernel
theorem dL_refused_4 : decode cL_refused 4 = .ok (.lstore_n 1, 1) := by decide +kernel
theorem dL_refused_5 : decode cL_refused 5 = .ok (.iconst 0, 1) := by decide +kernel
theorem dL_refused_6 : decode cL_refused 6 = .ok (.istore_n 3, 1) := by decide +kernel
theorem dL_refused_7 : decode cL_refused 7 = .ok (.iload_n 3, 1) := by decide +kernel
theorem dL_refused_8 : decode cL_refused 8 = .ok (.iconst 4, 1) := by decide +kernel
theorem dL_refused_9 : decode cL_refused 9 = .ok (.if_icmp .ge 19, 3) := by decide +kernel
theorem dL_refused_12 : decode cL_refused 12 = .ok (.aload_n 0, 1) := by decide +kernel
theorem dL_refused_13 : decode cL_refused 13 = .ok (.iload_n 3, 1) := by decide +kernel
theorem dL_refused_14 : decode cL_refused 14 = .ok (.invokestatic 196, 3) := by decide +kernel
theorem dL_refused_17 : decode cL_refused 17 = .ok (.ifCond .ne 5, 3) := by decide +kernel
theorem dL_refused_20 : decode cL_refused 20 = .ok (.iconst 0, 1) := by decide +kernel
theorem dL_refused_21 : decode cL_refused 21 = .ok (.ireturn, 1) := by decide +kernel
theorem dL_refused_22 : decode cL_refused 22 = .ok (.iinc 3 1, 3) := by decide +kernel
theorem dL_refused_25 : decode cL_refused 25 = .ok (.goto (-18), 3) := by decide +kernel
theorem dL_refused_28 : decode cL_refused 28 = .ok (.aload_n 0, 1) := by decide +kernel
theorem dL_refused_29 : decode cL_refused 29 = .ok (.invokevirtual 192, 3) := by decide +kernel
theorem dL_refused_32 : decode cL_refused 32 = .ok (.lload_n 1, 1) := by decide +kernel
theorem dL_refused_33 : decode cL_refused 33 = .ok (.lcmp, 1) := by decide +kernel
theorem dL_refused_34 : decode cL_refused 34 = .ok (.ifCond .ne 7, 3) := by decide +kernel
theorem dL_refused_37 : decode cL_refused 37 = .ok (.iconst 1, 1) := by decide +kernel
theorem dL_refused_38 : decode cL_refused 38 = .ok (.goto 4, 3) := by decide +kernel
theorem dL_refused_41 : decode cL_refused 41 = .ok (.iconst 0, 1) := by decide +kernel
theorem dL_refused_42 : decode cL_refused 42 = .ok (.ireturn, 1) := by decide +kernel
theorem dL_is_0 : decode cL_is 0 = .ok (.aload_n 0, 1) := by decide +kernel
theorem dL_is_1 : decode cL_is 1 = .ok (.invokevirtual 143, 3) := by decide +kernel
theorem dL_is_4 : decode cL_is 4 = .ok (.iload_n 1, 1) := by decide +kernel
theorem dL_is_5 : decode cL_is 5 = .ok (.if_icmp .ne 69, 3) := by decide +kernel
theorem dL_is_8 : decode cL_is 8 = .ok (.aload_n 0, 1) := by decide +kernel
theorem dL_is_9 : decode cL_is 9 = .ok (.invokevirtual 146, 3) := by decide +kernel
theorem dL_is_12 : decode cL_is 12 = .ok (.iload_n 2, 1) := by decide +kernel
theorem dL_is_13 : decode cL_is 13 = .ok (.if_icmp .ne 61, 3) := by decide +kernel
theorem dL_is_16 : decode cL_is 16 = .ok (.aload_n 0, 1) := by decide +kernel
theorem dL_is_17 : decode cL_is 17 = .ok (.invokevirtual 179, 3) := by decide +kernel
theorem dL_is_20 : decode cL_is 20 = .ok (.iload_n 3, 1) := by decide +kernel
theorem dL_is_21 : decode cL_is 21 = .ok (.if_icmp .ne 53, 3) := by decide +kernel
theorem dL_is_24 : decode cL_is 24 = .ok (.aload_n 0, 1) := by decide +kernel
theorem dL_is_25 : decode cL_is 25 = .ok (.bipush 25, 2) := by decide +kernel
theorem dL_is_27 : decode cL_is 27 = .ok (.iload 4, 2) := by decide +kernel
theorem dL_is_29 : decode cL_is 29 = .ok (.iconst 0, 1) := by decide +kernel
theorem dL_is_30 : decode cL_is 30 = .ok (.invokestatic 182, 3) := by decide +kernel
theorem dL_is_33 : decode cL_is 33 = .ok (.iload 5, 2) := by decide +kernel
theorem dL_is_35 : decode cL_is 35 = .ok (.if_icmp .ne 39, 3) := by decide +kernel
theorem dL_is_38 : decode cL_is 38 = .ok (.aload_n 0, 1) := by decide +kernel
theorem dL_is_39 : decode cL_is 39 = .ok (.bipush 27, 2) := by decide +kernel
theorem dL_is_41 : decode cL_is 41 = .ok (.iload 4, 2) := by decide +kernel
theorem dL_is_43 : decode cL_is 43 = .ok (.iconst 0, 1) := by decide +kernel
theorem dL_is_44 : decode cL_is 44 = .ok (.invokestatic 182, 3) := by decide +kernel
theorem dL_is_47 : decode cL_is 47 = .ok (.iload 6, 2) := by decide +kernel
theorem dL_is_49 : decode cL_is 49 = .ok (.if_icmp .ne 25, 3) := by decide +kernel
theorem dL_is_52 : decode cL_is 52 = .ok (.aload_n 0, 1) := by decide +kernel
theorem dL_is_53 : decode cL_is 53 = .ok (.bipush 28, 2) := by decide +kernel
theorem dL_is_55 : decode cL_is 55 = .ok (.iload 4, 2) := by decide +kernel
theorem dL_is_57 : decode cL_is 57 = .ok (.iconst 0, 1) := by decide +kernel
theorem dL_is_58 : decode cL_is 58 = .ok (.invokestatic 182, 3) := by decide +kernel
theorem dL_is_61 : decode cL_is 61 = .ok (.iload 6, 2) := by decide +kernel
theorem dL_is_63 : decode cL_is 63 = .ok (.iconst 3, 1) := by decide +kernel
theorem dL_is_64 : decode cL_is 64 = .ok (.iadd, 1) := by decide +kernel
theorem dL_is_65 : decode cL_is 65 = .ok (.iconst 4, 1) := by decide +kernel
theorem dL_is_66 : decode cL_is 66 = .ok (.idiv, 1) := by decide +kernel
theorem dL_is_67 : decode cL_is 67 = .ok (.if_icmp .ne 7, 3) := by decide +kernel
theorem dL_is_70 : decode cL_is 70 = .ok (.iconst 1, 1) := by decide +kernel
theorem dL_is_71 : decode cL_is 71 = .ok (.goto 4, 3) := by decide +kernel
theorem dL_is_74 : decode cL_is 74 = .ok (.iconst 0, 1) := by decide +kernel
theorem dL_is_75 : decode cL_is 75 = .ok (.ireturn, 1) := by decide +kernel
theorem dL_trees_0 : decode cL_trees 0 = .ok (.new 28, 3) := by decide +kernel
theorem dL_trees_3 : decode cL_trees 3 = .ok (.dup, 1) := by decide +kernel
theorem dL_trees_4 : decode cL_trees 4 = .ok (.invokespecial 200, 3) := by decide +kernel
theorem dL_trees_7 : decode cL_trees 7 = .ok (.astore_n 0, 1) := by decide +kernel
theorem dL_trees_8 : decode cL_trees 8 = .ok (.aload_n 0, 1) := by decide +kernel
theorem dL_trees_9 : decode cL_trees 9 = .ok (.invokestatic 201, 3) := by decide +kernel
theorem dL_trees_12 : decode cL_trees 12 = .ok (.sipush (-2013), 3) := by decide +kernel
theorem dL_trees_15 : decode cL_trees 15 = .ok (.if_icmp .ne 472, 3) := by decide +kernel
theorem dL_trees_18 : decode cL_trees 18 = .ok (.aload_n 0, 1) := by decide +kernel
theorem dL_trees_19 : decode cL_trees 19 = .ok (.iconst 1, 1) := by decide +kernel
theorem dL_trees_20 : decode cL_trees 20 = .ok (.invokestatic 189, 3) := by decide +kernel
theorem dL_trees_23 : decode cL_trees 23 = .ok (.sipush (-2013), 3) := by decide +kernel
theorem dL_trees_26 : decode cL_trees 26 = .ok (.if_icmp .ne 461, 3) := by decide +kernel
theorem dL_trees_29 : decode cL_trees 29 = .ok (.aload_n 0, 1) := by decide +kernel
theorem dL_trees_30 : decode cL_trees 30 = .ok (.invokevirtual 143, 3) := by decide +kernel
theorem dL_trees_33 : decode cL_trees 33 = .ok (.ifCond .ne 454, 3) := by decide +kernel
theorem dL_trees_36 : decode cL_trees 36 = .ok (.aload_n 0, 1) := by decide +kernel
theorem dL_trees_37 : decode cL_trees 37 = .ok (.bipush 32, 2) := by decide +kernel
theorem dL_trees_39 : decode cL_trees 39 = .ok (.iconst 0, 1) := by decide +kernel
theorem dL_trees_40 : decode cL_trees 40 = .ok (.iconst 0, 1) := by decide +kernel
theorem dL_trees_41 : decode cL_trees 41 = .ok (.invokestatic 182, 3) := by decide +kernel
theorem dL_trees_44 : decode cL_trees 44 = .ok (.sipush (-2013), 3) := by decide +kernel
theorem dL_trees_47 : decode cL_trees 47 = .ok (.if_icmp .ne 440, 3) := by decide +kernel
theorem dL_trees_50 : decode cL_trees 50 = .ok (.aload_n 0, 1) := by decide +kernel
theorem dL_trees_51 : decode cL_trees 51 = .ok (.bipush 18, 2) := by decide +kernel
theorem dL_trees_53 : decode cL_trees 53 = .ok (.iconst 0, 1) := by decide +kernel
theorem dL_trees_54 : decode cL_trees 54 = .ok (.iconst 0, 1) := by decide +kernel
theorem dL_trees_55 : decode cL_trees 55 = .ok (.invokestatic 182, 3) := by decide +kernel
theorem dL_trees_58 : decode cL_trees 58 = .ok (.sipush (-2013), 3) := by decide +kernel
theorem dL_trees_61 : decode cL_trees 61 = .ok (.if_icmp .ne 426, 3) := by decide +kernel
theorem dL_trees_64 : decode cL_trees 64 = .ok (.aload_n 0, 1) := by decide +kernel
theorem dL_trees_65 : decode cL_trees 65 = .ok (.iconst 2, 1) := by decide +kernel
theorem dL_trees_66 : decode cL_trees 66 = .ok (.iconst 0, 1) := by decide +kernel
theorem dL_trees_67 : decode cL_trees 67 = .ok (.iconst 0, 1) := by decide +kernel
theorem dL_trees_68 : decode cL_trees 68 = .ok (.invokestatic 182, 3) := by decide +kernel
theorem dL_trees_71 : decode cL_trees 71 = .ok (.sipush (-2013), 3) := by decide +kernel
theorem dL_trees_74 : decode cL_trees 74 = .ok (.if_icmp .ne 413, 3) := by decide +kernel
theorem dL_trees_77 : decode cL_trees 77 = .ok (.aload_n 0, 1) := by decide +kernel
theorem dL_trees_78 : decode cL_trees 78 = .ok (.iconst 3, 1) := by decide +kernel
theorem dL_trees_79 : decode cL_trees 79 = .ok (.iconst 0, 1) := by decide +kernel
theorem dL_trees_80 : decode cL_trees 80 = .ok (.iconst 0, 1) := by decide +kernel
theorem dL_trees_81 : decode cL_trees 81 = .ok (.invokestatic 182, 3) := by decide +kernel
theorem dL_trees_84 : decode cL_trees 84 = .ok (.sipush (-2013), 3) := by decide +kernel
theorem dL_trees_87 : decode cL_trees 87 = .ok (.if_icmp .ne 400, 3) := by decide +kernel
theorem dL_trees_90 : decode cL_trees 90 = .ok (.aload_n 0, 1) := by decide +kernel
theorem dL_trees_91 : decode cL_trees 91 = .ok (.bipush 9, 2) := by decide +kernel
theorem dL_trees_93 : decode cL_trees 93 = .ok (.invokevirtual 78, 3) := by decide +kernel
theorem dL_trees_96 : decode cL_trees 96 = .ok (.ifCond .ne 391, 3) := by decide +kernel
theorem dL_trees_99 : decode cL_trees 99 = .ok (.aload_n 0, 1) := by decide +kernel
theorem dL_trees_100 : decode cL_trees 100 = .ok (.invokevirtual 205, 3) := by decide +kernel
theorem dL_trees_103 : decode cL_trees 103 = .ok (.dconst 0, 1) := by decide +kernel
theorem dL_trees_104 : decode cL_trees 104 = .ok (.dcmp .l, 1) := by decide +kernel
theorem dL_trees_105 : decode cL_trees 105 = .ok (.ifCond .ne 382, 3) := by decide +kernel
theorem dL_trees_108 : decode cL_trees 108 = .ok (.aload_n 0, 1) := by decide +kernel
theorem dL_trees_109 : decode cL_trees 109 = .ok (.invokevirtual 209, 3) := by decide +kernel
theorem dL_trees_112 : decode cL_trees 112 = .ok (.dconst 0, 1) := by decide +kernel
theorem dL_trees_113 : decode cL_trees 113 = .ok (.dcmp .l, 1) := by decide +kernel
theorem dL_trees_114 : decode cL_trees 114 = .ok (.ifCond .ne 373, 3) := by decide +kernel
theorem dL_trees_117 : decode cL_trees 117 = .ok (.aload_n 0, 1) := by decide +kernel
theorem dL_trees_118 : decode cL_trees 118 = .ok (.invokevirtual 212, 3) := by decide +kernel
theorem dL_trees_121 : decode cL_trees 121 = .ok (.ifCond .ne 366, 3) := by decide +kernel
theorem dL_trees_124 : decode cL_trees 124 = .ok (.aload_n 0, 1) := by decide +kernel
theorem dL_trees_125 : decode cL_trees 125 = .ok (.bipush 50, 2) := by decide +kernel
theorem dL_trees_127 : decode cL_trees 127 = .ok (.invokevirtual 133, 3) := by decide +kernel
theorem dL_trees_130 : decode cL_trees 130 = .ok (.ifCond .ne 357, 3) := by decide +kernel
theorem dL_trees_133 : decode cL_trees 133 = .ok (.aload_n 0, 1) := by decide +kernel
theorem dL_trees_134 : decode cL_trees 134 = .ok (.invokestatic 215, 3) := by decide +kernel
theorem dL_trees_137 : decode cL_trees 137 = .ok (.ifCond .eq 350, 3) := by decide +kernel
theorem dL_trees_140 : decode cL_trees 140 = .ok (.aload_n 0, 1) := by decide +kernel
theorem dL_trees_141 : decode cL_trees 141 = .ok (.bipush 10, 2) := by decide +kernel
theorem dL_trees_143 : decode cL_trees 143 = .ok (.iconst 1, 1) := by decide +kernel
theorem dL_trees_144 : decode cL_trees 144 = .ok (.invokevirtual 47, 3) := by decide +kernel
theorem dL_trees_147 : decode cL_trees 147 = .ok (.iconst 3, 1) := by decide +kernel
theorem dL_trees_148 : decode cL_trees 148 = .ok (.if_icmp .ne 339, 3) := by decide +kernel
theorem dL_trees_151 : decode cL_trees 151 = .ok (.aload_n 0, 1) := by decide +kernel
theorem dL_trees_152 : decode cL_trees 152 = .ok (.iconst 1, 1) := by decide +kernel
theorem dL_trees_153 : decode cL_trees 153 = .ok (.iconst 1, 1) := by decide +kernel
theorem dL_trees_154 : decode cL_trees 154 = .ok (.iconst 0, 1) := by decide +kernel
theorem dL_trees_155 : decode cL_trees 155 = .ok (.iconst 0, 1) := by decide +kernel
theorem dL_trees_156 : decode cL_trees 156 = .ok (.iconst 1, 1) := by decide +kernel
theorem dL_trees_157 : decode cL_trees 157 = .ok (.iconst 0, 1) := by decide +kernel
theorem dL_trees_158 : decode cL_trees 158 = .ok (.invokestatic 219, 3) := by decide +kernel
theorem dL_trees_161 : decode cL_trees 161 = .ok (.ifCond .eq 326, 3) := by decide +kernel
theorem dL_trees_164 : decode cL_trees 164 = .ok (.aload_n 0, 1) := by decide +kernel
theorem dL_trees_165 : decode cL_trees 165 = .ok (.bipush 20, 2) := by decide +kernel
theorem dL_trees_167 : decode cL_trees 167 = .ok (.iconst 2, 1) := by decide +kernel
theorem dL_trees_168 : decode cL_trees 168 = .ok (.invokevirtual 47, 3) := by decide +kernel
theorem dL_trees_171 : decode cL_trees 171 = .ok (.iconst 1, 1) := by decide +kernel
theorem dL_trees_172 : decode cL_trees 172 = .ok (.if_icmp .ne 315, 3) := by decide +kernel
theorem dL_trees_175 : decode cL_trees 175 = .ok (.aload_n 0, 1) := by decide +kernel
theorem dL_trees_176 : decode cL_trees 176 = .ok (.bipush 30, 2) := by decide +kernel
theorem dL_trees_178 : decode cL_trees 178 = .ok (.iconst 3, 1) := by decide +kernel
theorem dL_trees_179 : decode cL_trees 179 = .ok (.invokevirtual 47, 3) := by decide +kernel
theorem dL_trees_182 : decode cL_trees 182 = .ok (.iconst 1, 1) := by decide +kernel
theorem dL_trees_183 : decode cL_trees 183 = .ok (.if_icmp .ne 304, 3) := by decide +kernel
theorem dL_trees_186 : decode cL_trees 186 = .ok (.aload_n 0, 1) := by decide +kernel
theorem dL_trees_187 : decode cL_trees 187 = .ok (.iconst 5, 1) := by decide +kernel
theorem dL_trees_188 : decode cL_trees 188 = .ok (.iconst 4, 1) := by decide +kernel
theorem dL_trees_189 : decode cL_trees 189 = .ok (.invokevirtual 47, 3) := by decide +kernel
theorem dL_trees_192 : decode cL_trees 192 = .ok (.iconst 1, 1) := by decide +kernel
theorem dL_trees_193 : decode cL_trees 193 = .ok (.if_icmp .ne 294, 3) := by decide +kernel
theorem dL_trees_196 : decode cL_trees 196 = .ok (.aload_n 0, 1) := by decide +kernel
theorem dL_trees_197 : decode cL_trees 197 = .ok (.iconst 0, 1) := by decide +kernel
theorem dL_trees_198 : decode cL_trees 198 = .ok (.iconst 0, 1) := by decide +kernel
theorem dL_trees_199 : decode cL_trees 199 = .ok (.invokevirtual 112, 3) := by decide +kernel
theorem dL_trees_202 : decode cL_trees 202 = .ok (.iconst 5, 1) := by decide +kernel
theorem dL_trees_203 : decode cL_trees 203 = .ok (.if_icmp .ne 284, 3) := by decide +kernel
theorem dL_trees_206 : decode cL_trees 206 = .ok (.aload_n 0, 1) := by decide +kernel
theorem dL_trees_207 : decode cL_trees 207 = .ok (.iconst 5, 1) := by decide +kernel
theorem dL_trees_208 : decode cL_trees 208 = .ok (.invokevirtual 78, 3) := by decide +kernel
theorem dL_trees_211 : decode cL_trees 211 = .ok (.iconst 1, 1) := by decide +kernel
theorem dL_trees_212 : decode cL_trees 212 = .ok (.if_icmp .ne 275, 3) := by decide +kernel
theorem dL_trees_215 : decode cL_trees 215 = .ok (.aload_n 0, 1) := by decide +kernel
theorem dL_trees_216 : decode cL_trees 216 = .ok (.bipush 6, 2) := by decide +kernel
theorem dL_trees_218 : decode cL_trees 218 = .ok (.invokevirtual 78, 3) := by decide +kernel
theorem dL_trees_221 : decode cL_trees 221 = .ok (.iconst 1, 1) := by decide +kernel
theorem dL_trees_222 : decode cL_trees 222 = .ok (.if_icmp .ne 265, 3) := by decide +kernel
theorem dL_trees_225 : decode cL_trees 225 = .ok (.aload_n 0, 1) := by decide +kernel
theorem dL_trees_226 : decode cL_trees 226 = .ok (.bipush 40, 2) := by decide +kernel
theorem dL_trees_228 : decode cL_trees 228 = .ok (.iconst 5, 1) := by decide +kernel
theorem dL_trees_229 : decode cL_trees 229 = .ok (.invokevirtual 47, 3) := by decide +kernel
theorem dL_trees_232 : decode cL_trees 232 = .ok (.iconst 3, 1) := by decide +kernel
theorem dL_trees_233 : decode cL_trees 233 = .ok (.if_icmp .ne 254, 3) := by decide +kernel
theorem dL_trees_236 : decode cL_trees 236 = .ok (.aload_n 0, 1) := by decide +kernel
theorem dL_trees_237 : decode cL_trees 237 = .ok (.iconst 5, 1) := by decide +kernel
theorem dL_trees_238 : decode cL_trees 238 = .ok (.iconst 2, 1) := by decide +kernel
theorem dL_trees_239 : decode cL_trees 239 = .ok (.iconst 1, 1) := by decide +kernel
theorem dL_trees_240 : decode cL_trees 240 = .ok (.iconst 0, 1) := by decide +kernel
theorem dL_trees_241 : decode cL_trees 241 = .ok (.iconst 4, 1) := by decide +kernel
theorem dL_trees_242 : decode cL_trees 242 = .ok (.iconst 0, 1) := by decide +kernel
theorem dL_trees_243 : decode cL_trees 243 = .ok (.invokestatic 219, 3) := by decide +kernel
theorem dL_trees_246 : decode cL_trees 246 = .ok (.ifCond .eq 241, 3) := by decide +kernel
theorem dL_trees_249 : decode cL_trees 249 = .ok (.aload_n 0, 1) := by decide +kernel
theorem dL_trees_250 : decode cL_trees 250 = .ok (.iconst 0, 1) := by decide +kernel
theorem dL_trees_251 : decode cL_trees 251 = .ok (.invokevirtual 121, 3) := by decide +kernel
theorem dL_trees_254 : decode cL_trees 254 = .ok (.iconst 1, 1) := by decide +kernel
theorem dL_trees_255 : decode cL_trees 255 = .ok (.if_icmp .ne 232, 3) := by decide +kernel
theorem dL_trees_258 : decode cL_trees 258 = .ok (.aload_n 0, 1) := by decide +kernel
theorem dL_trees_259 : decode cL_trees 259 = .ok (.iconst 0, 1) := by decide +kernel
theorem dL_trees_260 : decode cL_trees 260 = .ok (.iconst 0, 1) := by decide +kernel
theorem dL_trees_261 : decode cL_trees 261 = .ok (.invokevirtual 124, 3) := by decide +kernel
theorem dL_trees_264 : decode cL_trees 264 = .ok (.iconst 2, 1) := by decide +kernel
theorem dL_trees_265 : decode cL_trees 265 = .ok (.if_icmp .ne 222, 3) := by decide +kernel
theorem dL_trees_268 : decode cL_trees 268 = .ok (.aload_n 0, 1) := by decide +kernel
theorem dL_trees_269 : decode cL_trees 269 = .ok (.iconst 0, 1) := by decide +kernel
theorem dL_trees_270 : decode cL_trees 270 = .ok (.iconst 0, 1) := by decide +kernel
theorem dL_trees_271 : decode cL_trees 271 = .ok (.invokevirtual 127, 3) := by decide +kernel
theorem dL_trees_274 : decode cL_trees 274 = .ok (.ifCond .ne 213, 3) := by decide +kernel
theorem dL_trees_277 : decode cL_trees 277 = .ok (.aload_n 0, 1) := by decide +kernel
theorem dL_trees_278 : decode cL_trees 278 = .ok (.bipush 39, 2) := by decide +kernel
theorem dL_trees_280 : decode cL_trees 280 = .ok (.invokevirtual 130, 3) := by decide +kernel
theorem dL_trees_283 : decode cL_trees 283 = .ok (.ifCond .ne 204, 3) := by decide +kernel
theorem dL_trees_286 : decode cL_trees 286 = .ok (.aload_n 0, 1) := by decide +kernel
theorem dL_trees_287 : decode cL_trees 287 = .ok (.bipush 40, 2) := by decide +kernel
theorem dL_trees_289 : decode cL_trees 289 = .ok (.invokevirtual 130, 3) := by decide +kernel
theorem dL_trees_292 : decode cL_trees 292 = .ok (.iconst 1, 1) := by decide +kernel
theorem dL_trees_293 : decode cL_trees 293 = .ok (.if_icmp .ne 194, 3) := by decide +kernel
theorem dL_trees_296 : decode cL_trees 296 = .ok (.aload_n 0, 1) := by decide +kernel
theorem dL_trees_297 : decode cL_trees 297 = .ok (.iconst 0, 1) := by decide +kernel
theorem dL_trees_298 : decode cL_trees 298 = .ok (.invokevirtual 130, 3) := by decide +kernel
theorem dL_trees_301 : decode cL_trees 301 = .ok (.ifCond .ne 186, 3) := by decide +kernel
theorem dL_trees_304 : decode cL_trees 304 = .ok (.aload_n 0, 1) := by decide +kernel
theorem dL_trees_305 : decode cL_trees 305 = .ok (.bipush 7, 2) := by decide +kernel
theorem dL_trees_307 : decode cL_trees 307 = .ok (.bipush 6, 2) := by decide +kernel
theorem dL_trees_309 : decode cL_trees 309 = .ok (.invokevirtual 47, 3) := by decide +kernel
theorem dL_trees_312 : decode cL_trees 312 = .ok (.iconst 2, 1) := by decide +kernel
theorem dL_trees_313 : decode cL_trees 313 = .ok (.if_icmp .ne 174, 3) := by decide +kernel
theorem dL_trees_316 : decode cL_trees 316 = .ok (.aload_n 0, 1) := by decide +kernel
theorem dL_trees_317 : decode cL_trees 317 = .ok (.bipush 6, 2) := by decide +kernel
theorem dL_trees_319 : decode cL_trees 319 = .ok (.iconst 2, 1) := by decide +kernel
theorem dL_trees_320 : decode cL_trees 320 = .ok (.iconst 1, 1) := by decide +kernel
theorem dL_trees_321 : decode cL_trees 321 = .ok (.iconst 0, 1) := by decide +kernel
theorem dL_trees_322 : decode cL_trees 322 = .ok (.iconst 4, 1) := by decide +kernel
theorem dL_trees_323 : decode cL_trees 323 = .ok (.iconst 1, 1) := by decide +kernel
theorem dL_trees_324 : decode cL_trees 324 = .ok (.invokestatic 219, 3) := by decide +kernel
theorem dL_trees_327 : decode cL_trees 327 = .ok (.ifCond .eq 160, 3) := by decide +kernel
theorem dL_trees_330 : decode cL_trees 330 = .ok (.aload_n 0, 1) := by decide +kernel
theorem dL_trees_331 : decode cL_trees 331 = .ok (.bipush 7, 2) := by decide +kernel
theorem dL_trees_333 : decode cL_trees 333 = .ok (.invokevirtual 78, 3) := by decide +kernel
theorem dL_trees_336 : decode cL_trees 336 = .ok (.iconst 3, 1) := by decide +kernel
theorem dL_trees_337 : decode cL_trees 337 = .ok (.if_icmp .ne 150, 3) := by decide +kernel
theorem dL_trees_340 : decode cL_trees 340 = .ok (.aload_n 0, 1) := by decide +kernel
theorem dL_trees_341 : decode cL_trees 341 = .ok (.bipush 10, 2) := by decide +kernel
theorem dL_trees_343 : decode cL_trees 343 = .ok (.invokevirtual 78, 3) := by decide +kernel
theorem dL_trees_346 : decode cL_trees 346 = .ok (.iconst 2, 1) := by decide +kernel
theorem dL_trees_347 : decode cL_trees 347 = .ok (.if_icmp .ne 140, 3) := by decide +kernel
theorem dL_trees_350 : decode cL_trees 350 = .ok (.aload_n 0, 1) := by decide +kernel
theorem dL_trees_351 : decode cL_trees 351 = .ok (.bipush 6, 2) := by decide +kernel
theorem dL_trees_353 : decode cL_trees 353 = .ok (.invokevirtual 78, 3) := by decide +kernel
theorem dL_trees_356 : decode cL_trees 356 = .ok (.iconst 3, 1) := by decide +kernel
theorem dL_trees_357 : decode cL_trees 357 = .ok (.if_icmp .ne 130, 3) := by decide +kernel
theorem dL_trees_360 : decode cL_trees 360 = .ok (.aload_n 0, 1) := by decide +kernel
theorem dL_trees_361 : decode cL_trees 361 = .ok (.bipush 45, 2) := by decide +kernel
theorem dL_trees_363 : decode cL_trees 363 = .ok (.invokevirtual 78, 3) := by decide +kernel
theorem dL_trees_366 : decode cL_trees 366 = .ok (.iconst 2, 1) := by decide +kernel
theorem dL_trees_367 : decode cL_trees 367 = .ok (.if_icmp .ne 120, 3) := by decide +kernel
theorem dL_trees_370 : decode cL_trees 370 = .ok (.aload_n 0, 1) := by decide +kernel
theorem dL_trees_371 : decode cL_trees 371 = .ok (.invokevirtual 209, 3) := by decide +kernel
theorem dL_trees_374 : decode cL_trees 374 = .ok (.ldc2_w 223, 3) := by decide +kernel
theorem dL_trees_377 : decode cL_trees 377 = .ok (.dcmp .l, 1) := by decide +kernel
theorem dL_trees_378 : decode cL_trees 378 = .ok (.ifCond .ne 109, 3) := by decide +kernel
theorem dL_trees_381 : decode cL_trees 381 = .ok (.aload_n 0, 1) := by decide +kernel
theorem dL_trees_382 : decode cL_trees 382 = .ok (.bipush 7, 2) := by decide +kernel
theorem dL_trees_384 : decode cL_trees 384 = .ok (.bipush 9, 2) := by decide +kernel
theorem dL_trees_386 : decode cL_trees 386 = .ok (.invokevirtual 47, 3) := by decide +kernel
theorem dL_trees_389 : decode cL_trees 389 = .ok (.ifCond .ne 98, 3) := by decide +kernel
theorem dL_trees_392 : decode cL_trees 392 = .ok (.aload_n 0, 1) := by decide +kernel
theorem dL_trees_393 : decode cL_trees 393 = .ok (.bipush 7, 2) := by decide +kernel
theorem dL_trees_395 : decode cL_trees 395 = .ok (.invokevirtual 75, 3) := by decide +kernel
theorem dL_trees_398 : decode cL_trees 398 = .ok (.bipush 9, 2) := by decide +kernel
theorem dL_trees_400 : decode cL_trees 400 = .ok (.if_icmp .ne 87, 3) := by decide +kernel
theorem dL_trees_403 : decode cL_trees 403 = .ok (.aload_n 0, 1) := by decide +kernel
theorem dL_trees_404 : decode cL_trees 404 = .ok (.bipush 35, 2) := by decide +kernel
theorem dL_trees_406 : decode cL_trees 406 = .ok (.iconst 1, 1) := by decide +kernel
theorem dL_trees_407 : decode cL_trees 407 = .ok (.invokevirtual 47, 3) := by decide +kernel
theorem dL_trees_410 : decode cL_trees 410 = .ok (.iconst 2, 1) := by decide +kernel
theorem dL_trees_411 : decode cL_trees 411 = .ok (.if_icmp .ne 76, 3) := by decide +kernel
theorem dL_trees_414 : decode cL_trees 414 = .ok (.aload_n 0, 1) := by decide +kernel
theorem dL_trees_415 : decode cL_trees 415 = .ok (.bipush 50, 2) := by decide +kernel
theorem dL_trees_417 : decode cL_trees 417 = .ok (.iconst 1, 1) := by decide +kernel
theorem dL_trees_418 : decode cL_trees 418 = .ok (.invokevirtual 47, 3) := by decide +kernel
theorem dL_trees_421 : decode cL_trees 421 = .ok (.iconst 1, 1) := by decide +kernel
theorem dL_trees_422 : decode cL_trees 422 = .ok (.if_icmp .ne 65, 3) := by decide +kernel
theorem dL_trees_425 : decode cL_trees 425 = .ok (.aload_n 0, 1) := by decide +kernel
theorem dL_trees_426 : decode cL_trees 426 = .ok (.bipush 20, 2) := by decide +kernel
theorem dL_trees_428 : decode cL_trees 428 = .ok (.invokevirtual 50, 3) := by decide +kernel
theorem dL_trees_431 : decode cL_trees 431 = .ok (.iconst 2, 1) := by decide +kernel
theorem dL_trees_432 : decode cL_trees 432 = .ok (.if_icmp .ne 55, 3) := by decide +kernel
theorem dL_trees_435 : decode cL_trees 435 = .ok (.aload_n 0, 1) := by decide +kernel
theorem dL_trees_436 : decode cL_trees 436 = .ok (.bipush 7, 2) := by decide +kernel
theorem dL_trees_438 : decode cL_trees 438 = .ok (.iconst 2, 1) := by decide +kernel
theorem dL_trees_439 : decode cL_trees 439 = .ok (.iconst 1, 1) := by decide +kernel
theorem dL_trees_440 : decode cL_trees 440 = .ok (.iconst 0, 1) := by decide +kernel
theorem dL_trees_441 : decode cL_trees 441 = .ok (.iconst 3, 1) := by decide +kernel
theorem dL_trees_442 : decode cL_trees 442 = .ok (.iconst 2, 1) := by decide +kernel
theorem dL_trees_443 : decode cL_trees 443 = .ok (.invokestatic 219, 3) := by decide +kernel
theorem dL_trees_446 : decode cL_trees 446 = .ok (.ifCond .eq 41, 3) := by decide +kernel
theorem dL_trees_449 : decode cL_trees 449 = .ok (.aload_n 0, 1) := by decide +kernel
theorem dL_trees_450 : decode cL_trees 450 = .ok (.bipush 6, 2) := by decide +kernel
theorem dL_trees_452 : decode cL_trees 452 = .ok (.bipush 20, 2) := by decide +kernel
theorem dL_trees_454 : decode cL_trees 454 = .ok (.iconst 0, 1) := by decide +kernel
theorem dL_trees_455 : decode cL_trees 455 = .ok (.invokestatic 182, 3) := by decide +kernel
theorem dL_trees_458 : decode cL_trees 458 = .ok (.sipush (-2013), 3) := by decide +kernel
theorem dL_trees_461 : decode cL_trees 461 = .ok (.if_icmp .ne 26, 3) := by decide +kernel
theorem dL_trees_464 : decode cL_trees 464 = .ok (.aload_n 0, 1) := by decide +kernel
theorem dL_trees_465 : decode cL_trees 465 = .ok (.bipush 25, 2) := by decide +kernel
theorem dL_trees_467 : decode cL_trees 467 = .ok (.bipush 7, 2) := by decide +kernel
theorem dL_trees_469 : decode cL_trees 469 = .ok (.invokevirtual 47, 3) := by decide +kernel
theorem dL_trees_472 : decode cL_trees 472 = .ok (.iconst 1, 1) := by decide +kernel
theorem dL_trees_473 : decode cL_trees 473 = .ok (.if_icmp .ne 14, 3) := by decide +kernel
theorem dL_trees_476 : decode cL_trees 476 = .ok (.aload_n 0, 1) := by decide +kernel
theorem dL_trees_477 : decode cL_trees 477 = .ok (.iconst 0, 1) := by decide +kernel
theorem dL_trees_478 : decode cL_trees 478 = .ok (.iconst 2, 1) := by decide +kernel
theorem dL_trees_479 : decode cL_trees 479 = .ok (.invokevirtual 112, 3) := by decide +kernel
theorem dL_trees_482 : decode cL_trees 482 = .ok (.bipush 25, 2) := by decide +kernel
theorem dL_trees_484 : decode cL_trees 484 = .ok (.if_icmp .eq 5, 3) := by decide +kernel
theorem dL_trees_487 : decode cL_trees 487 = .ok (.iconst 0, 1) := by decide +kernel
theorem dL_trees_488 : decode cL_trees 488 = .ok (.ireturn, 1) := by decide +kernel
theorem dL_trees_489 : decode cL_trees 489 = .ok (.aload_n 0, 1) := by decide +kernel
theorem dL_trees_490 : decode cL_trees 490 = .ok (.invokestatic 215, 3) := by decide +kernel
theorem dL_trees_493 : decode cL_trees 493 = .ok (.ifCond .eq 403, 3) := by decide +kernel
theorem dL_trees_496 : decode cL_trees 496 = .ok (.aload_n 0, 1) := by decide +kernel
theorem dL_trees_497 : decode cL_trees 497 = .ok (.bipush 60, 2) := by decide +kernel
theorem dL_trees_499 : decode cL_trees 499 = .ok (.iconst 1, 1) := by decide +kernel
theorem dL_trees_500 : decode cL_trees 500 = .ok (.invokevirtual 47, 3) := by decide +kernel
theorem dL_trees_503 : decode cL_trees 503 = .ok (.iconst 1, 1) := by decide +kernel
theorem dL_trees_504 : decode cL_trees 504 = .ok (.if_icmp .ne 392, 3) := by decide +kernel
theorem dL_trees_507 : decode cL_trees 507 = .ok (.aload_n 0, 1) := by decide +kernel
theorem dL_trees_508 : decode cL_trees 508 = .ok (.bipush 70, 2) := by decide +kernel
theorem dL_trees_510 : decode cL_trees 510 = .ok (.iconst 1, 1) := by decide +kernel
theorem dL_trees_511 : decode cL_trees 511 = .ok (.invokevirtual 47, 3) := by decide +kernel
theorem dL_trees_514 : decode cL_trees 514 = .ok (.iconst 1, 1) := by decide +kernel
theorem dL_trees_515 : decode cL_trees 515 = .ok (.if_icmp .ne 381, 3) := by decide +kernel
theorem dL_trees_518 : decode cL_trees 518 = .ok (.aload_n 0, 1) := by decide +kernel
theorem dL_trees_519 : decode cL_trees 519 = .ok (.bipush 65, 2) := by decide +kernel
theorem dL_trees_521 : decode cL_trees 521 = .ok (.iconst 2, 1) := by decide +kernel
theorem dL_trees_522 : decode cL_trees 522 = .ok (.invokevirtual 47, 3) := by decide +kernel
theorem dL_trees_525 : decode cL_trees 525 = .ok (.iconst 2, 1) := by decide +kernel
theorem dL_trees_526 : decode cL_trees 526 = .ok (.if_icmp .ne 370, 3) := by decide +kernel
theorem dL_trees_529 : decode cL_trees 529 = .ok (.aload_n 0, 1) := by decide +kernel
theorem dL_trees_530 : decode cL_trees 530 = .ok (.bipush 80, 2) := by decide +kernel
theorem dL_trees_532 : decode cL_trees 532 = .ok (.iconst 1, 1) := by decide +kernel
theorem dL_trees_533 : decode cL_trees 533 = .ok (.invokevirtual 47, 3) := by decide +kernel
theorem dL_trees_536 : decode cL_trees 536 = .ok (.iconst 3, 1) := by decide +kernel
theorem dL_trees_537 : decode cL_trees 537 = .ok (.if_icmp .ne 359, 3) := by decide +kernel
theorem dL_trees_540 : decode cL_trees 540 = .ok (.aload_n 0, 1) := by decide +kernel
theorem dL_trees_541 : decode cL_trees 541 = .ok (.bipush 12, 2) := by decide +kernel
theorem dL_trees_543 : decode cL_trees 543 = .ok (.iconst 3, 1) := by decide +kernel
theorem dL_trees_544 : decode cL_trees 544 = .ok (.iconst 1, 1) := by decide +kernel
theorem dL_trees_545 : decode cL_trees 545 = .ok (.iconst 1, 1) := by decide +kernel
theorem dL_trees_546 : decode cL_trees 546 = .ok (.iconst 4, 1) := by decide +kernel
theorem dL_trees_547 : decode cL_trees 547 = .ok (.iconst 1, 1) := by decide +kernel
theorem dL_trees_548 : decode cL_trees 548 = .ok (.invokestatic 219, 3) := by decide +kernel
theorem dL_trees_551 : decode cL_trees 551 = .ok (.ifCond .eq 345, 3) := by decide +kernel
theorem dL_trees_554 : decode cL_trees 554 = .ok (.aload_n 0, 1) := by decide +kernel
theorem dL_trees_555 : decode cL_trees 555 = .ok (.iconst 0, 1) := by decide +kernel
theorem dL_trees_556 : decode cL_trees 556 = .ok (.iconst 0, 1) := by decide +kernel
theorem dL_trees_557 : decode cL_trees 557 = .ok (.invokevirtual 124, 3) := by decide +kernel
theorem dL_trees_560 : decode cL_trees 560 = .ok (.iconst 3, 1) := by decide +kernel
theorem dL_trees_561 : decode cL_trees 561 = .ok (.if_icmp .ne 335, 3) := by decide +kernel
theorem dL_trees_564 : decode cL_trees 564 = .ok (.aload_n 0, 1) := by decide +kernel
theorem dL_trees_565 : decode cL_trees 565 = .ok (.bipush 81, 2) := by decide +kernel
theorem dL_trees_567 : decode cL_trees 567 = .ok (.iconst 0, 1) := by decide +kernel
theorem dL_trees_568 : decode cL_trees 568 = .ok (.invokevirtual 47, 3) := by decide +kernel
theorem dL_trees_571 : decode cL_trees 571 = .ok (.iconst 1, 1) := by decide +kernel
theorem dL_trees_572 : decode cL_trees 572 = .ok (.if_icmp .ne 324, 3) := by decide +kernel
theorem dL_trees_575 : decode cL_trees 575 = .ok (.aload_n 0, 1) := by decide +kernel
theorem dL_trees_576 : decode cL_trees 576 = .ok (.bipush 82, 2) := by decide +kernel
theorem dL_trees_578 : decode cL_trees 578 = .ok (.iconst 0, 1) := by decide +kernel
theorem dL_trees_579 : decode cL_trees 579 = .ok (.invokevirtual 47, 3) := by decide +kernel
theorem dL_trees_582 : decode cL_trees 582 = .ok (.iconst 1, 1) := by decide +kernel
theorem dL_trees_583 : decode cL_trees 583 = .ok (.if_icmp .ne 313, 3) := by decide +kernel
theorem dL_trees_586 : decode cL_trees 586 = .ok (.aload_n 0, 1) := by decide +kernel
theorem dL_trees_587 : decode cL_trees 587 = .ok (.bipush 83, 2) := by decide +kernel
theorem dL_trees_589 : decode cL_trees 589 = .ok (.iconst 0, 1) := by decide +kernel
theorem dL_trees_590 : decode cL_trees 590 = .ok (.invokevirtual 47, 3) := by decide +kernel
theorem dL_trees_593 : decode cL_trees 593 = .ok (.iconst 1, 1) := by decide +kernel
theorem dL_trees_594 : decode cL_trees 594 = .ok (.if_icmp .ne 302, 3) := by decide +kernel
theorem dL_trees_597 : decode cL_trees 597 = .ok (.aload_n 0, 1) := by decide +kernel
theorem dL_trees_598 : decode cL_trees 598 = .ok (.bipush 90, 2) := by decide +kernel
theorem dL_trees_600 : decode cL_trees 600 = .ok (.bipush 8, 2) := by decide +kernel
theorem dL_trees_602 : decode cL_trees 602 = .ok (.invokevirtual 47, 3) := by decide +kernel
theorem dL_trees_605 : decode cL_trees 605 = .ok (.iconst 3, 1) := by decide +kernel
theorem dL_trees_606 : decode cL_trees 606 = .ok (.if_icmp .ne 290, 3) := by decide +kernel
theorem dL_trees_609 : decode cL_trees 609 = .ok (.aload_n 0, 1) := by decide +kernel
theorem dL_trees_610 : decode cL_trees 610 = .ok (.bipush 16, 2) := by decide +kernel
theorem dL_trees_612 : decode cL_trees 612 = .ok (.iconst 4, 1) := by decide +kernel
theorem dL_trees_613 : decode cL_trees 613 = .ok (.iconst 2, 1) := by decide +kernel
theorem dL_trees_614 : decode cL_trees 614 = .ok (.iconst 3, 1) := by decide +kernel
theorem dL_trees_615 : decode cL_trees 615 = .ok (.iconst 1, 1) := by decide +kernel
theorem dL_trees_616 : decode cL_trees 616 = .ok (.iconst 0, 1) := by decide +kernel
theorem dL_trees_617 : decode cL_trees 617 = .ok (.invokestatic 219, 3) := by decide +kernel
theorem dL_trees_620 : decode cL_trees 620 = .ok (.ifCond .eq 276, 3) := by decide +kernel
theorem dL_trees_623 : decode cL_trees 623 = .ok (.aload_n 0, 1) := by decide +kernel
theorem dL_trees_624 : decode cL_trees 624 = .ok (.iconst 0, 1) := by decide +kernel
theorem dL_trees_625 : decode cL_trees 625 = .ok (.invokevirtual 121, 3) := by decide +kernel
theorem dL_trees_628 : decode cL_trees 628 = .ok (.iconst 2, 1) := by decide +kernel
theorem dL_trees_629 : decode cL_trees 629 = .ok (.if_icmp .ne 267, 3) := by decide +kernel
theorem dL_trees_632 : decode cL_trees 632 = .ok (.aload_n 0, 1) := by decide +kernel
theorem dL_trees_633 : decode cL_trees 633 = .ok (.iconst 1, 1) := by decide +kernel
theorem dL_trees_634 : decode cL_trees 634 = .ok (.invokevirtual 121, 3) := by decide +kernel
theorem dL_trees_637 : decode cL_trees 637 = .ok (.iconst 1, 1) := by decide +kernel
theorem dL_trees_638 : decode cL_trees 638 = .ok (.if_icmp .ne 258, 3) := by decide +kernel
theorem dL_trees_641 : decode cL_trees 641 = .ok (.aload_n 0, 1) := by decide +kernel
theorem dL_trees_642 : decode cL_trees 642 = .ok (.iconst 0, 1) := by decide +kernel
theorem dL_trees_643 : decode cL_trees 643 = .ok (.iconst 0, 1) := by decide +kernel
theorem dL_trees_644 : decode cL_trees 644 = .ok (.invokevirtual 124, 3) := by decide +kernel
theorem dL_trees_647 : decode cL_trees 647 = .ok (.iconst 3, 1) := by decide +kernel
theorem dL_trees_648 : decode cL_trees 648 = .ok (.if_icmp .ne 248, 3) := by decide +kernel
theorem dL_trees_651 : decode cL_trees 651 = .ok (.aload_n 0, 1) := by decide +kernel
theorem dL_trees_652 : decode cL_trees 652 = .ok (.iconst 0, 1) := by decide +kernel
theorem dL_trees_653 : decode cL_trees 653 = .ok (.iconst 1, 1) := by decide +kernel
theorem dL_trees_654 : decode cL_trees 654 = .ok (.invokevirtual 124, 3) := by decide +kernel
theorem dL_trees_657 : decode cL_trees 657 = .ok (.iconst 1, 1) := by decide +kernel
theorem dL_trees_658 : decode cL_trees 658 = .ok (.if_icmp .ne 238, 3) := by decide +kernel
theorem dL_trees_661 : decode cL_trees 661 = .ok (.aload_n 0, 1) := by decide +kernel
theorem dL_trees_662 : decode cL_trees 662 = .ok (.iconst 1, 1) := by decide +kernel
theorem dL_trees_663 : decode cL_trees 663 = .ok (.iconst 0, 1) := by decide +kernel
theorem dL_trees_664 : decode cL_trees 664 = .ok (.invokevirtual 124, 3) := by decide +kernel
theorem dL_trees_667 : decode cL_trees 667 = .ok (.iconst 2, 1) := by decide +kernel
theorem dL_trees_668 : decode cL_trees 668 = .ok (.if_icmp .ne 228, 3) := by decide +kernel
theorem dL_trees_671 : decode cL_trees 671 = .ok (.aload_n 0, 1) := by decide +kernel
theorem dL_trees_672 : decode cL_trees 672 = .ok (.iconst 0, 1) := by decide +kernel
theorem dL_trees_673 : decode cL_trees 673 = .ok (.iconst 1, 1) := by decide +kernel
theorem dL_trees_674 : decode cL_trees 674 = .ok (.invokevirtual 127, 3) := by decide +kernel
theorem dL_trees_677 : decode cL_trees 677 = .ok (.bipush 90, 2) := by decide +kernel
theorem dL_trees_679 : decode cL_trees 679 = .ok (.if_icmp .ne 217, 3) := by decide +kernel
theorem dL_trees_682 : decode cL_trees 682 = .ok (.aload_n 0, 1) := by decide +kernel
theorem dL_trees_683 : decode cL_trees 683 = .ok (.iconst 1, 1) := by decide +kernel
theorem dL_trees_684 : decode cL_trees 684 = .ok (.iconst 0, 1) := by decide +kernel
theorem dL_trees_685 : decode cL_trees 685 = .ok (.invokevirtual 127, 3) := by decide +kernel
theorem dL_trees_688 : decode cL_trees 688 = .ok (.ifCond .ne 208, 3) := by decide +kernel
theorem dL_trees_691 : decode cL_trees 691 = .ok (.aload_n 0, 1) := by decide +kernel
theorem dL_trees_692 : decode cL_trees 692 = .ok (.bipush 89, 2) := by decide +kernel
theorem dL_trees_694 : decode cL_trees 694 = .ok (.invokevirtual 130, 3) := by decide +kernel
theorem dL_trees_697 : decode cL_trees 697 = .ok (.iconst 2, 1) := by decide +kernel
theorem dL_trees_698 : decode cL_trees 698 = .ok (.if_icmp .ne 198, 3) := by decide +kernel
theorem dL_trees_701 : decode cL_trees 701 = .ok (.aload_n 0, 1) := by decide +kernel
theorem dL_trees_702 : decode cL_trees 702 = .ok (.iconst 1, 1) := by decide +kernel
theorem dL_trees_703 : decode cL_trees 703 = .ok (.iconst 1, 1) := by decide +kernel
theorem dL_trees_704 : decode cL_trees 704 = .ok (.invokevirtual 47, 3) := by decide +kernel
theorem dL_trees_707 : decode cL_trees 707 = .ok (.iconst 2, 1) := by decide +kernel
theorem dL_trees_708 : decode cL_trees 708 = .ok (.if_icmp .ne 188, 3) := by decide +kernel
theorem dL_trees_711 : decode cL_trees 711 = .ok (.aload_n 0, 1) := by decide +kernel
theorem dL_trees_712 : decode cL_trees 712 = .ok (.iconst 2, 1) := by decide +kernel
theorem dL_trees_713 : decode cL_trees 713 = .ok (.iconst 2, 1) := by decide +kernel
theorem dL_trees_714 : decode cL_trees 714 = .ok (.invokevirtual 47, 3) := by decide +kernel
theorem dL_trees_717 : decode cL_trees 717 = .ok (.iconst 2, 1) := by decide +kernel
theorem dL_trees_718 : decode cL_trees 718 = .ok (.if_icmp .ne 178, 3) := by decide +kernel
theorem dL_trees_721 : decode cL_trees 721 = .ok (.aload_n 0, 1) := by decide +kernel
theorem dL_trees_722 : decode cL_trees 722 = .ok (.iconst 3, 1) := by decide +kernel
theorem dL_trees_723 : decode cL_trees 723 = .ok (.iconst 3, 1) := by decide +kernel
theorem dL_trees_724 : decode cL_trees 724 = .ok (.invokevirtual 47, 3) := by decide +kernel
theorem dL_trees_727 : decode cL_trees 727 = .ok (.iconst 2, 1) := by decide +kernel
theorem dL_trees_728 : decode cL_trees 728 = .ok (.if_icmp .ne 168, 3) := by decide +kernel
theorem dL_trees_731 : decode cL_trees 731 = .ok (.aload_n 0, 1) := by decide +kernel
theorem dL_trees_732 : decode cL_trees 732 = .ok (.bipush 19, 2) := by decide +kernel
theorem dL_trees_734 : decode cL_trees 734 = .ok (.iconst 4, 1) := by decide +kernel
theorem dL_trees_735 : decode cL_trees 735 = .ok (.iconst 2, 1) := by decide +kernel
theorem dL_trees_736 : decode cL_trees 736 = .ok (.iconst 0, 1) := by decide +kernel
theorem dL_trees_737 : decode cL_trees 737 = .ok (.iconst 4, 1) := by decide +kernel
theorem dL_trees_738 : decode cL_trees 738 = .ok (.iconst 5, 1) := by decide +kernel
theorem dL_trees_739 : decode cL_trees 739 = .ok (.invokestatic 219, 3) := by decide +kernel
theorem dL_trees_742 : decode cL_trees 742 = .ok (.ifCond .eq 154, 3) := by decide +kernel
theorem dL_trees_745 : decode cL_trees 745 = .ok (.aload_n 0, 1) := by decide +kernel
theorem dL_trees_746 : decode cL_trees 746 = .ok (.iconst 3, 1) := by decide +kernel
theorem dL_trees_747 : decode cL_trees 747 = .ok (.invokevirtual 78, 3) := by decide +kernel
theorem dL_trees_750 : decode cL_trees 750 = .ok (.iconst 5, 1) := by decide +kernel
theorem dL_trees_751 : decode cL_trees 751 = .ok (.if_icmp .ne 145, 3) := by decide +kernel
theorem dL_trees_754 : decode cL_trees 754 = .ok (.aload_n 0, 1) := by decide +kernel
theorem dL_trees_755 : decode cL_trees 755 = .ok (.iconst 2, 1) := by decide +kernel
theorem dL_trees_756 : decode cL_trees 756 = .ok (.invokevirtual 78, 3) := by decide +kernel
theorem dL_trees_759 : decode cL_trees 759 = .ok (.iconst 4, 1) := by decide +kernel
theorem dL_trees_760 : decode cL_trees 760 = .ok (.if_icmp .ne 136, 3) := by decide +kernel
theorem dL_trees_763 : decode cL_trees 763 = .ok (.aload_n 0, 1) := by decide +kernel
theorem dL_trees_764 : decode cL_trees 764 = .ok (.iconst 4, 1) := by decide +kernel
theorem dL_trees_765 : decode cL_trees 765 = .ok (.invokevirtual 78, 3) := by decide +kernel
theorem dL_trees_768 : decode cL_trees 768 = .ok (.iconst 5, 1) := by decide +kernel
theorem dL_trees_769 : decode cL_trees 769 = .ok (.if_icmp .ne 127, 3) := by decide +kernel
theorem dL_trees_772 : decode cL_trees 772 = .ok (.aload_n 0, 1) := by decide +kernel
theorem dL_trees_773 : decode cL_trees 773 = .ok (.bipush 7, 2) := by decide +kernel
theorem dL_trees_775 : decode cL_trees 775 = .ok (.invokevirtual 50, 3) := by decide +kernel
theorem dL_trees_778 : decode cL_trees 778 = .ok (.bipush 9, 2) := by decide +kernel
theorem dL_trees_780 : decode cL_trees 780 = .ok (.if_icmp .ne 116, 3) := by decide +kernel
theorem dL_trees_783 : decode cL_trees 783 = .ok (.aload_n 0, 1) := by decide +kernel
theorem dL_trees_784 : decode cL_trees 784 = .ok (.bipush 18, 2) := by decide +kernel
theorem dL_trees_786 : decode cL_trees 786 = .ok (.iconst 4, 1) := by decide +kernel
theorem dL_trees_787 : decode cL_trees 787 = .ok (.iconst 2, 1) := by decide +kernel
theorem dL_trees_788 : decode cL_trees 788 = .ok (.iconst 0, 1) := by decide +kernel
theorem dL_trees_789 : decode cL_trees 789 = .ok (.iconst 4, 1) := by decide +kernel
theorem dL_trees_790 : decode cL_trees 790 = .ok (.iconst 4, 1) := by decide +kernel
theorem dL_trees_791 : decode cL_trees 791 = .ok (.invokestatic 219, 3) := by decide +kernel
theorem dL_trees_794 : decode cL_trees 794 = .ok (.ifCond .eq 102, 3) := by decide +kernel
theorem dL_trees_797 : decode cL_trees 797 = .ok (.aload_n 0, 1) := by decide +kernel
theorem dL_trees_798 : decode cL_trees 798 = .ok (.iconst 3, 1) := by decide +kernel
theorem dL_trees_799 : decode cL_trees 799 = .ok (.invokevirtual 78, 3) := by decide +kernel
theorem dL_trees_802 : decode cL_trees 802 = .ok (.iconst 4, 1) := by decide +kernel
theorem dL_trees_803 : decode cL_trees 803 = .ok (.if_icmp .ne 93, 3) := by decide +kernel
theorem dL_trees_806 : decode cL_trees 806 = .ok (.aload_n 0, 1) := by decide +kernel
theorem dL_trees_807 : decode cL_trees 807 = .ok (.invokevirtual 212, 3) := by decide +kernel
theorem dL_trees_810 : decode cL_trees 810 = .ok (.iconst 4, 1) := by decide +kernel
theorem dL_trees_811 : decode cL_trees 811 = .ok (.if_icmp .ne 85, 3) := by decide +kernel
theorem dL_trees_814 : decode cL_trees 814 = .ok (.aload_n 0, 1) := by decide +kernel
theorem dL_trees_815 : decode cL_trees 815 = .ok (.iconst 3, 1) := by decide +kernel
theorem dL_trees_816 : decode cL_trees 816 = .ok (.bipush 40, 2) := by decide +kernel
theorem dL_trees_818 : decode cL_trees 818 = .ok (.invokevirtual 81, 3) := by decide +kernel
theorem dL_trees_821 : decode cL_trees 821 = .ok (.bipush 7, 2) := by decide +kernel
theorem dL_trees_823 : decode cL_trees 823 = .ok (.if_icmp .ne 73, 3) := by decide +kernel
theorem dL_trees_826 : decode cL_trees 826 = .ok (.aload_n 0, 1) := by decide +kernel
theorem dL_trees_827 : decode cL_trees 827 = .ok (.iconst 3, 1) := by decide +kernel
theorem dL_trees_828 : decode cL_trees 828 = .ok (.bipush 40, 2) := by decide +kernel
theorem dL_trees_830 : decode cL_trees 830 = .ok (.invokevirtual 84, 3) := by decide +kernel
theorem dL_trees_833 : decode cL_trees 833 = .ok (.bipush 7, 2) := by decide +kernel
theorem dL_trees_835 : decode cL_trees 835 = .ok (.if_icmp .ne 61, 3) := by decide +kernel
theorem dL_trees_838 : decode cL_trees 838 = .ok (.aload_n 0, 1) := by decide +kernel
theorem dL_trees_839 : decode cL_trees 839 = .ok (.iconst 3, 1) := by decide +kernel
theorem dL_trees_840 : decode cL_trees 840 = .ok (.invokevirtual 87, 3) := by decide +kernel
theorem dL_trees_843 : decode cL_trees 843 = .ok (.iconst 5, 1) := by decide +kernel
theorem dL_trees_844 : decode cL_trees 844 = .ok (.if_icmp .ne 52, 3) := by decide +kernel
theorem dL_trees_847 : decode cL_trees 847 = .ok (.aload_n 0, 1) := by decide +kernel
theorem dL_trees_848 : decode cL_trees 848 = .ok (.bipush 40, 2) := by decide +kernel
theorem dL_trees_850 : decode cL_trees 850 = .ok (.invokevirtual 87, 3) := by decide +kernel
theorem dL_trees_853 : decode cL_trees 853 = .ok (.bipush 50, 2) := by decide +kernel
theorem dL_trees_855 : decode cL_trees 855 = .ok (.if_icmp .ne 41, 3) := by decide +kernel
theorem dL_trees_858 : decode cL_trees 858 = .ok (.aload_n 0, 1) := by decide +kernel
theorem dL_trees_859 : decode cL_trees 859 = .ok (.iconst 5, 1) := by decide +kernel
theorem dL_trees_860 : decode cL_trees 860 = .ok (.invokevirtual 90, 3) := by decide +kernel
theorem dL_trees_863 : decode cL_trees 863 = .ok (.iconst 3, 1) := by decide +kernel
theorem dL_trees_864 : decode cL_trees 864 = .ok (.if_icmp .ne 32, 3) := by decide +kernel
theorem dL_trees_867 : decode cL_trees 867 = .ok (.aload_n 0, 1) := by decide +kernel
theorem dL_trees_868 : decode cL_trees 868 = .ok (.bipush 19, 2) := by decide +kernel
theorem dL_trees_870 : decode cL_trees 870 = .ok (.iconst 1, 1) := by decide +kernel
theorem dL_trees_871 : decode cL_trees 871 = .ok (.iconst 0, 1) := by decide +kernel
theorem dL_trees_872 : decode cL_trees 872 = .ok (.invokestatic 182, 3) := by decide +kernel
theorem dL_trees_875 : decode cL_trees 875 = .ok (.sipush (-2013), 3) := by decide +kernel
theorem dL_trees_878 : decode cL_trees 878 = .ok (.if_icmp .ne 18, 3) := by decide +kernel
theorem dL_trees_881 : decode cL_trees 881 = .ok (.aload_n 0, 1) := by decide +kernel
theorem dL_trees_882 : decode cL_trees 882 = .ok (.bipush 18, 2) := by decide +kernel
theorem dL_trees_884 : decode cL_trees 884 = .ok (.bipush 90, 2) := by decide +kernel
theorem dL_trees_886 : decode cL_trees 886 = .ok (.iconst 0, 1) := by decide +kernel
theorem dL_trees_887 : decode cL_trees 887 = .ok (.invokestatic 182, 3) := by decide +kernel
theorem dL_trees_890 : decode cL_trees 890 = .ok (.sipush (-2013), 3) := by decide +kernel
theorem dL_trees_893 : decode cL_trees 893 = .ok (.if_icmp .eq 5, 3) := by decide +kernel
theorem dL_trees_896 : decode cL_trees 896 = .ok (.iconst 0, 1) := by decide +kernel
theorem dL_trees_897 : decode cL_trees 897 = .ok (.ireturn, 1) := by decide +kernel
theorem dL_trees_898 : decode cL_trees 898 = .ok (.aload_n 0, 1) := by decide +kernel
theorem dL_trees_899 : decode cL_trees 899 = .ok (.iconst 0, 1) := by decide +kernel
theorem dL_trees_900 : decode cL_trees 900 = .ok (.invokestatic 185, 3) := by decide +kernel
theorem dL_trees_903 : decode cL_trees 903 = .ok (.ifCond .ne 212, 3) := by decide +kernel
theorem dL_trees_906 : decode cL_trees 906 = .ok (.aload_n 0, 1) := by decide +kernel
theorem dL_trees_907 : decode cL_trees 907 = .ok (.bipush 100, 2) := by decide +kernel
theorem dL_trees_909 : decode cL_trees 909 = .ok (.invokevirtual 133, 3) := by decide +kernel
theorem dL_trees_912 : decode cL_trees 912 = .ok (.iconst 5, 1) := by decide +kernel
theorem dL_trees_913 : decode cL_trees 913 = .ok (.if_icmp .ne 202, 3) := by decide +kernel
theorem dL_trees_916 : decode cL_trees 916 = .ok (.aload_n 0, 1) := by decide +kernel
theorem dL_trees_917 : decode cL_trees 917 = .ok (.bipush 100, 2) := by decide +kernel
theorem dL_trees_919 : decode cL_trees 919 = .ok (.invokevirtual 136, 3) := by decide +kernel
theorem dL_trees_922 : decode cL_trees 922 = .ok (.iconst 2, 1) := by decide +kernel
theorem dL_trees_923 : decode cL_trees 923 = .ok (.if_icmp .ne 192, 3) := by decide +kernel
theorem dL_trees_926 : decode cL_trees 926 = .ok (.aload_n 0, 1) := by decide +kernel
theorem dL_trees_927 : decode cL_trees 927 = .ok (.bipush 50, 2) := by decide +kernel
theorem dL_trees_929 : decode cL_trees 929 = .ok (.invokevirtual 133, 3) := by decide +kernel
theorem dL_trees_932 : decode cL_trees 932 = .ok (.bipush 9, 2) := by decide +kernel
theorem dL_trees_934 : decode cL_trees 934 = .ok (.if_icmp .ne 181, 3) := by decide +kernel
theorem dL_trees_937 : decode cL_trees 937 = .ok (.aload_n 0, 1) := by decide +kernel
theorem dL_trees_938 : decode cL_trees 938 = .ok (.bipush 74, 2) := by decide +kernel
theorem dL_trees_940 : decode cL_trees 940 = .ok (.invokevirtual 133, 3) := by decide +kernel
theorem dL_trees_943 : decode cL_trees 943 = .ok (.bipush 9, 2) := by decide +kernel
theorem dL_trees_945 : decode cL_trees 945 = .ok (.if_icmp .ne 170, 3) := by decide +kernel
theorem dL_trees_948 : decode cL_trees 948 = .ok (.aload_n 0, 1) := by decide +kernel
theorem dL_trees_949 : decode cL_trees 949 = .ok (.bipush 75, 2) := by decide +kernel
theorem dL_trees_951 : decode cL_trees 951 = .ok (.invokevirtual 133, 3) := by decide +kernel
theorem dL_trees_954 : decode cL_trees 954 = .ok (.bipush 6, 2) := by decide +kernel
theorem dL_trees_956 : decode cL_trees 956 = .ok (.if_icmp .ne 159, 3) := by decide +kernel
theorem dL_trees_959 : decode cL_trees 959 = .ok (.aload_n 0, 1) := by decide +kernel
theorem dL_trees_960 : decode cL_trees 960 = .ok (.bipush 75, 2) := by decide +kernel
theorem dL_trees_962 : decode cL_trees 962 = .ok (.invokevirtual 44, 3) := by decide +kernel
theorem dL_trees_965 : decode cL_trees 965 = .ok (.bipush 6, 2) := by decide +kernel
theorem dL_trees_967 : decode cL_trees 967 = .ok (.if_icmp .ne 148, 3) := by decide +kernel
theorem dL_trees_970 : decode cL_trees 970 = .ok (.aload_n 0, 1) := by decide +kernel
theorem dL_trees_971 : decode cL_trees 971 = .ok (.bipush 18, 2) := by decide +kernel
theorem dL_trees_973 : decode cL_trees 973 = .ok (.bipush 6, 2) := by decide +kernel
theorem dL_trees_975 : decode cL_trees 975 = .ok (.iconst 2, 1) := by decide +kernel
theorem dL_trees_976 : decode cL_trees 976 = .ok (.iconst 5, 1) := by decide +kernel
theorem dL_trees_977 : decode cL_trees 977 = .ok (.iconst 3, 1) := by decide +kernel
theorem dL_trees_978 : decode cL_trees 978 = .ok (.iconst 0, 1) := by decide +kernel
theorem dL_trees_979 : decode cL_trees 979 = .ok (.invokestatic 219, 3) := by decide +kernel
theorem dL_trees_982 : decode cL_trees 982 = .ok (.ifCond .eq 133, 3) := by decide +kernel
theorem dL_trees_985 : decode cL_trees 985 = .ok (.aload_n 0, 1) := by decide +kernel
theorem dL_trees_986 : decode cL_trees 986 = .ok (.iconst 0, 1) := by decide +kernel
theorem dL_trees_987 : decode cL_trees 987 = .ok (.invokevirtual 121, 3) := by decide +kernel
theorem dL_trees_990 : decode cL_trees 990 = .ok (.iconst 2, 1) := by decide +kernel
theorem dL_trees_991 : decode cL_trees 991 = .ok (.if_icmp .ne 124, 3) := by decide +kernel
theorem dL_trees_994 : decode cL_trees 994 = .ok (.aload_n 0, 1) := by decide +kernel
theorem dL_trees_995 : decode cL_trees 995 = .ok (.iconst 0, 1) := by decide +kernel
theorem dL_trees_996 : decode cL_trees 996 = .ok (.iconst 1, 1) := by decide +kernel
theorem dL_trees_997 : decode cL_trees 997 = .ok (.invokevirtual 127, 3) := by decide +kernel
theorem dL_trees_1000 : decode cL_trees 1000 = .ok (.bipush 50, 2) := by decide +kernel
theorem dL_trees_1002 : decode cL_trees 1002 = .ok (.if_icmp .ne 113, 3) := by decide +kernel
theorem dL_trees_1005 : decode cL_trees 1005 = .ok (.aload_n 0, 1) := by decide +kernel
theorem dL_trees_1006 : decode cL_trees 1006 = .ok (.iconst 2, 1) := by decide +kernel
theorem dL_trees_1007 : decode cL_trees 1007 = .ok (.iconst 0, 1) := by decide +kernel
theorem dL_trees_1008 : decode cL_trees 1008 = .ok (.invokevirtual 112, 3) := by decide +kernel
theorem dL_trees_1011 : decode cL_trees 1011 = .ok (.bipush 30, 2) := by decide +kernel
theorem dL_trees_1013 : decode cL_trees 1013 = .ok (.if_icmp .ne 102, 3) := by decide +kernel
theorem dL_trees_1016 : decode cL_trees 1016 = .ok (.aload_n 0, 1) := by decide +kernel
theorem dL_trees_1017 : decode cL_trees 1017 = .ok (.invokevirtual 152, 3) := by decide +kernel
theorem dL_trees_1020 : decode cL_trees 1020 = .ok (.bipush 18, 2) := by decide +kernel
theorem dL_trees_1022 : decode cL_trees 1022 = .ok (.if_icmp .ne 93, 3) := by decide +kernel
theorem dL_trees_1025 : decode cL_trees 1025 = .ok (.aload_n 0, 1) := by decide +kernel
theorem dL_trees_1026 : decode cL_trees 1026 = .ok (.invokevirtual 149, 3) := by decide +kernel
theorem dL_trees_1029 : decode cL_trees 1029 = .ok (.iconst 1, 1) := by decide +kernel
theorem dL_trees_1030 : decode cL_trees 1030 = .ok (.if_icmp .ne 85, 3) := by decide +kernel
theorem dL_trees_1033 : decode cL_trees 1033 = .ok (.aload_n 0, 1) := by decide +kernel
theorem dL_trees_1034 : decode cL_trees 1034 = .ok (.invokevirtual 205, 3) := by decide +kernel
theorem dL_trees_1037 : decode cL_trees 1037 = .ok (.ldc2_w 225, 3) := by decide +kernel
theorem dL_trees_1040 : decode cL_trees 1040 = .ok (.dcmp .l, 1) := by decide +kernel
theorem dL_trees_1041 : decode cL_trees 1041 = .ok (.ifCond .ne 74, 3) := by decide +kernel
theorem dL_trees_1044 : decode cL_trees 1044 = .ok (.aload_n 0, 1) := by decide +kernel
theorem dL_trees_1045 : decode cL_trees 1045 = .ok (.iconst 4, 1) := by decide +kernel
theorem dL_trees_1046 : decode cL_trees 1046 = .ok (.iconst 4, 1) := by decide +kernel
theorem dL_trees_1047 : decode cL_trees 1047 = .ok (.invokevirtual 47, 3) := by decide +kernel
theorem dL_trees_1050 : decode cL_trees 1050 = .ok (.iconst 1, 1) := by decide +kernel
theorem dL_trees_1051 : decode cL_trees 1051 = .ok (.if_icmp .ne 64, 3) := by decide +kernel
theorem dL_trees_1054 : decode cL_trees 1054 = .ok (.aload_n 0, 1) := by decide +kernel
theorem dL_trees_1055 : decode cL_trees 1055 = .ok (.iconst 0, 1) := by decide +kernel
theorem dL_trees_1056 : decode cL_trees 1056 = .ok (.invokevirtual 109, 3) := by decide +kernel
theorem dL_trees_1059 : decode cL_trees 1059 = .ok (.iconst 4, 1) := by decide +kernel
theorem dL_trees_1060 : decode cL_trees 1060 = .ok (.if_icmp .ne 55, 3) := by decide +kernel
theorem dL_trees_1063 : decode cL_trees 1063 = .ok (.aload_n 0, 1) := by decide +kernel
theorem dL_trees_1064 : decode cL_trees 1064 = .ok (.bipush 8, 2) := by decide +kernel
theorem dL_trees_1066 : decode cL_trees 1066 = .ok (.invokevirtual 53, 3) := by decide +kernel
theorem dL_trees_1069 : decode cL_trees 1069 = .ok (.iconst 4, 1) := by decide +kernel
theorem dL_trees_1070 : decode cL_trees 1070 = .ok (.if_icmp .ne 45, 3) := by decide +kernel
theorem dL_trees_1073 : decode cL_trees 1073 = .ok (.aload_n 0, 1) := by decide +kernel
theorem dL_trees_1074 : decode cL_trees 1074 = .ok (.iconst 2, 1) := by decide +kernel
theorem dL_trees_1075 : decode cL_trees 1075 = .ok (.invokevirtual 56, 3) := by decide +kernel
theorem dL_trees_1078 : decode cL_trees 1078 = .ok (.iconst 3, 1) := by decide +kernel
theorem dL_trees_1079 : decode cL_trees 1079 = .ok (.if_icmp .ne 36, 3) := by decide +kernel
theorem dL_trees_1082 : decode cL_trees 1082 = .ok (.aload_n 0, 1) := by decide +kernel
theorem dL_trees_1083 : decode cL_trees 1083 = .ok (.bipush 6, 2) := by decide +kernel
theorem dL_trees_1085 : decode cL_trees 1085 = .ok (.bipush 6, 2) := by decide +kernel
theorem dL_trees_1087 : decode cL_trees 1087 = .ok (.invokevirtual 47, 3) := by decide +kernel
theorem dL_trees_1090 : decode cL_trees 1090 = .ok (.iconst 1, 1) := by decide +kernel
theorem dL_trees_1091 : decode cL_trees 1091 = .ok (.if_icmp .ne 24, 3) := by decide +kernel
theorem dL_trees_1094 : decode cL_trees 1094 = .ok (.aload_n 0, 1) := by decide +kernel
theorem dL_trees_1095 : decode cL_trees 1095 = .ok (.bipush 8, 2) := by decide +kernel
theorem dL_trees_1097 : decode cL_trees 1097 = .ok (.bipush 6, 2) := by decide +kernel
theorem dL_trees_1099 : decode cL_trees 1099 = .ok (.invokevirtual 47, 3) := by decide +kernel
theorem dL_trees_1102 : decode cL_trees 1102 = .ok (.iconst 2, 1) := by decide +kernel
theorem dL_trees_1103 : decode cL_trees 1103 = .ok (.if_icmp .ne 12, 3) := by decide +kernel
theorem dL_trees_1106 : decode cL_trees 1106 = .ok (.aload_n 0, 1) := by decide +kernel
theorem dL_trees_1107 : decode cL_trees 1107 = .ok (.iconst 1, 1) := by decide +kernel
theorem dL_trees_1108 : decode cL_trees 1108 = .ok (.invokevirtual 109, 3) := by decide +kernel
theorem dL_trees_1111 : decode cL_trees 1111 = .ok (.iconst 4, 1) := by decide +kernel
theorem dL_trees_1112 : decode cL_trees 1112 = .ok (.if_icmp .eq 5, 3) := by decide +kernel
theorem dL_trees_1115 : decode cL_trees 1115 = .ok (.iconst 0, 1) := by decide +kernel
theorem dL_trees_1116 : decode cL_trees 1116 = .ok (.ireturn, 1) := by decide +kernel
theorem dL_trees_1117 : decode cL_trees 1117 = .ok (.aload_n 0, 1) := by decide +kernel
theorem dL_trees_1118 : decode cL_trees 1118 = .ok (.iconst 0, 1) := by decide +kernel
theorem dL_trees_1119 : decode cL_trees 1119 = .ok (.invokestatic 189, 3) := by decide +kernel
theorem dL_trees_1122 : decode cL_trees 1122 = .ok (.ifCond .ne 72, 3) := by decide +kernel
theorem dL_trees_1125 : decode cL_trees 1125 = .ok (.aload_n 0, 1) := by decide +kernel
theorem dL_trees_1126 : decode cL_trees 1126 = .ok (.invokevirtual 149, 3) := by decide +kernel
theorem dL_trees_1129 : decode cL_trees 1129 = .ok (.ifCond .ne 65, 3) := by decide +kernel
theorem dL_trees_1132 : decode cL_trees 1132 = .ok (.aload_n 0, 1) := by decide +kernel
theorem dL_trees_1133 : decode cL_trees 1133 = .ok (.bipush 18, 2) := by decide +kernel
theorem dL_trees_1135 : decode cL_trees 1135 = .ok (.iconst 4, 1) := by decide +kernel
theorem dL_trees_1136 : decode cL_trees 1136 = .ok (.iconst 2, 1) := by decide +kernel
theorem dL_trees_1137 : decode cL_trees 1137 = .ok (.iconst 0, 1) := by decide +kernel
theorem dL_trees_1138 : decode cL_trees 1138 = .ok (.iconst 4, 1) := by decide +kernel
theorem dL_trees_1139 : decode cL_trees 1139 = .ok (.iconst 4, 1) := by decide +kernel
theorem dL_trees_1140 : decode cL_trees 1140 = .ok (.invokestatic 219, 3) := by decide +kernel
theorem dL_trees_1143 : decode cL_trees 1143 = .ok (.ifCond .eq 51, 3) := by decide +kernel
theorem dL_trees_1146 : decode cL_trees 1146 = .ok (.aload_n 0, 1) := by decide +kernel
theorem dL_trees_1147 : decode cL_trees 1147 = .ok (.invokevirtual 164, 3) := by decide +kernel
theorem dL_trees_1150 : decode cL_trees 1150 = .ok (.bipush 6, 2) := by decide +kernel
theorem dL_trees_1152 : decode cL_trees 1152 = .ok (.if_icmp .ne 42, 3) := by decide +kernel
theorem dL_trees_1155 : decode cL_trees 1155 = .ok (.aload_n 0, 1) := by decide +kernel
theorem dL_trees_1156 : decode cL_trees 1156 = .ok (.invokestatic 201, 3) := by decide +kernel
theorem dL_trees_1159 : decode cL_trees 1159 = .ok (.iconst 5, 1) := by decide +kernel
theorem dL_trees_1160 : decode cL_trees 1160 = .ok (.if_icmp .ne 34, 3) := by decide +kernel
theorem dL_trees_1163 : decode cL_trees 1163 = .ok (.aload_n 0, 1) := by decide +kernel
theorem dL_trees_1164 : decode cL_trees 1164 = .ok (.invokevirtual 149, 3) := by decide +kernel
theorem dL_trees_1167 : decode cL_trees 1167 = .ok (.iconst 1, 1) := by decide +kernel
theorem dL_trees_1168 : decode cL_trees 1168 = .ok (.if_icmp .ne 26, 3) := by decide +kernel
theorem dL_trees_1171 : decode cL_trees 1171 = .ok (.aload_n 0, 1) := by decide +kernel
theorem dL_trees_1172 : decode cL_trees 1172 = .ok (.invokestatic 215, 3) := by decide +kernel
theorem dL_trees_1175 : decode cL_trees 1175 = .ok (.ifCond .eq 19, 3) := by decide +kernel
theorem dL_trees_1178 : decode cL_trees 1178 = .ok (.invokestatic 227, 3) := by decide +kernel
theorem dL_trees_1181 : decode cL_trees 1181 = .ok (.ifCond .eq 13, 3) := by decide +kernel
theorem dL_trees_1184 : decode cL_trees 1184 = .ok (.invokestatic 231, 3) := by decide +kernel
theorem dL_trees_1187 : decode cL_trees 1187 = .ok (.ifCond .eq 7, 3) := by decide +kernel
theorem dL_trees_1190 : decode cL_trees 1190 = .ok (.iconst 1, 1) := by decide +kernel
theorem dL_trees_1191 : decode cL_trees 1191 = .ok (.goto 4, 3) := by decide +kernel
theorem dL_trees_1194 : decode cL_trees 1194 = .ok (.iconst 0, 1) := by decide +kernel
theorem dL_trees_1195 : decode cL_trees 1195 = .ok (.ireturn, 1) := by decide +kernel
theorem dL_runsOf_0 : decode cL_runsOf 0 = .ok (.new 28, 3) := by decide +kernel
theorem dL_runsOf_3 : decode cL_runsOf 3 = .ok (.dup, 1) := by decide +kernel
theorem dL_runsOf_4 : decode cL_runsOf 4 = .ok (.invokespecial 200, 3) := by decide +kernel
theorem dL_runsOf_7 : decode cL_runsOf 7 = .ok (.astore_n 0, 1) := by decide +kernel
theorem dL_runsOf_8 : decode cL_runsOf 8 = .ok (.aload_n 0, 1) := by decide +kernel
theorem dL_runsOf_9 : decode cL_runsOf 9 = .ok (.bipush 100, 2) := by decide +kernel
theorem dL_runsOf_11 : decode cL_runsOf 11 = .ok (.iconst 5, 1) := by decide +kernel
theorem dL_runsOf_12 : decode cL_runsOf 12 = .ok (.invokevirtual 27, 3) := by decide +kernel
theorem dL_runsOf_15 : decode cL_runsOf 15 = .ok (.iconst 1, 1) := by decide +kernel
theorem dL_runsOf_16 : decode cL_runsOf 16 = .ok (.if_icmp .ne 435, 3) := by decide +kernel
theorem dL_runsOf_19 : decode cL_runsOf 19 = .ok (.aload_n 0, 1) := by decide +kernel
theorem dL_runsOf_20 : decode cL_runsOf 20 = .ok (.bipush 7, 2) := by decide +kernel
theorem dL_runsOf_22 : decode cL_runsOf 22 = .ok (.iconst 3, 1) := by decide +kernel
theorem dL_runsOf_23 : decode cL_runsOf 23 = .ok (.invokevirtual 27, 3) := by decide +kernel
theorem dL_runsOf_26 : decode cL_runsOf 26 = .ok (.iconst 2, 1) := by decide +kernel
theorem dL_runsOf_27 : decode cL_runsOf 27 = .ok (.if_icmp .ne 424, 3) := by decide +kernel
theorem dL_runsOf_30 : decode cL_runsOf 30 = .ok (.aload_n 0, 1) := by decide +kernel
theorem dL_runsOf_31 : decode cL_runsOf 31 = .ok (.bipush 10, 2) := by decide +kernel
theorem dL_runsOf_33 : decode cL_runsOf 33 = .ok (.invokevirtual 33, 3) := by decide +kernel
theorem dL_runsOf_36 : decode cL_runsOf 36 = .ok (.iconst 3, 1) := by decide +kernel
theorem dL_runsOf_37 : decode cL_runsOf 37 = .ok (.if_icmp .ne 414, 3) := by decide +kernel
theorem dL_runsOf_40 : decode cL_runsOf 40 = .ok (.aload_n 0, 1) := by decide +kernel
theorem dL_runsOf_41 : decode cL_runsOf 41 = .ok (.bipush 7, 2) := by decide +kernel
theorem dL_runsOf_43 : decode cL_runsOf 43 = .ok (.iconst 4, 1) := by decide +kernel
theorem dL_runsOf_44 : decode cL_runsOf 44 = .ok (.invokevirtual 27, 3) := by decide +kernel
theorem dL_runsOf_47 : decode cL_runsOf 47 = .ok (.iconst 3, 1) := by decide +kernel
theorem dL_runsOf_48 : decode cL_runsOf 48 = .ok (.if_icmp .ne 403, 3) := by decide +kernel
theorem dL_runsOf_51 : decode cL_runsOf 51 = .ok (.aload_n 0, 1) := by decide +kernel
theorem dL_runsOf_52 : decode cL_runsOf 52 = .ok (.iconst 0, 1) := by decide +kernel
theorem dL_runsOf_53 : decode cL_runsOf 53 = .ok (.iconst 0, 1) := by decide +kernel
theorem dL_runsOf_54 : decode cL_runsOf 54 = .ok (.invokevirtual 102, 3) := by decide +kernel
theorem dL_runsOf_57 : decode cL_runsOf 57 = .ok (.bipush 7, 2) := by decide +kernel
theorem dL_runsOf_59 : decode cL_runsOf 59 = .ok (.if_icmp .ne 392, 3) := by decide +kernel
theorem dL_runsOf_62 : decode cL_runsOf 62 = .ok (.aload_n 0, 1) := by decide +kernel
theorem dL_runsOf_63 : decode cL_runsOf 63 = .ok (.iconst 0, 1) := by decide +kernel
theorem dL_runsOf_64 : decode cL_runsOf 64 = .ok (.iconst 1, 1) := by decide +kernel
theorem dL_runsOf_65 : decode cL_runsOf 65 = .ok (.invokevirtual 102, 3) := by decide +kernel
theorem dL_runsOf_68 : decode cL_runsOf 68 = .ok (.bipush 10, 2) := by decide +kernel
theorem dL_runsOf_70 : decode cL_runsOf 70 = .ok (.if_icmp .ne 381, 3) := by decide +kernel
theorem dL_runsOf_73 : decode cL_runsOf 73 = .ok (.aload_n 0, 1) := by decide +kernel
theorem dL_runsOf_74 : decode cL_runsOf 74 = .ok (.iconst 0, 1) := by decide +kernel
theorem dL_runsOf_75 : decode cL_runsOf 75 = .ok (.iconst 1, 1) := by decide +kernel
theorem dL_runsOf_76 : decode cL_runsOf 76 = .ok (.invokevirtual 105, 3) := by decide +kernel
theorem dL_runsOf_79 : decode cL_runsOf 79 = .ok (.ifCond .eq 372, 3) := by decide +kernel
theorem dL_runsOf_82 : decode cL_runsOf 82 = .ok (.aload_n 0, 1) := by decide +kernel
theorem dL_runsOf_83 : decode cL_runsOf 83 = .ok (.iconst 0, 1) := by decide +kernel
theorem dL_runsOf_84 : decode cL_runsOf 84 = .ok (.iconst 2, 1) := by decide +kernel
theorem dL_runsOf_85 : decode cL_runsOf 85 = .ok (.invokevirtual 105, 3) := by decide +kernel
theorem dL_runsOf_88 : decode cL_runsOf 88 = .ok (.ifCond .ne 363, 3) := by decide +kernel
theorem dL_runsOf_91 : decode cL_runsOf 91 = .ok (.aload_n 0, 1) := by decide +kernel
theorem dL_runsOf_92 : decode cL_runsOf 92 = .ok (.invokevirtual 158, 3) := by decide +kernel
theorem dL_runsOf_95 : decode cL_runsOf 95 = .ok (.iconst 2, 1) := by decide +kernel
theorem dL_runsOf_96 : decode cL_runsOf 96 = .ok (.if_icmp .ne 355, 3) := by decide +kernel
theorem dL_runsOf_99 : decode cL_runsOf 99 = .ok (.aload_n 0, 1) := by decide +kernel
theorem dL_runsOf_100 : decode cL_runsOf 100 = .ok (.bipush 7, 2) := by decide +kernel
theorem dL_runsOf_102 : decode cL_runsOf 102 = .ok (.invokevirtual 75, 3) := by decide +kernel
theorem dL_runsOf_105 : decode cL_runsOf 105 = .ok (.iconst 4, 1) := by decide +kernel
theorem dL_runsOf_106 : decode cL_runsOf 106 = .ok (.if_icmp .ne 345, 3) := by decide +kernel
theorem dL_runsOf_109 : decode cL_runsOf 109 = .ok (.aload_n 0, 1) := by decide +kernel
theorem dL_runsOf_110 : decode cL_runsOf 110 = .ok (.bipush 14, 2) := by decide +kernel
theorem dL_runsOf_112 : decode cL_runsOf 112 = .ok (.bipush 10, 2) := by decide +kernel
theorem dL_runsOf_114 : decode cL_runsOf 114 = .ok (.iconst 0, 1) := by decide +kernel
theorem dL_runsOf_115 : decode cL_runsOf 115 = .ok (.invokestatic 182, 3) := by decide +kernel
theorem dL_runsOf_118 : decode cL_runsOf 118 = .ok (.sipush (-2013), 3) := by decide +kernel
theorem dL_runsOf_121 : decode cL_runsOf 121 = .ok (.if_icmp .ne 330, 3) := by decide +kernel
theorem dL_runsOf_124 : decode cL_runsOf 124 = .ok (.aload_n 0, 1) := by decide +kernel
theorem dL_runsOf_125 : decode cL_runsOf 125 = .ok (.bipush 10, 2) := by decide +kernel
theorem dL_runsOf_127 : decode cL_runsOf 127 = .ok (.invokevirtual 78, 3) := by decide +kernel
theorem dL_runsOf_130 : decode cL_runsOf 130 = .ok (.iconst 1, 1) := by decide +kernel
theorem dL_runsOf_131 : decode cL_runsOf 131 = .ok (.if_icmp .ne 320, 3) := by decide +kernel
theorem dL_runsOf_134 : decode cL_runsOf 134 = .ok (.aload_n 0, 1) := by decide +kernel
theorem dL_runsOf_135 : decode cL_runsOf 135 = .ok (.bipush 11, 2) := by decide +kernel
theorem dL_runsOf_137 : decode cL_runsOf 137 = .ok (.invokevirtual 78, 3) := by decide +kernel
theorem dL_runsOf_140 : decode cL_runsOf 140 = .ok (.iconst 1, 1) := by decide +kernel
theorem dL_runsOf_141 : decode cL_runsOf 141 = .ok (.if_icmp .ne 310, 3) := by decide +kernel
theorem dL_runsOf_144 : decode cL_runsOf 144 = .ok (.aload_n 0, 1) := by decide +kernel
theorem dL_runsOf_145 : decode cL_runsOf 145 = .ok (.iconst 5, 1) := by decide +kernel
theorem dL_runsOf_146 : decode cL_runsOf 146 = .ok (.bipush 10, 2) := by decide +kernel
theorem dL_runsOf_148 : decode cL_runsOf 148 = .ok (.iconst 1, 1) := by decide +kernel
theorem dL_runsOf_149 : decode cL_runsOf 149 = .ok (.invokestatic 182, 3) := by decide +kernel
theorem dL_runsOf_152 : decode cL_runsOf 152 = .ok (.sipush (-2013), 3) := by decide +kernel
theorem dL_runsOf_155 : decode cL_runsOf 155 = .ok (.if_icmp .ne 296, 3) := by decide +kernel
theorem dL_runsOf_158 : decode cL_runsOf 158 = .ok (.aload_n 0, 1) := by decide +kernel
theorem dL_runsOf_159 : decode cL_runsOf 159 = .ok (.bipush 6, 2) := by decide +kernel
theorem dL_runsOf_161 : decode cL_runsOf 161 = .ok (.bipush 10, 2) := by decide +kernel
theorem dL_runsOf_163 : decode cL_runsOf 163 = .ok (.iconst 0, 1) := by decide +kernel
theorem dL_runsOf_164 : decode cL_runsOf 164 = .ok (.invokestatic 182, 3) := by decide +kernel
theorem dL_runsOf_167 : decode cL_runsOf 167 = .ok (.sipush (-2013), 3) := by decide +kernel
theorem dL_runsOf_170 : decode cL_runsOf 170 = .ok (.if_icmp .ne 281, 3) := by decide +kernel
theorem dL_runsOf_173 : decode cL_runsOf 173 = .ok (.aload_n 0, 1) := by decide +kernel
theorem dL_runsOf_174 : decode cL_runsOf 174 = .ok (.bipush 11, 2) := by decide +kernel
theorem dL_runsOf_176 : decode cL_runsOf 176 = .ok (.bipush 11, 2) := by decide +kernel
theorem dL_runsOf_178 : decode cL_runsOf 178 = .ok (.invokevirtual 47, 3) := by decide +kernel
theorem dL_runsOf_181 : decode cL_runsOf 181 = .ok (.iconst 3, 1) := by decide +kernel
theorem dL_runsOf_182 : decode cL_runsOf 182 = .ok (.if_icmp .ne 269, 3) := by decide +kernel
theorem dL_runsOf_185 : decode cL_runsOf 185 = .ok (.aload_n 0, 1) := by decide +kernel
theorem dL_runsOf_186 : decode cL_runsOf 186 = .ok (.bipush 11, 2) := by decide +kernel
theorem dL_runsOf_188 : decode cL_runsOf 188 = .ok (.invokevirtual 78, 3) := by decide +kernel
theorem dL_runsOf_191 : decode cL_runsOf 191 = .ok (.iconst 2, 1) := by decide +kernel
theorem dL_runsOf_192 : decode cL_runsOf 192 = .ok (.if_icmp .ne 259, 3) := by decide +kernel
theorem dL_runsOf_195 : decode cL_runsOf 195 = .ok (.aload_n 0, 1) := by decide +kernel
theorem dL_runsOf_196 : decode cL_runsOf 196 = .ok (.invokevirtual 37, 3) := by decide +kernel
theorem dL_runsOf_199 : decode cL_runsOf 199 = .ok (.iconst 1, 1) := by decide +kernel
theorem dL_runsOf_200 : decode cL_runsOf 200 = .ok (.if_icmp .ne 251, 3) := by decide +kernel
theorem dL_runsOf_203 : decode cL_runsOf 203 = .ok (.aload_n 0, 1) := by decide +kernel
theorem dL_runsOf_204 : decode cL_runsOf 204 = .ok (.iconst 2, 1) := by decide +kernel
theorem dL_runsOf_205 : decode cL_runsOf 205 = .ok (.iconst 0, 1) := by decide +kernel
theorem dL_runsOf_206 : decode cL_runsOf 206 = .ok (.iconst 0, 1) := by decide +kernel
theorem dL_runsOf_207 : decode cL_runsOf 207 = .ok (.invokestatic 182, 3) := by decide +kernel
theorem dL_runsOf_210 : decode cL_runsOf 210 = .ok (.sipush (-2013), 3) := by decide +kernel
theorem dL_runsOf_213 : decode cL_runsOf 213 = .ok (.if_icmp .ne 238, 3) := by decide +kernel
theorem dL_runsOf_216 : decode cL_runsOf 216 = .ok (.aload_n 0, 1) := by decide +kernel
theorem dL_runsOf_217 : decode cL_runsOf 217 = .ok (.bipush 7, 2) := by decide +kernel
theorem dL_runsOf_219 : decode cL_runsOf 219 = .ok (.invokevirtual 96, 3) := by decide +kernel
theorem dL_runsOf_222 : decode cL_runsOf 222 = .ok (.iconst 1, 1) := by decide +kernel
theorem dL_runsOf_223 : decode cL_runsOf 223 = .ok (.if_icmp .ne 228, 3) := by decide +kernel
theorem dL_runsOf_226 : decode cL_runsOf 226 = .ok (.aload_n 0, 1) := by decide +kernel
theorem dL_runsOf_227 : decode cL_runsOf 227 = .ok (.bipush 21, 2) := by decide +kernel
theorem dL_runsOf_229 : decode cL_runsOf 229 = .ok (.bipush 11, 2) := by decide +kernel
theorem dL_runsOf_231 : decode cL_runsOf 231 = .ok (.iconst 0, 1) := by decide +kernel
theorem dL_runsOf_232 : decode cL_runsOf 232 = .ok (.invokestatic 182, 3) := by decide +kernel
theorem dL_runsOf_235 : decode cL_runsOf 235 = .ok (.sipush (-2013), 3) := by decide +kernel
theorem dL_runsOf_238 : decode cL_runsOf 238 = .ok (.if_icmp .ne 213, 3) := by decide +kernel
theorem dL_runsOf_241 : decode cL_runsOf 241 = .ok (.aload_n 0, 1) := by decide +kernel
theorem dL_runsOf_242 : decode cL_runsOf 242 = .ok (.bipush 100, 2) := by decide +kernel
theorem dL_runsOf_244 : decode cL_runsOf 244 = .ok (.bipush 8, 2) := by decide +kernel
theorem dL_runsOf_246 : decode cL_runsOf 246 = .ok (.invokevirtual 27, 3) := by decide +kernel
theorem dL_runsOf_249 : decode cL_runsOf 249 = .ok (.iconst 1, 1) := by decide +kernel
theorem dL_runsOf_250 : decode cL_runsOf 250 = .ok (.if_icmp .ne 201, 3) := by decide +kernel
theorem dL_runsOf_253 : decode cL_runsOf 253 = .ok (.aload_n 0, 1) := by decide +kernel
theorem dL_runsOf_254 : decode cL_runsOf 254 = .ok (.bipush 100, 2) := by decide +kernel
theorem dL_runsOf_256 : decode cL_runsOf 256 = .ok (.invokevirtual 75, 3) := by decide +kernel
theorem dL_runsOf_259 : decode cL_runsOf 259 = .ok (.bipush 8, 2) := by decide +kernel
theorem dL_runsOf_261 : decode cL_runsOf 261 = .ok (.if_icmp .ne 190, 3) := by decide +kernel
theorem dL_runsOf_264 : decode cL_runsOf 264 = .ok (.aload_n 0, 1) := by decide +kernel
theorem dL_runsOf_265 : decode cL_runsOf 265 = .ok (.invokevirtual 37, 3) := by decide +kernel
theorem dL_runsOf_268 : decode cL_runsOf 268 = .ok (.iconst 2, 1) := by decide +kernel
theorem dL_runsOf_269 : decode cL_runsOf 269 = .ok (.if_icmp .ne 182, 3) := by decide +kernel
theorem dL_runsOf_272 : decode cL_runsOf 272 = .ok (.aload_n 0, 1) := by decide +kernel
theorem dL_runsOf_273 : decode cL_runsOf 273 = .ok (.bipush 7, 2) := by decide +kernel
theorem dL_runsOf_275 : decode cL_runsOf 275 = .ok (.invokevirtual 78, 3) := by decide +kernel
theorem dL_runsOf_278 : decode cL_runsOf 278 = .ok (.iconst 2, 1) := by decide +kernel
theorem dL_runsOf_279 : decode cL_runsOf 279 = .ok (.if_icmp .ne 172, 3) := by decide +kernel
theorem dL_runsOf_282 : decode cL_runsOf 282 = .ok (.aload_n 0, 1) := by decide +kernel
theorem dL_runsOf_283 : decode cL_runsOf 283 = .ok (.bipush 100, 2) := by decide +kernel
theorem dL_runsOf_285 : decode cL_runsOf 285 = .ok (.invokevirtual 78, 3) := by decide +kernel
theorem dL_runsOf_288 : decode cL_runsOf 288 = .ok (.iconst 1, 1) := by decide +kernel
theorem dL_runsOf_289 : decode cL_runsOf 289 = .ok (.if_icmp .ne 162, 3) := by decide +kernel
theorem dL_runsOf_292 : decode cL_runsOf 292 = .ok (.aload_n 0, 1) := by decide +kernel
theorem dL_runsOf_293 : decode cL_runsOf 293 = .ok (.bipush 7, 2) := by decide +kernel
theorem dL_runsOf_295 : decode cL_runsOf 295 = .ok (.invokevirtual 96, 3) := by decide +kernel
theorem dL_runsOf_298 : decode cL_runsOf 298 = .ok (.iconst 2, 1) := by decide +kernel
theorem dL_runsOf_299 : decode cL_runsOf 299 = .ok (.if_icmp .ne 152, 3) := by decide +kernel
theorem dL_runsOf_302 : decode cL_runsOf 302 = .ok (.aload_n 0, 1) := by decide +kernel
theorem dL_runsOf_303 : decode cL_runsOf 303 = .ok (.bipush 100, 2) := by decide +kernel
theorem dL_runsOf_305 : decode cL_runsOf 305 = .ok (.invokevirtual 96, 3) := by decide +kernel
theorem dL_runsOf_308 : decode cL_runsOf 308 = .ok (.iconst 1, 1) := by decide +kernel
theorem dL_runsOf_309 : decode cL_runsOf 309 = .ok (.if_icmp .ne 142, 3) := by decide +kernel
theorem dL_runsOf_312 : decode cL_runsOf 312 = .ok (.aload_n 0, 1) := by decide +kernel
theorem dL_runsOf_313 : decode cL_runsOf 313 = .ok (.invokevirtual 234, 3) := by decide +kernel
theorem dL_runsOf_316 : decode cL_runsOf 316 = .ok (.iconst 4, 1) := by decide +kernel
theorem dL_runsOf_317 : decode cL_runsOf 317 = .ok (.if_icmp .ne 134, 3) := by decide +kernel
theorem dL_runsOf_320 : decode cL_runsOf 320 = .ok (.aload_n 0, 1) := by decide +kernel
theorem dL_runsOf_321 : decode cL_runsOf 321 = .ok (.bipush 100, 2) := by decide +kernel
theorem dL_runsOf_323 : decode cL_runsOf 323 = .ok (.invokevirtual 33, 3) := by decide +kernel
theorem dL_runsOf_326 : decode cL_runsOf 326 = .ok (.iconst 1, 1) := by decide +kernel
theorem dL_runsOf_327 : decode cL_runsOf 327 = .ok (.if_icmp .ne 124, 3) := by decide +kernel
theorem dL_runsOf_330 : decode cL_runsOf 330 = .ok (.aload_n 0, 1) := by decide +kernel
theorem dL_runsOf_331 : decode cL_runsOf 331 = .ok (.bipush 100, 2) := by decide +kernel
theorem dL_runsOf_333 : decode cL_runsOf 333 = .ok (.invokevirtual 68, 3) := by decide +kernel
theorem dL_runsOf_336 : decode cL_runsOf 336 = .ok (.ifCond .ne 115, 3) := by decide +kernel
theorem dL_runsOf_339 : decode cL_runsOf 339 = .ok (.aload_n 0, 1) := by decide +kernel
theorem dL_runsOf_340 : decode cL_runsOf 340 = .ok (.bipush 100, 2) := by decide +kernel
theorem dL_runsOf_342 : decode cL_runsOf 342 = .ok (.invokevirtual 72, 3) := by decide +kernel
theorem dL_runsOf_345 : decode cL_runsOf 345 = .ok (.ifCond .ne 106, 3) := by decide +kernel
theorem dL_runsOf_348 : decode cL_runsOf 348 = .ok (.aload_n 0, 1) := by decide +kernel
theorem dL_runsOf_349 : decode cL_runsOf 349 = .ok (.bipush 100, 2) := by decide +kernel
theorem dL_runsOf_351 : decode cL_runsOf 351 = .ok (.invokevirtual 78, 3) := by decide +kernel
theorem dL_runsOf_354 : decode cL_runsOf 354 = .ok (.iconst 1, 1) := by decide +kernel
theorem dL_runsOf_355 : decode cL_runsOf 355 = .ok (.if_icmp .ne 96, 3) := by decide +kernel
theorem dL_runsOf_358 : decode cL_runsOf 358 = .ok (.aload_n 0, 1) := by decide +kernel
theorem dL_runsOf_359 : decode cL_runsOf 359 = .ok (.bipush 7, 2) := by decide +kernel
theorem dL_runsOf_361 : decode cL_runsOf 361 = .ok (.invokevirtual 78, 3) := by decide +kernel
theorem dL_runsOf_364 : decode cL_runsOf 364 = .ok (.iconst 3, 1) := by decide +kernel
theorem dL_runsOf_365 : decode cL_runsOf 365 = .ok (.if_icmp .ne 86, 3) := by decide +kernel
theorem dL_runsOf_368 : decode cL_runsOf 368 = .ok (.aload_n 0, 1) := by decide +kernel
theorem dL_runsOf_369 : decode cL_runsOf 369 = .ok (.invokevirtual 158, 3) := by decide +kernel
theorem dL_runsOf_372 : decode cL_runsOf 372 = .ok (.iconst 2, 1) := by decide +kernel
theorem dL_runsOf_373 : decode cL_runsOf 373 = .ok (.if_icmp .ne 78, 3) := by decide +kernel
theorem dL_runsOf_376 : decode cL_runsOf 376 = .ok (.aload_n 0, 1) := by decide +kernel
theorem dL_runsOf_377 : decode cL_runsOf 377 = .ok (.invokevirtual 41, 3) := by decide +kernel
theorem dL_runsOf_380 : decode cL_runsOf 380 = .ok (.iconst 3, 1) := by decide +kernel
theorem dL_runsOf_381 : decode cL_runsOf 381 = .ok (.if_icmp .ne 70, 3) := by decide +kernel
theorem dL_runsOf_384 : decode cL_runsOf 384 = .ok (.aload_n 0, 1) := by decide +kernel
theorem dL_runsOf_385 : decode cL_runsOf 385 = .ok (.invokevirtual 155, 3) := by decide +kernel
theorem dL_runsOf_388 : decode cL_runsOf 388 = .ok (.iconst 1, 1) := by decide +kernel
theorem dL_runsOf_389 : decode cL_runsOf 389 = .ok (.if_icmp .ne 62, 3) := by decide +kernel
theorem dL_runsOf_392 : decode cL_runsOf 392 = .ok (.aload_n 0, 1) := by decide +kernel
theorem dL_runsOf_393 : decode cL_runsOf 393 = .ok (.iconst 1, 1) := by decide +kernel
theorem dL_runsOf_394 : decode cL_runsOf 394 = .ok (.invokevirtual 99, 3) := by decide +kernel
theorem dL_runsOf_397 : decode cL_runsOf 397 = .ok (.iconst 3, 1) := by decide +kernel
theorem dL_runsOf_398 : decode cL_runsOf 398 = .ok (.if_icmp .ne 53, 3) := by decide +kernel
theorem dL_runsOf_401 : decode cL_runsOf 401 = .ok (.aload_n 0, 1) := by decide +kernel
theorem dL_runsOf_402 : decode cL_runsOf 402 = .ok (.iconst 1, 1) := by decide +kernel
theorem dL_runsOf_403 : decode cL_runsOf 403 = .ok (.iconst 2, 1) := by decide +kernel
theorem dL_runsOf_404 : decode cL_runsOf 404 = .ok (.invokevirtual 102, 3) := by decide +kernel
theorem dL_runsOf_407 : decode cL_runsOf 407 = .ok (.bipush 100, 2) := by decide +kernel
theorem dL_runsOf_409 : decode cL_runsOf 409 = .ok (.if_icmp .ne 42, 3) := by decide +kernel
theorem dL_runsOf_412 : decode cL_runsOf 412 = .ok (.aload_n 0, 1) := by decide +kernel
theorem dL_runsOf_413 : decode cL_runsOf 413 = .ok (.iconst 1, 1) := by decide +kernel
theorem dL_runsOf_414 : decode cL_runsOf 414 = .ok (.iconst 1, 1) := by decide +kernel
theorem dL_runsOf_415 : decode cL_runsOf 415 = .ok (.invokevirtual 105, 3) := by decide +kernel
theorem dL_runsOf_418 : decode cL_runsOf 418 = .ok (.ifCond .eq 33, 3) := by decide +kernel
theorem dL_runsOf_421 : decode cL_runsOf 421 = .ok (.aload_n 0, 1) := by decide +kernel
theorem dL_runsOf_422 : decode cL_runsOf 422 = .ok (.bipush 7, 2) := by decide +kernel
theorem dL_runsOf_424 : decode cL_runsOf 424 = .ok (.invokevirtual 78, 3) := by decide +kernel
theorem dL_runsOf_427 : decode cL_runsOf 427 = .ok (.iconst 2, 1) := by decide +kernel
theorem dL_runsOf_428 : decode cL_runsOf 428 = .ok (.if_icmp .ne 23, 3) := by decide +kernel
theorem dL_runsOf_431 : decode cL_runsOf 431 = .ok (.aload_n 0, 1) := by decide +kernel
theorem dL_runsOf_432 : decode cL_runsOf 432 = .ok (.iconst 3, 1) := by decide +kernel
theorem dL_runsOf_433 : decode cL_runsOf 433 = .ok (.iconst 0, 1) := by decide +kernel
theorem dL_runsOf_434 : decode cL_runsOf 434 = .ok (.iconst 0, 1) := by decide +kernel
theorem dL_runsOf_435 : decode cL_runsOf 435 = .ok (.invokestatic 182, 3) := by decide +kernel
theorem dL_runsOf_438 : decode cL_runsOf 438 = .ok (.sipush (-2013), 3) := by decide +kernel
theorem dL_runsOf_441 : decode cL_runsOf 441 = .ok (.if_icmp .ne 10, 3) := by decide +kernel
theorem dL_runsOf_444 : decode cL_runsOf 444 = .ok (.aload_n 0, 1) := by decide +kernel
theorem dL_runsOf_445 : decode cL_runsOf 445 = .ok (.invokestatic 215, 3) := by decide +kernel
theorem dL_runsOf_448 : decode cL_runsOf 448 = .ok (.ifCond .ne 5, 3) := by decide +kernel
theorem dL_runsOf_451 : decode cL_runsOf 451 = .ok (.iconst 0, 1) := by decide +kernel
theorem dL_runsOf_452 : decode cL_runsOf 452 = .ok (.ireturn, 1) := by decide +kernel
theorem dL_runsOf_453 : decode cL_runsOf 453 = .ok (.aload_n 0, 1) := by decide +kernel
theorem dL_runsOf_454 : decode cL_runsOf 454 = .ok (.invokestatic 201, 3) := by decide +kernel
theorem dL_runsOf_457 : decode cL_runsOf 457 = .ok (.iconst 5, 1) := by decide +kernel
theorem dL_runsOf_458 : decode cL_runsOf 458 = .ok (.if_icmp .ne 30, 3) := by decide +kernel
theorem dL_runsOf_461 : decode cL_runsOf 461 = .ok (.aload_n 0, 1) := by decide +kernel
theorem dL_runsOf_462 : decode cL_runsOf 462 = .ok (.invokevirtual 155, 3) := by decide +kernel
theorem dL_runsOf_465 : decode cL_runsOf 465 = .ok (.iconst 2, 1) := by decide +kernel
theorem dL_runsOf_466 : decode cL_runsOf 466 = .ok (.if_icmp .ne 22, 3) := by decide +kernel
theorem dL_runsOf_469 : decode cL_runsOf 469 = .ok (.aload_n 0, 1) := by decide +kernel
theorem dL_runsOf_470 : decode cL_runsOf 470 = .ok (.invokestatic 201, 3) := by decide +kernel
theorem dL_runsOf_473 : decode cL_runsOf 473 = .ok (.iconst 4, 1) := by decide +kernel
theorem dL_runsOf_474 : decode cL_runsOf 474 = .ok (.if_icmp .ne 14, 3) := by decide +kernel
theorem dL_runsOf_477 : decode cL_runsOf 477 = .ok (.aload_n 0, 1) := by decide +kernel
theorem dL_runsOf_478 : decode cL_runsOf 478 = .ok (.bipush 100, 2) := by decide +kernel
theorem dL_runsOf_480 : decode cL_runsOf 480 = .ok (.invokevirtual 75, 3) := by decide +kernel
theorem dL_runsOf_483 : decode cL_runsOf 483 = .ok (.bipush 8, 2) := by decide +kernel
theorem dL_runsOf_485 : decode cL_runsOf 485 = .ok (.if_icmp .eq 5, 3) := by decide +kernel
theorem dL_runsOf_488 : decode cL_runsOf 488 = .ok (.iconst 0, 1) := by decide +kernel
theorem dL_runsOf_489 : decode cL_runsOf 489 = .ok (.ireturn, 1) := by decide +kernel
theorem dL_runsOf_490 : decode cL_runsOf 490 = .ok (.aload_n 0, 1) := by decide +kernel
theorem dL_runsOf_491 : decode cL_runsOf 491 = .ok (.bipush 11, 2) := by decide +kernel
theorem dL_runsOf_493 : decode cL_runsOf 493 = .ok (.invokevirtual 33, 3) := by decide +kernel
theorem dL_runsOf_496 : decode cL_runsOf 496 = .ok (.iconst 1, 1) := by decide +kernel
theorem dL_runsOf_497 : decode cL_runsOf 497 = .ok (.if_icmp .ne 221, 3) := by decide +kernel
theorem dL_runsOf_500 : decode cL_runsOf 500 = .ok (.aload_n 0, 1) := by decide +kernel
theorem dL_runsOf_501 : decode cL_runsOf 501 = .ok (.invokevirtual 158, 3) := by decide +kernel
theorem dL_runsOf_504 : decode cL_runsOf 504 = .ok (.iconst 2, 1) := by decide +kernel
theorem dL_runsOf_505 : decode cL_runsOf 505 = .ok (.if_icmp .ne 213, 3) := by decide +kernel
theorem dL_runsOf_508 : decode cL_runsOf 508 = .ok (.aload_n 0, 1) := by decide +kernel
theorem dL_runsOf_509 : decode cL_runsOf 509 = .ok (.iconst 0, 1) := by decide +kernel
theorem dL_runsOf_510 : decode cL_runsOf 510 = .ok (.invokevirtual 93, 3) := by decide +kernel
theorem dL_runsOf_513 : decode cL_runsOf 513 = .ok (.bipush 7, 2) := by decide +kernel
theorem dL_runsOf_515 : decode cL_runsOf 515 = .ok (.if_icmp .ne 203, 3) := by decide +kernel
theorem dL_runsOf_518 : decode cL_runsOf 518 = .ok (.aload_n 0, 1) := by decide +kernel
theorem dL_runsOf_519 : decode cL_runsOf 519 = .ok (.iconst 1, 1) := by decide +kernel
theorem dL_runsOf_520 : decode cL_runsOf 520 = .ok (.invokevirtual 93, 3) := by decide +kernel
theorem dL_runsOf_523 : decode cL_runsOf 523 = .ok (.bipush 100, 2) := by decide +kernel
theorem dL_runsOf_525 : decode cL_runsOf 525 = .ok (.if_icmp .ne 193, 3) := by decide +kernel
theorem dL_runsOf_528 : decode cL_runsOf 528 = .ok (.aload_n 0, 1) := by decide +kernel
theorem dL_runsOf_529 : decode cL_runsOf 529 = .ok (.bipush 50, 2) := by decide +kernel
theorem dL_runsOf_531 : decode cL_runsOf 531 = .ok (.invokevirtual 44, 3) := by decide +kernel
theorem dL_runsOf_534 : decode cL_runsOf 534 = .ok (.iconst 1, 1) := by decide +kernel
theorem dL_runsOf_535 : decode cL_runsOf 535 = .ok (.if_icmp .ne 183, 3) := by decide +kernel
theorem dL_runsOf_538 : decode cL_runsOf 538 = .ok (.aload_n 0, 1) := by decide +kernel
theorem dL_runsOf_539 : decode cL_runsOf 539 = .ok (.invokevirtual 143, 3) := by decide +kernel
theorem dL_runsOf_542 : decode cL_runsOf 542 = .ok (.iconst 2, 1) := by decide +kernel
theorem dL_runsOf_543 : decode cL_runsOf 543 = .ok (.if_icmp .ne 175, 3) := by decide +kernel
theorem dL_runsOf_546 : decode cL_runsOf 546 = .ok (.aload_n 0, 1) := by decide +kernel
theorem dL_runsOf_547 : decode cL_runsOf 547 = .ok (.bipush 100, 2) := by decide +kernel
theorem dL_runsOf_549 : decode cL_runsOf 549 = .ok (.invokevirtual 75, 3) := by decide +kernel
theorem dL_runsOf_552 : decode cL_runsOf 552 = .ok (.bipush 8, 2) := by decide +kernel
theorem dL_runsOf_554 : decode cL_runsOf 554 = .ok (.if_icmp .ne 164, 3) := by decide +kernel
theorem dL_runsOf_557 : decode cL_runsOf 557 = .ok (.aload_n 0, 1) := by decide +kernel
theorem dL_runsOf_558 : decode cL_runsOf 558 = .ok (.bipush 7, 2) := by decide +kernel
theorem dL_runsOf_560 : decode cL_runsOf 560 = .ok (.invokevirtual 75, 3) := by decide +kernel
theorem dL_runsOf_563 : decode cL_runsOf 563 = .ok (.iconst 4, 1) := by decide +kernel
theorem dL_runsOf_564 : decode cL_runsOf 564 = .ok (.if_icmp .ne 154, 3) := by decide +kernel
theorem dL_runsOf_567 : decode cL_runsOf 567 = .ok (.aload_n 0, 1) := by decide +kernel
theorem dL_runsOf_568 : decode cL_runsOf 568 = .ok (.invokevirtual 152, 3) := by decide +kernel
theorem dL_runsOf_571 : decode cL_runsOf 571 = .ok (.iconst 2, 1) := by decide +kernel
theorem dL_runsOf_572 : decode cL_runsOf 572 = .ok (.if_icmp .ne 146, 3) := by decide +kernel
theorem dL_runsOf_575 : decode cL_runsOf 575 = .ok (.aload_n 0, 1) := by decide +kernel
theorem dL_runsOf_576 : decode cL_runsOf 576 = .ok (.invokevirtual 234, 3) := by decide +kernel
theorem dL_runsOf_579 : decode cL_runsOf 579 = .ok (.ifCond .ne 139, 3) := by decide +kernel
theorem dL_runsOf_582 : decode cL_runsOf 582 = .ok (.aload_n 0, 1) := by decide +kernel
theorem dL_runsOf_583 : decode cL_runsOf 583 = .ok (.invokevirtual 155, 3) := by decide +kernel
theorem dL_runsOf_586 : decode cL_runsOf 586 = .ok (.ifCond .ne 132, 3) := by decide +kernel
theorem dL_runsOf_589 : decode cL_runsOf 589 = .ok (.aload_n 0, 1) := by decide +kernel
theorem dL_runsOf_590 : decode cL_runsOf 590 = .ok (.invokevirtual 179, 3) := by decide +kernel
theorem dL_runsOf_593 : decode cL_runsOf 593 = .ok (.ifCond .ne 125, 3) := by decide +kernel
theorem dL_runsOf_596 : decode cL_runsOf 596 = .ok (.aload_n 0, 1) := by decide +kernel
theorem dL_runsOf_597 : decode cL_runsOf 597 = .ok (.bipush 7, 2) := by decide +kernel
theorem dL_runsOf_599 : decode cL_runsOf 599 = .ok (.invokevirtual 33, 3) := by decide +kernel
theorem dL_runsOf_602 : decode cL_runsOf 602 = .ok (.iconst 1, 1) := by decide +kernel
theorem dL_runsOf_603 : decode cL_runsOf 603 = .ok (.if_icmp .ne 115, 3) := by decide +kernel
theorem dL_runsOf_606 : decode cL_runsOf 606 = .ok (.aload_n 0, 1) := by decide +kernel
theorem dL_runsOf_607 : decode cL_runsOf 607 = .ok (.bipush 100, 2) := by decide +kernel
theorem dL_runsOf_609 : decode cL_runsOf 609 = .ok (.invokevirtual 33, 3) := by decide +kernel
theorem dL_runsOf_612 : decode cL_runsOf 612 = .ok (.iconst 2, 1) := by decide +kernel
theorem dL_runsOf_613 : decode cL_runsOf 613 = .ok (.if_icmp .ne 105, 3) := by decide +kernel
theorem dL_runsOf_616 : decode cL_runsOf 616 = .ok (.aload_n 0, 1) := by decide +kernel
theorem dL_runsOf_617 : decode cL_runsOf 617 = .ok (.bipush 100, 2) := by decide +kernel
theorem dL_runsOf_619 : decode cL_runsOf 619 = .ok (.invokevirtual 44, 3) := by decide +kernel
theorem dL_runsOf_622 : decode cL_runsOf 622 = .ok (.ifCond .ne 96, 3) := by decide +kernel
theorem dL_runsOf_625 : decode cL_runsOf 625 = .ok (.aload_n 0, 1) := by decide +kernel
theorem dL_runsOf_626 : decode cL_runsOf 626 = .ok (.invokevirtual 143, 3) := by decide +kernel
theorem dL_runsOf_629 : decode cL_runsOf 629 = .ok (.ifCond .ne 89, 3) := by decide +kernel
theorem dL_runsOf_632 : decode cL_runsOf 632 = .ok (.aload_n 0, 1) := by decide +kernel
theorem dL_runsOf_633 : decode cL_runsOf 633 = .ok (.invokevirtual 179, 3) := by decide +kernel
theorem dL_runsOf_636 : decode cL_runsOf 636 = .ok (.ifCond .ne 82, 3) := by decide +kernel
theorem dL_runsOf_639 : decode cL_runsOf 639 = .ok (.aload_n 0, 1) := by decide +kernel
theorem dL_runsOf_640 : decode cL_runsOf 640 = .ok (.invokevirtual 149, 3) := by decide +kernel
theorem dL_runsOf_643 : decode cL_runsOf 643 = .ok (.iconst 2, 1) := by decide +kernel
theorem dL_runsOf_644 : decode cL_runsOf 644 = .ok (.if_icmp .ne 74, 3) := by decide +kernel
theorem dL_runsOf_647 : decode cL_runsOf 647 = .ok (.aload_n 0, 1) := by decide +kernel
theorem dL_runsOf_648 : decode cL_runsOf 648 = .ok (.iconst 2, 1) := by decide +kernel
theorem dL_runsOf_649 : decode cL_runsOf 649 = .ok (.invokevirtual 53, 3) := by decide +kernel
theorem dL_runsOf_652 : decode cL_runsOf 652 = .ok (.iconst 4, 1) := by decide +kernel
theorem dL_runsOf_653 : decode cL_runsOf 653 = .ok (.if_icmp .ne 65, 3) := by decide +kernel
theorem dL_runsOf_656 : decode cL_runsOf 656 = .ok (.aload_n 0, 1) := by decide +kernel
theorem dL_runsOf_657 : decode cL_runsOf 657 = .ok (.iconst 1, 1) := by decide +kernel
theorem dL_runsOf_658 : decode cL_runsOf 658 = .ok (.iconst 1, 1) := by decide +kernel
theorem dL_runsOf_659 : decode cL_runsOf 659 = .ok (.invokevirtual 47, 3) := by decide +kernel
theorem dL_runsOf_662 : decode cL_runsOf 662 = .ok (.iconst 3, 1) := by decide +kernel
theorem dL_runsOf_663 : decode cL_runsOf 663 = .ok (.if_icmp .ne 55, 3) := by decide +kernel
theorem dL_runsOf_666 : decode cL_runsOf 666 = .ok (.aload_n 0, 1) := by decide +kernel
theorem dL_runsOf_667 : decode cL_runsOf 667 = .ok (.iconst 2, 1) := by decide +kernel
theorem dL_runsOf_668 : decode cL_runsOf 668 = .ok (.iconst 2, 1) := by decide +kernel
theorem dL_runsOf_669 : decode cL_runsOf 669 = .ok (.invokevirtual 47, 3) := by decide +kernel
theorem dL_runsOf_672 : decode cL_runsOf 672 = .ok (.iconst 1, 1) := by decide +kernel
theorem dL_runsOf_673 : decode cL_runsOf 673 = .ok (.if_icmp .ne 45, 3) := by decide +kernel
theorem dL_runsOf_676 : decode cL_runsOf 676 = .ok (.aload_n 0, 1) := by decide +kernel
theorem dL_runsOf_677 : decode cL_runsOf 677 = .ok (.iconst 3, 1) := by decide +kernel
theorem dL_runsOf_678 : decode cL_runsOf 678 = .ok (.iconst 3, 1) := by decide +kernel
theorem dL_runsOf_679 : decode cL_runsOf 679 = .ok (.invokevirtual 47, 3) := by decide +kernel
theorem dL_runsOf_682 : decode cL_runsOf 682 = .ok (.iconst 1, 1) := by decide +kernel
theorem dL_runsOf_683 : decode cL_runsOf 683 = .ok (.if_icmp .ne 35, 3) := by decide +kernel
theorem dL_runsOf_686 : decode cL_runsOf 686 = .ok (.aload_n 0, 1) := by decide +kernel
theorem dL_runsOf_687 : decode cL_runsOf 687 = .ok (.iconst 4, 1) := by decide +kernel
theorem dL_runsOf_688 : decode cL_runsOf 688 = .ok (.iconst 4, 1) := by decide +kernel
theorem dL_runsOf_689 : decode cL_runsOf 689 = .ok (.invokevirtual 47, 3) := by decide +kernel
theorem dL_runsOf_692 : decode cL_runsOf 692 = .ok (.iconst 1, 1) := by decide +kernel
theorem dL_runsOf_693 : decode cL_runsOf 693 = .ok (.if_icmp .ne 25, 3) := by decide +kernel
theorem dL_runsOf_696 : decode cL_runsOf 696 = .ok (.aload_n 0, 1) := by decide +kernel
theorem dL_runsOf_697 : decode cL_runsOf 697 = .ok (.iconst 5, 1) := by decide +kernel
theorem dL_runsOf_698 : decode cL_runsOf 698 = .ok (.iconst 5, 1) := by decide +kernel
theorem dL_runsOf_699 : decode cL_runsOf 699 = .ok (.invokevirtual 47, 3) := by decide +kernel
theorem dL_runsOf_702 : decode cL_runsOf 702 = .ok (.iconst 3, 1) := by decide +kernel
theorem dL_runsOf_703 : decode cL_runsOf 703 = .ok (.if_icmp .ne 15, 3) := by decide +kernel
theorem dL_runsOf_706 : decode cL_runsOf 706 = .ok (.aload_n 0, 1) := by decide +kernel
theorem dL_runsOf_707 : decode cL_runsOf 707 = .ok (.invokevirtual 146, 3) := by decide +kernel
theorem dL_runsOf_710 : decode cL_runsOf 710 = .ok (.iconst 2, 1) := by decide +kernel
theorem dL_runsOf_711 : decode cL_runsOf 711 = .ok (.if_icmp .ne 7, 3) := by decide +kernel
theorem dL_runsOf_714 : decode cL_runsOf 714 = .ok (.iconst 1, 1) := by decide +kernel
theorem dL_runsOf_715 : decode cL_runsOf 715 = .ok (.goto 4, 3) := by decide +kernel
theorem dL_runsOf_718 : decode cL_runsOf 718 = .ok (.iconst 0, 1) := by decide +kernel
theorem dL_runsOf_719 : decode cL_runsOf 719 = .ok (.ireturn, 1) := by decide +kernel
theorem dL_limits_0 : decode cL_limits 0 = .ok (.new 28, 3) := by decide +kernel
theorem dL_limits_3 : decode cL_limits 3 = .ok (.dup, 1) := by decide +kernel
theorem dL_limits_4 : decode cL_limits 4 = .ok (.invokespecial 200, 3) := by decide +kernel
theorem dL_limits_7 : decode cL_limits 7 = .ok (.astore_n 0, 1) := by decide +kernel
theorem dL_limits_8 : decode cL_limits 8 = .ok (.iconst 0, 1) := by decide +kernel
theorem dL_limits_9 : decode cL_limits 9 = .ok (.istore_n 1, 1) := by decide +kernel
theorem dL_limits_10 : decode cL_limits 10 = .ok (.iload_n 1, 1) := by decide +kernel
theorem dL_limits_11 : decode cL_limits 11 = .ok (.bipush 6, 2) := by decide +kernel
theorem dL_limits_13 : decode cL_limits 13 = .ok (.if_icmp .ge 112, 3) := by decide +kernel
theorem dL_limits_16 : decode cL_limits 16 = .ok (.iconst 0, 1) := by decide +kernel
theorem dL_limits_17 : decode cL_limits 17 = .ok (.istore_n 2, 1) := by decide +kernel
theorem dL_limits_18 : decode cL_limits 18 = .ok (.iload_n 2, 1) := by decide +kernel
theorem dL_limits_19 : decode cL_limits 19 = .ok (.bipush 12, 2) := by decide +kernel
theorem dL_limits_21 : decode cL_limits 21 = .ok (.if_icmp .ge 28, 3) := by decide +kernel
theorem dL_limits_24 : decode cL_limits 24 = .ok (.aload_n 0, 1) := by decide +kernel
theorem dL_limits_25 : decode cL_limits 25 = .ok (.bipush 12, 2) := by decide +kernel
theorem dL_limits_27 : decode cL_limits 27 = .ok (.iload_n 1, 1) := by decide +kernel
theorem dL_limits_28 : decode cL_limits 28 = .ok (.imul, 1) := by decide +kernel
theorem dL_limits_29 : decode cL_limits 29 = .ok (.iload_n 2, 1) := by decide +kernel
theorem dL_limits_30 : decode cL_limits 30 = .ok (.iadd, 1) := by decide +kernel
theorem dL_limits_31 : decode cL_limits 31 = .ok (.iload_n 1, 1) := by decide +kernel
theorem dL_limits_32 : decode cL_limits 32 = .ok (.invokevirtual 27, 3) := by decide +kernel
theorem dL_limits_35 : decode cL_limits 35 = .ok (.iload_n 2, 1) := by decide +kernel
theorem dL_limits_36 : decode cL_limits 36 = .ok (.iconst 1, 1) := by decide +kernel
theorem dL_limits_37 : decode cL_limits 37 = .ok (.iadd, 1) := by decide +kernel
theorem dL_limits_38 : decode cL_limits 38 = .ok (.if_icmp .eq 5, 3) := by decide +kernel
theorem dL_limits_41 : decode cL_limits 41 = .ok (.iconst 0, 1) := by decide +kernel
theorem dL_limits_42 : decode cL_limits 42 = .ok (.ireturn, 1) := by decide +kernel
theorem dL_limits_43 : decode cL_limits 43 = .ok (.iinc 2 1, 3) := by decide +kernel
theorem dL_limits_46 : decode cL_limits 46 = .ok (.goto (-28), 3) := by decide +kernel
theorem dL_limits_49 : decode cL_limits 49 = .ok (.aload_n 0, 1) := by decide +kernel
theorem dL_limits_50 : decode cL_limits 50 = .ok (.iconst 0, 1) := by decide +kernel
theorem dL_limits_51 : decode cL_limits 51 = .ok (.sipush 999, 3) := by decide +kernel
theorem dL_limits_54 : decode cL_limits 54 = .ok (.iconst 1, 1) := by decide +kernel
theorem dL_limits_55 : decode cL_limits 55 = .ok (.invokestatic 182, 3) := by decide +kernel
theorem dL_limits_58 : decode cL_limits 58 = .ok (.sipush (-2013), 3) := by decide +kernel
theorem dL_limits_61 : decode cL_limits 61 = .ok (.if_icmp .ne 56, 3) := by decide +kernel
theorem dL_limits_64 : decode cL_limits 64 = .ok (.aload_n 0, 1) := by decide +kernel
theorem dL_limits_65 : decode cL_limits 65 = .ok (.iconst 1, 1) := by decide +kernel
theorem dL_limits_66 : decode cL_limits 66 = .ok (.sipush 999, 3) := by decide +kernel
theorem dL_limits_69 : decode cL_limits 69 = .ok (.iconst 1, 1) := by decide +kernel
theorem dL_limits_70 : decode cL_limits 70 = .ok (.invokestatic 182, 3) := by decide +kernel
theorem dL_limits_73 : decode cL_limits 73 = .ok (.sipush (-2013), 3) := by decide +kernel
theorem dL_limits_76 : decode cL_limits 76 = .ok (.if_icmp .ne 41, 3) := by decide +kernel
theorem dL_limits_79 : decode cL_limits 79 = .ok (.aload_n 0, 1) := by decide +kernel
theorem dL_limits_80 : decode cL_limits 80 = .ok (.bipush 12, 2) := by decide +kernel
theorem dL_limits_82 : decode cL_limits 82 = .ok (.iload_n 1, 1) := by decide +kernel
theorem dL_limits_83 : decode cL_limits 83 = .ok (.imul, 1) := by decide +kernel
theorem dL_limits_84 : decode cL_limits 84 = .ok (.invokevirtual 33, 3) := by decide +kernel
theorem dL_limits_87 : decode cL_limits 87 = .ok (.bipush 12, 2) := by decide +kernel
theorem dL_limits_89 : decode cL_limits 89 = .ok (.if_icmp .ne 28, 3) := by decide +kernel
theorem dL_limits_92 : decode cL_limits 92 = .ok (.aload_n 0, 1) := by decide +kernel
theorem dL_limits_93 : decode cL_limits 93 = .ok (.bipush 12, 2) := by decide +kernel
theorem dL_limits_95 : decode cL_limits 95 = .ok (.iload_n 1, 1) := by decide +kernel
theorem dL_limits_96 : decode cL_limits 96 = .ok (.imul, 1) := by decide +kernel
theorem dL_limits_97 : decode cL_limits 97 = .ok (.bipush 9, 2) := by decide +kernel
theorem dL_limits_99 : decode cL_limits 99 = .ok (.invokevirtual 27, 3) := by decide +kernel
theorem dL_limits_102 : decode cL_limits 102 = .ok (.bipush 12, 2) := by decide +kernel
theorem dL_limits_104 : decode cL_limits 104 = .ok (.if_icmp .ne 13, 3) := by decide +kernel
theorem dL_limits_107 : decode cL_limits 107 = .ok (.aload_n 0, 1) := by decide +kernel
theorem dL_limits_108 : decode cL_limits 108 = .ok (.invokevirtual 37, 3) := by decide +kernel
theorem dL_limits_111 : decode cL_limits 111 = .ok (.iload_n 1, 1) := by decide +kernel
theorem dL_limits_112 : decode cL_limits 112 = .ok (.iconst 1, 1) := by decide +kernel
theorem dL_limits_113 : decode cL_limits 113 = .ok (.iadd, 1) := by decide +kernel
theorem dL_limits_114 : decode cL_limits 114 = .ok (.if_icmp .eq 5, 3) := by decide +kernel
theorem dL_limits_117 : decode cL_limits 117 = .ok (.iconst 0, 1) := by decide +kernel
theorem dL_limits_118 : decode cL_limits 118 = .ok (.ireturn, 1) := by decide +kernel
theorem dL_limits_119 : decode cL_limits 119 = .ok (.iinc 1 1, 3) := by decide +kernel
theorem dL_limits_122 : decode cL_limits 122 = .ok (.goto (-112), 3) := by decide +kernel
theorem dL_limits_125 : decode cL_limits 125 = .ok (.aload_n 0, 1) := by decide +kernel
theorem dL_limits_126 : decode cL_limits 126 = .ok (.sipush 9999, 3) := by decide +kernel
theorem dL_limits_129 : decode cL_limits 129 = .ok (.bipush 99, 2) := by decide +kernel
theorem dL_limits_131 : decode cL_limits 131 = .ok (.invokevirtual 27, 3) := by decide +kernel
theorem dL_limits_134 : decode cL_limits 134 = .ok (.iconst 1, 1) := by decide +kernel
theorem dL_limits_135 : decode cL_limits 135 = .ok (.if_icmp .ne 140, 3) := by decide +kernel
theorem dL_limits_138 : decode cL_limits 138 = .ok (.aload_n 0, 1) := by decide +kernel
theorem dL_limits_139 : decode cL_limits 139 = .ok (.iconst 2, 1) := by decide +kernel
theorem dL_limits_140 : decode cL_limits 140 = .ok (.iconst 0, 1) := by decide +kernel
theorem dL_limits_141 : decode cL_limits 141 = .ok (.iconst 0, 1) := by decide +kernel
theorem dL_limits_142 : decode cL_limits 142 = .ok (.invokestatic 182, 3) := by decide +kernel
theorem dL_limits_145 : decode cL_limits 145 = .ok (.sipush (-2013), 3) := by decide +kernel
theorem dL_limits_148 : decode cL_limits 148 = .ok (.if_icmp .ne 127, 3) := by decide +kernel
theorem dL_limits_151 : decode cL_limits 151 = .ok (.aload_n 0, 1) := by decide +kernel
theorem dL_limits_152 : decode cL_limits 152 = .ok (.invokevirtual 41, 3) := by decide +kernel
theorem dL_limits_155 : decode cL_limits 155 = .ok (.bipush 24, 2) := by decide +kernel
theorem dL_limits_157 : decode cL_limits 157 = .ok (.if_icmp .ne 118, 3) := by decide +kernel
theorem dL_limits_160 : decode cL_limits 160 = .ok (.aload_n 0, 1) := by decide +kernel
theorem dL_limits_161 : decode cL_limits 161 = .ok (.invokevirtual 41, 3) := by decide +kernel
theorem dL_limits_164 : decode cL_limits 164 = .ok (.bipush 36, 2) := by decide +kernel
theorem dL_limits_166 : decode cL_limits 166 = .ok (.if_icmp .ne 109, 3) := by decide +kernel
theorem dL_limits_169 : decode cL_limits 169 = .ok (.aload_n 0, 1) := by decide +kernel
theorem dL_limits_170 : decode cL_limits 170 = .ok (.invokevirtual 41, 3) := by decide +kernel
theorem dL_limits_173 : decode cL_limits 173 = .ok (.bipush 48, 2) := by decide +kernel
theorem dL_limits_175 : decode cL_limits 175 = .ok (.if_icmp .ne 100, 3) := by decide +kernel
theorem dL_limits_178 : decode cL_limits 178 = .ok (.aload_n 0, 1) := by decide +kernel
theorem dL_limits_179 : decode cL_limits 179 = .ok (.invokevirtual 41, 3) := by decide +kernel
theorem dL_limits_182 : decode cL_limits 182 = .ok (.bipush 60, 2) := by decide +kernel
theorem dL_limits_184 : decode cL_limits 184 = .ok (.if_icmp .ne 91, 3) := by decide +kernel
theorem dL_limits_187 : decode cL_limits 187 = .ok (.aload_n 0, 1) := by decide +kernel
theorem dL_limits_188 : decode cL_limits 188 = .ok (.iconst 3, 1) := by decide +kernel
theorem dL_limits_189 : decode cL_limits 189 = .ok (.iconst 0, 1) := by decide +kernel
theorem dL_limits_190 : decode cL_limits 190 = .ok (.iconst 0, 1) := by decide +kernel
theorem dL_limits_191 : decode cL_limits 191 = .ok (.invokestatic 182, 3) := by decide +kernel
theorem dL_limits_194 : decode cL_limits 194 = .ok (.sipush (-2013), 3) := by decide +kernel
theorem dL_limits_197 : decode cL_limits 197 = .ok (.if_icmp .ne 78, 3) := by decide +kernel
theorem dL_limits_200 : decode cL_limits 200 = .ok (.aload_n 0, 1) := by decide +kernel
theorem dL_limits_201 : decode cL_limits 201 = .ok (.invokevirtual 155, 3) := by decide +kernel
theorem dL_limits_204 : decode cL_limits 204 = .ok (.iconst 2, 1) := by decide +kernel
theorem dL_limits_205 : decode cL_limits 205 = .ok (.if_icmp .ne 70, 3) := by decide +kernel
theorem dL_limits_208 : decode cL_limits 208 = .ok (.aload_n 0, 1) := by decide +kernel
theorem dL_limits_209 : decode cL_limits 209 = .ok (.invokevirtual 158, 3) := by decide +kernel
theorem dL_limits_212 : decode cL_limits 212 = .ok (.bipush 73, 2) := by decide +kernel
theorem dL_limits_214 : decode cL_limits 214 = .ok (.if_icmp .ne 61, 3) := by decide +kernel
theorem dL_limits_217 : decode cL_limits 217 = .ok (.aload_n 0, 1) := by decide +kernel
theorem dL_limits_218 : decode cL_limits 218 = .ok (.bipush 72, 2) := by decide +kernel
theorem dL_limits_220 : decode cL_limits 220 = .ok (.invokevirtual 93, 3) := by decide +kernel
theorem dL_limits_223 : decode cL_limits 223 = .ok (.sipush 9999, 3) := by decide +kernel
theorem dL_limits_226 : decode cL_limits 226 = .ok (.if_icmp .ne 49, 3) := by decide +kernel
theorem dL_limits_229 : decode cL_limits 229 = .ok (.aload_n 0, 1) := by decide +kernel
theorem dL_limits_230 : decode cL_limits 230 = .ok (.iconst 0, 1) := by decide +kernel
theorem dL_limits_231 : decode cL_limits 231 = .ok (.invokevirtual 78, 3) := by decide +kernel
theorem dL_limits_234 : decode cL_limits 234 = .ok (.iconst 3, 1) := by decide +kernel
theorem dL_limits_235 : decode cL_limits 235 = .ok (.if_icmp .ne 40, 3) := by decide +kernel
theorem dL_limits_238 : decode cL_limits 238 = .ok (.aload_n 0, 1) := by decide +kernel
theorem dL_limits_239 : decode cL_limits 239 = .ok (.bipush 100, 2) := by decide +kernel
theorem dL_limits_241 : decode cL_limits 241 = .ok (.invokevirtual 44, 3) := by decide +kernel
theorem dL_limits_244 : decode cL_limits 244 = .ok (.bipush 19, 2) := by decide +kernel
theorem dL_limits_246 : decode cL_limits 246 = .ok (.if_icmp .ne 29, 3) := by decide +kernel
theorem dL_limits_249 : decode cL_limits 249 = .ok (.aload_n 0, 1) := by decide +kernel
theorem dL_limits_250 : decode cL_limits 250 = .ok (.invokevirtual 179, 3) := by decide +kernel
theorem dL_limits_253 : decode cL_limits 253 = .ok (.iconst 3, 1) := by decide +kernel
theorem dL_limits_254 : decode cL_limits 254 = .ok (.if_icmp .ne 21, 3) := by decide +kernel
theorem dL_limits_257 : decode cL_limits 257 = .ok (.aload_n 0, 1) := by decide +kernel
theorem dL_limits_258 : decode cL_limits 258 = .ok (.invokevirtual 212, 3) := by decide +kernel
theorem dL_limits_261 : decode cL_limits 261 = .ok (.iconst 4, 1) := by decide +kernel
theorem dL_limits_262 : decode cL_limits 262 = .ok (.if_icmp .ne 13, 3) := by decide +kernel
theorem dL_limits_265 : decode cL_limits 265 = .ok (.aload_n 0, 1) := by decide +kernel
theorem dL_limits_266 : decode cL_limits 266 = .ok (.bipush 8, 2) := by decide +kernel
theorem dL_limits_268 : decode cL_limits 268 = .ok (.invokevirtual 53, 3) := by decide +kernel
theorem dL_limits_271 : decode cL_limits 271 = .ok (.iconst 4, 1) := by decide +kernel
theorem dL_limits_272 : decode cL_limits 272 = .ok (.if_icmp .eq 5, 3) := by decide +kernel
theorem dL_limits_275 : decode cL_limits 275 = .ok (.iconst 0, 1) := by decide +kernel
theorem dL_limits_276 : decode cL_limits 276 = .ok (.ireturn, 1) := by decide +kernel
theorem dL_limits_277 : decode cL_limits 277 = .ok (.iconst 0, 1) := by decide +kernel
theorem dL_limits_278 : decode cL_limits 278 = .ok (.istore_n 1, 1) := by decide +kernel
theorem dL_limits_279 : decode cL_limits 279 = .ok (.iload_n 1, 1) := by decide +kernel
theorem dL_limits_280 : decode cL_limits 280 = .ok (.bipush 87, 2) := by decide +kernel
theorem dL_limits_282 : decode cL_limits 282 = .ok (.if_icmp .ge 35, 3) := by decide +kernel
theorem dL_limits_285 : decode cL_limits 285 = .ok (.aload_n 0, 1) := by decide +kernel
theorem dL_limits_286 : decode cL_limits 286 = .ok (.bipush 100, 2) := by decide +kernel
theorem dL_limits_288 : decode cL_limits 288 = .ok (.iload_n 1, 1) := by decide +kernel
theorem dL_limits_289 : decode cL_limits 289 = .ok (.iadd, 1) := by decide +kernel
theorem dL_limits_290 : decode cL_limits 290 = .ok (.iload_n 1, 1) := by decide +kernel
theorem dL_limits_291 : decode cL_limits 291 = .ok (.invokevirtual 47, 3) := by decide +kernel
theorem dL_limits_294 : decode cL_limits 294 = .ok (.iconst 2, 1) := by decide +kernel
theorem dL_limits_295 : decode cL_limits 295 = .ok (.if_icmp .ne 14, 3) := by decide +kernel
theorem dL_limits_298 : decode cL_limits 298 = .ok (.aload_n 0, 1) := by decide +kernel
theorem dL_limits_299 : decode cL_limits 299 = .ok (.invokevirtual 143, 3) := by decide +kernel
theorem dL_limits_302 : decode cL_limits 302 = .ok (.bipush 74, 2) := by decide +kernel
theorem dL_limits_304 : decode cL_limits 304 = .ok (.iload_n 1, 1) := by decide +kernel
theorem dL_limits_305 : decode cL_limits 305 = .ok (.iadd, 1) := by decide +kernel
theorem dL_limits_306 : decode cL_limits 306 = .ok (.if_icmp .eq 5, 3) := by decide +kernel
theorem dL_limits_309 : decode cL_limits 309 = .ok (.iconst 0, 1) := by decide +kernel
theorem dL_limits_310 : decode cL_limits 310 = .ok (.ireturn, 1) := by decide +kernel
theorem dL_limits_311 : decode cL_limits 311 = .ok (.iinc 1 1, 3) := by decide +kernel
theorem dL_limits_314 : decode cL_limits 314 = .ok (.goto (-35), 3) := by decide +kernel
theorem dL_limits_317 : decode cL_limits 317 = .ok (.aload_n 0, 1) := by decide +kernel
theorem dL_limits_318 : decode cL_limits 318 = .ok (.invokevirtual 143, 3) := by decide +kernel
theorem dL_limits_321 : decode cL_limits 321 = .ok (.sipush 160, 3) := by decide +kernel
theorem dL_limits_324 : decode cL_limits 324 = .ok (.if_icmp .ne 115, 3) := by decide +kernel
theorem dL_limits_327 : decode cL_limits 327 = .ok (.aload_n 0, 1) := by decide +kernel
theorem dL_limits_328 : decode cL_limits 328 = .ok (.iconst 5, 1) := by decide +kernel
theorem dL_limits_329 : decode cL_limits 329 = .ok (.sipush 5000, 3) := by decide +kernel
theorem dL_limits_332 : decode cL_limits 332 = .ok (.iconst 1, 1) := by decide +kernel
theorem dL_limits_333 : decode cL_limits 333 = .ok (.invokestatic 182, 3) := by decide +kernel
theorem dL_limits_336 : decode cL_limits 336 = .ok (.sipush (-2013), 3) := by decide +kernel
theorem dL_limits_339 : decode cL_limits 339 = .ok (.if_icmp .ne 100, 3) := by decide +kernel
theorem dL_limits_342 : decode cL_limits 342 = .ok (.aload_n 0, 1) := by decide +kernel
theorem dL_limits_343 : decode cL_limits 343 = .ok (.bipush 100, 2) := by decide +kernel
theorem dL_limits_345 : decode cL_limits 345 = .ok (.iconst 5, 1) := by decide +kernel
theorem dL_limits_346 : decode cL_limits 346 = .ok (.invokevirtual 47, 3) := by decide +kernel
theorem dL_limits_349 : decode cL_limits 349 = .ok (.ifCond .ne 90, 3) := by decide +kernel
theorem dL_limits_352 : decode cL_limits 352 = .ok (.aload_n 0, 1) := by decide +kernel
theorem dL_limits_353 : decode cL_limits 353 = .ok (.sipush 5000, 3) := by decide +kernel
theorem dL_limits_356 : decode cL_limits 356 = .ok (.iconst 1, 1) := by decide +kernel
theorem dL_limits_357 : decode cL_limits 357 = .ok (.invokevirtual 27, 3) := by decide +kernel
theorem dL_limits_360 : decode cL_limits 360 = .ok (.iconst 1, 1) := by decide +kernel
theorem dL_limits_361 : decode cL_limits 361 = .ok (.if_icmp .ne 78, 3) := by decide +kernel
theorem dL_limits_364 : decode cL_limits 364 = .ok (.aload_n 0, 1) := by decide +kernel
theorem dL_limits_365 : decode cL_limits 365 = .ok (.iconst 4, 1) := by decide +kernel
theorem dL_limits_366 : decode cL_limits 366 = .ok (.bipush 100, 2) := by decide +kernel
theorem dL_limits_368 : decode cL_limits 368 = .ok (.iconst 0, 1) := by decide +kernel
theorem dL_limits_369 : decode cL_limits 369 = .ok (.invokestatic 182, 3) := by decide +kernel
theorem dL_limits_372 : decode cL_limits 372 = .ok (.sipush (-2013), 3) := by decide +kernel
theorem dL_limits_375 : decode cL_limits 375 = .ok (.if_icmp .ne 64, 3) := by decide +kernel
theorem dL_limits_378 : decode cL_limits 378 = .ok (.aload_n 0, 1) := by decide +kernel
theorem dL_limits_379 : decode cL_limits 379 = .ok (.bipush 100, 2) := by decide +kernel
theorem dL_limits_381 : decode cL_limits 381 = .ok (.invokevirtual 133, 3) := by decide +kernel
theorem dL_limits_384 : decode cL_limits 384 = .ok (.bipush 21, 2) := by decide +kernel
theorem dL_limits_386 : decode cL_limits 386 = .ok (.if_icmp .ne 53, 3) := by decide +kernel
theorem dL_limits_389 : decode cL_limits 389 = .ok (.aload_n 0, 1) := by decide +kernel
theorem dL_limits_390 : decode cL_limits 390 = .ok (.bipush 100, 2) := by decide +kernel
theorem dL_limits_392 : decode cL_limits 392 = .ok (.invokevirtual 33, 3) := by decide +kernel
theorem dL_limits_395 : decode cL_limits 395 = .ok (.iconst 2, 1) := by decide +kernel
theorem dL_limits_396 : decode cL_limits 396 = .ok (.if_icmp .ne 43, 3) := by decide +kernel
theorem dL_limits_399 : decode cL_limits 399 = .ok (.aload_n 0, 1) := by decide +kernel
theorem dL_limits_400 : decode cL_limits 400 = .ok (.bipush 100, 2) := by decide +kernel
theorem dL_limits_402 : decode cL_limits 402 = .ok (.invokevirtual 44, 3) := by decide +kernel
theorem dL_limits_405 : decode cL_limits 405 = .ok (.bipush 20, 2) := by decide +kernel
theorem dL_limits_407 : decode cL_limits 407 = .ok (.if_icmp .ne 32, 3) := by decide +kernel
theorem dL_limits_410 : decode cL_limits 410 = .ok (.aload_n 0, 1) := by decide +kernel
theorem dL_limits_411 : decode cL_limits 411 = .ok (.invokevirtual 179, 3) := by decide +kernel
theorem dL_limits_414 : decode cL_limits 414 = .ok (.iconst 3, 1) := by decide +kernel
theorem dL_limits_415 : decode cL_limits 415 = .ok (.if_icmp .ne 24, 3) := by decide +kernel
theorem dL_limits_418 : decode cL_limits 418 = .ok (.aload_n 0, 1) := by decide +kernel
theorem dL_limits_419 : decode cL_limits 419 = .ok (.bipush 6, 2) := by decide +kernel
theorem dL_limits_421 : decode cL_limits 421 = .ok (.invokevirtual 56, 3) := by decide +kernel
theorem dL_limits_424 : decode cL_limits 424 = .ok (.iconst 3, 1) := by decide +kernel
theorem dL_limits_425 : decode cL_limits 425 = .ok (.if_icmp .ne 14, 3) := by decide +kernel
theorem dL_limits_428 : decode cL_limits 428 = .ok (.aload_n 0, 1) := by decide +kernel
theorem dL_limits_429 : decode cL_limits 429 = .ok (.invokestatic 215, 3) := by decide +kernel
theorem dL_limits_432 : decode cL_limits 432 = .ok (.ifCond .eq 7, 3) := by decide +kernel
theorem dL_limits_435 : decode cL_limits 435 = .ok (.iconst 1, 1) := by decide +kernel
theorem dL_limits_436 : decode cL_limits 436 = .ok (.goto 4, 3) := by decide +kernel
theorem dL_limits_439 : decode cL_limits 439 = .ok (.iconst 0, 1) := by decide +kernel
theorem dL_limits_440 : decode cL_limits 440 = .ok (.ireturn, 1) := by decide +kernel
theorem dL_types_0 : decode cL_types 0 = .ok (.iconst 1, 1) := by decide +kernel
theorem dL_types_1 : decode cL_types 1 = .ok (.istore_n 3, 1) := by decide +kernel
theorem dL_types_2 : decode cL_types 2 = .ok (.bipush 56, 2) := by decide +kernel
theorem dL_types_4 : decode cL_types 4 = .ok (.istore 4, 2) := by decide +kernel
theorem dL_types_6 : decode cL_types 6 = .ok (.iload 4, 2) := by decide +kernel
theorem dL_types_8 : decode cL_types 8 = .ok (.ifCond .lt 44, 3) := by decide +kernel
theorem dL_types_11 : decode cL_types 11 = .ok (.lload_n 1, 1) := by decide +kernel
theorem dL_types_12 : decode cL_types 12 = .ok (.iload 4, 2) := by decide +kernel
theorem dL_types_14 : decode cL_types 14 = .ok (.lshr, 1) := by decide +kernel
theorem dL_types_15 : decode cL_types 15 = .ok (.ldc2_w 237, 3) := by decide +kernel
theorem dL_types_18 : decode cL_types 18 = .ok (.land, 1) := by decide +kernel
theorem dL_types_19 : decode cL_types 19 = .ok (.l2i, 1) := by decide +kernel
theorem dL_types_20 : decode cL_types 20 = .ok (.istore 5, 2) := by decide +kernel
theorem dL_types_22 : decode cL_types 22 = .ok (.iload_n 3, 1) := by decide +kernel
theorem dL_types_23 : decode cL_types 23 = .ok (.ifCond .eq 21, 3) := by decide +kernel
theorem dL_types_26 : decode cL_types 26 = .ok (.iload 5, 2) := by decide +kernel
theorem dL_types_28 : decode cL_types 28 = .ok (.ifCond .eq 12, 3) := by decide +kernel
theorem dL_types_31 : decode cL_types 31 = .ok (.aload_n 0, 1) := by decide +kernel
theorem dL_types_32 : decode cL_types 32 = .ok (.iload 5, 2) := by decide +kernel
theorem dL_types_34 : decode cL_types 34 = .ok (.invokevirtual 59, 3) := by decide +kernel
theorem dL_types_37 : decode cL_types 37 = .ok (.ifCond .le 7, 3) := by decide +kernel
theorem dL_types_40 : decode cL_types 40 = .ok (.iconst 1, 1) := by decide +kernel
theorem dL_types_41 : decode cL_types 41 = .ok (.goto 4, 3) := by decide +kernel
theorem dL_types_44 : decode cL_types 44 = .ok (.iconst 0, 1) := by decide +kernel
theorem dL_types_45 : decode cL_types 45 = .ok (.istore_n 3, 1) := by decide +kernel
theorem dL_types_46 : decode cL_types 46 = .ok (.iinc 4 (-8), 3) := by decide +kernel
theorem dL_types_49 : decode cL_types 49 = .ok (.goto (-43), 3) := by decide +kernel
theorem dL_types_52 : decode cL_types 52 = .ok (.iload_n 3, 1) := by decide +kernel
theorem dL_types_53 : decode cL_types 53 = .ok (.ireturn, 1) := by decide +kernel
theorem dL_isError_0 : decode cL_isError 0 = .ok (.aload_n 0, 1) := by decide +kernel
theorem dL_isError_1 : decode cL_isError 1 = .ok (.invokevirtual 239, 3) := by decide +kernel
theorem dL_isError_4 : decode cL_isError 4 = .ok (.ifCond .lt 32, 3) := by decide +kernel
theorem dL_isError_7 : decode cL_isError 7 = .ok (.aload_n 0, 1) := by decide +kernel
theorem dL_isError_8 : decode cL_isError 8 = .ok (.lload_n 1, 1) := by decide +kernel
theorem dL_isError_9 : decode cL_isError 9 = .ok (.invokestatic 242, 3) := by decide +kernel
theorem dL_isError_12 : decode cL_isError 12 = .ok (.ifCond .eq 24, 3) := by decide +kernel
theorem dL_isError_15 : decode cL_isError 15 = .ok (.aload_n 0, 1) := by decide +kernel
theorem dL_isError_16 : decode cL_isError 16 = .ok (.lload_n 3, 1) := by decide +kernel
theorem dL_isError_17 : decode cL_isError 17 = .ok (.invokestatic 242, 3) := by decide +kernel
theorem dL_isError_20 : decode cL_isError 20 = .ok (.ifCond .eq 16, 3) := by decide +kernel
theorem dL_isError_23 : decode cL_isError 23 = .ok (.aload_n 0, 1) := by decide +kernel
theorem dL_isError_24 : decode cL_isError 24 = .ok (.invokevirtual 65, 3) := by decide +kernel
theorem dL_isError_27 : decode cL_isError 27 = .ok (.iload 5, 2) := by decide +kernel
theorem dL_isError_29 : decode cL_isError 29 = .ok (.if_icmp .ne 7, 3) := by decide +kernel
theorem dL_isError_32 : decode cL_isError 32 = .ok (.iconst 1, 1) := by decide +kernel
theorem dL_isError_33 : decode cL_isError 33 = .ok (.goto 4, 3) := by decide +kernel
theorem dL_isError_36 : decode cL_isError 36 = .ok (.iconst 0, 1) := by decide +kernel
theorem dL_isError_37 : decode cL_isError 37 = .ok (.ireturn, 1) := by decide +kernel
theorem dL_texts_0 : decode cL_texts 0 = .ok (.new 28, 3) := by decide +kernel
theorem dL_texts_3 : decode cL_texts 3 = .ok (.dup, 1) := by decide +kernel
theorem dL_texts_4 : decode cL_texts 4 = .ok (.invokespecial 200, 3) := by decide +kernel
theorem dL_texts_7 : decode cL_texts 7 = .ok (.astore_n 0, 1) := by decide +kernel
theorem dL_texts_8 : decode cL_texts 8 = .ok (.aload_n 0, 1) := by decide +kernel
theorem dL_texts_9 : decode cL_texts 9 = .ok (.ldc2_w 246, 3) := by decide +kernel
theorem dL_texts_12 : decode cL_texts 12 = .ok (.lconst 0, 1) := by decide +kernel
theorem dL_texts_13 : decode cL_texts 13 = .ok (.iconst 1, 1) := by decide +kernel
theorem dL_texts_14 : decode cL_texts 14 = .ok (.invokestatic 248, 3) := by decide +kernel
theorem dL_texts_17 : decode cL_texts 17 = .ok (.ifCond .eq 112, 3) := by decide +kernel
theorem dL_texts_20 : decode cL_texts 20 = .ok (.aload_n 0, 1) := by decide +kernel
theorem dL_texts_21 : decode cL_texts 21 = .ok (.ldc2_w 252, 3) := by decide +kernel
theorem dL_texts_24 : decode cL_texts 24 = .ok (.lconst 0, 1) := by decide +kernel
theorem dL_texts_25 : decode cL_texts 25 = .ok (.bipush 6, 2) := by decide +kernel
theorem dL_texts_27 : decode cL_texts 27 = .ok (.invokestatic 248, 3) := by decide +kernel
theorem dL_texts_30 : decode cL_texts 30 = .ok (.ifCond .eq 99, 3) := by decide +kernel
theorem dL_texts_33 : decode cL_texts 33 = .ok (.aload_n 0, 1) := by decide +kernel
theorem dL_texts_34 : decode cL_texts 34 = .ok (.ldc2_w 254, 3) := by decide +kernel
theorem dL_texts_37 : decode cL_texts 37 = .ok (.lconst 0, 1) := by decide +kernel
theorem dL_texts_38 : decode cL_texts 38 = .ok (.iconst 2, 1) := by decide +kernel
theorem dL_texts_39 : decode cL_texts 39 = .ok (.invokestatic 248, 3) := by decide +kernel
theorem dL_texts_42 : decode cL_texts 42 = .ok (.ifCond .eq 87, 3) := by decide +kernel
theorem dL_texts_45 : decode cL_texts 45 = .ok (.aload_n 0, 1) := by decide +kernel
theorem dL_texts_46 : decode cL_texts 46 = .ok (.ldc2_w 256, 3) := by decide +kernel
theorem dL_texts_49 : decode cL_texts 49 = .ok (.lconst 0, 1) := by decide +kernel
theorem dL_texts_50 : decode cL_texts 50 = .ok (.iconst 5, 1) := by decide +kernel
theorem dL_texts_51 : decode cL_texts 51 = .ok (.invokestatic 248, 3) := by decide +kernel
theorem dL_texts_54 : decode cL_texts 54 = .ok (.ifCond .eq 75, 3) := by decide +kernel
theorem dL_texts_57 : decode cL_texts 57 = .ok (.aload_n 0, 1) := by decide +kernel
theorem dL_texts_58 : decode cL_texts 58 = .ok (.ldc2_w 258, 3) := by decide +kernel
theorem dL_texts_61 : decode cL_texts 61 = .ok (.lconst 0, 1) := by decide +kernel
theorem dL_texts_62 : decode cL_texts 62 = .ok (.iconst 3, 1) := by decide +kernel
theorem dL_texts_63 : decode cL_texts 63 = .ok (.invokestatic 248, 3) := by decide +kernel
theorem dL_texts_66 : decode cL_texts 66 = .ok (.ifCond .eq 63, 3) := by decide +kernel
theorem dL_texts_69 : decode cL_texts 69 = .ok (.aload_n 0, 1) := by decide +kernel
theorem dL_texts_70 : decode cL_texts 70 = .ok (.ldc2_w 260, 3) := by decide +kernel
theorem dL_texts_73 : decode cL_texts 73 = .ok (.lconst 0, 1) := by decide +kernel
theorem dL_texts_74 : decode cL_texts 74 = .ok (.iconst 1, 1) := by decide +kernel
theorem dL_texts_75 : decode cL_texts 75 = .ok (.invokestatic 248, 3) := by decide +kernel
theorem dL_texts_78 : decode cL_texts 78 = .ok (.ifCond .eq 51, 3) := by decide +kernel
theorem dL_texts_81 : decode cL_texts 81 = .ok (.aload_n 0, 1) := by decide +kernel
theorem dL_texts_82 : decode cL_texts 82 = .ok (.ldc2_w 262, 3) := by decide +kernel
theorem dL_texts_85 : decode cL_texts 85 = .ok (.lconst 0, 1) := by decide +kernel
theorem dL_texts_86 : decode cL_texts 86 = .ok (.iconst 2, 1) := by decide +kernel
theorem dL_texts_87 : decode cL_texts 87 = .ok (.invokestatic 248, 3) := by decide +kernel
theorem dL_texts_90 : decode cL_texts 90 = .ok (.ifCond .eq 39, 3) := by decide +kernel
theorem dL_texts_93 : decode cL_texts 93 = .ok (.aload_n 0, 1) := by decide +kernel
theorem dL_texts_94 : decode cL_texts 94 = .ok (.ldc2_w 264, 3) := by decide +kernel
theorem dL_texts_97 : decode cL_texts 97 = .ok (.lconst 0, 1) := by decide +kernel
theorem dL_texts_98 : decode cL_texts 98 = .ok (.iconst 3, 1) := by decide +kernel
theorem dL_texts_99 : decode cL_texts 99 = .ok (.invokestatic 248, 3) := by decide +kernel
theorem dL_texts_102 : decode cL_texts 102 = .ok (.ifCond .eq 27, 3) := by decide +kernel
theorem dL_texts_105 : decode cL_texts 105 = .ok (.aload_n 0, 1) := by decide +kernel
theorem dL_texts_106 : decode cL_texts 106 = .ok (.ldc2_w 266, 3) := by decide +kernel
theorem dL_texts_109 : decode cL_texts 109 = .ok (.lconst 0, 1) := by decide +kernel
theorem dL_texts_110 : decode cL_texts 110 = .ok (.iconst 4, 1) := by decide +kernel
theorem dL_texts_111 : decode cL_texts 111 = .ok (.invokestatic 248, 3) := by decide +kernel
theorem dL_texts_114 : decode cL_texts 114 = .ok (.ifCond .eq 15, 3) := by decide +kernel
theorem dL_texts_117 : decode cL_texts 117 = .ok (.aload_n 0, 1) := by decide +kernel
theorem dL_texts_118 : decode cL_texts 118 = .ok (.ldc2_w 268, 3) := by decide +kernel
theorem dL_texts_121 : decode cL_texts 121 = .ok (.lconst 0, 1) := by decide +kernel
theorem dL_texts_122 : decode cL_texts 122 = .ok (.iconst 3, 1) := by decide +kernel
theorem dL_texts_123 : decode cL_texts 123 = .ok (.invokestatic 248, 3) := by decide +kernel
theorem dL_texts_126 : decode cL_texts 126 = .ok (.ifCond .ne 5, 3) := by decide +kernel
theorem dL_texts_129 : decode cL_texts 129 = .ok (.iconst 0, 1) := by decide +kernel
theorem dL_texts_130 : decode cL_texts 130 = .ok (.ireturn, 1) := by decide +kernel
theorem dL_texts_131 : decode cL_texts 131 = .ok (.aload_n 0, 1) := by decide +kernel
theorem dL_texts_132 : decode cL_texts 132 = .ok (.ldc2_w 270, 3) := by decide +kernel
theorem dL_texts_135 : decode cL_texts 135 = .ok (.lconst 0, 1) := by decide +kernel
theorem dL_texts_136 : decode cL_texts 136 = .ok (.iconst 1, 1) := by decide +kernel
theorem dL_texts_137 : decode cL_texts 137 = .ok (.invokestatic 248, 3) := by decide +kernel
theorem dL_texts_140 : decode cL_texts 140 = .ok (.ifCond .eq 111, 3) := by decide +kernel
theorem dL_texts_143 : decode cL_texts 143 = .ok (.aload_n 0, 1) := by decide +kernel
theorem dL_texts_144 : decode cL_texts 144 = .ok (.ldc2_w 272, 3) := by decide +kernel
theorem dL_texts_147 : decode cL_texts 147 = .ok (.lconst 0, 1) := by decide +kernel
theorem dL_texts_148 : decode cL_texts 148 = .ok (.iconst 3, 1) := by decide +kernel
theorem dL_texts_149 : decode cL_texts 149 = .ok (.invokestatic 248, 3) := by decide +kernel
theorem dL_texts_152 : decode cL_texts 152 = .ok (.ifCond .eq 99, 3) := by decide +kernel
theorem dL_texts_155 : decode cL_texts 155 = .ok (.aload_n 0, 1) := by decide +kernel
theorem dL_texts_156 : decode cL_texts 156 = .ok (.ldc2_w 274, 3) := by decide +kernel
theorem dL_texts_159 : decode cL_texts 159 = .ok (.lconst 0, 1) := by decide +kernel
theorem dL_texts_160 : decode cL_texts 160 = .ok (.iconst 1, 1) := by decide +kernel
theorem dL_texts_161 : decode cL_texts 161 = .ok (.invokestatic 248, 3) := by decide +kernel
theorem dL_texts_164 : decode cL_texts 164 = .ok (.ifCond .eq 87, 3) := by decide +kernel
theorem dL_texts_167 : decode cL_texts 167 = .ok (.aload_n 0, 1) := by decide +kernel
theorem dL_texts_168 : decode cL_texts 168 = .ok (.lconst 0, 1) := by decide +kernel
theorem dL_texts_169 : decode cL_texts 169 = .ok (.lconst 0, 1) := by decide +kernel
theorem dL_texts_170 : decode cL_texts 170 = .ok (.iconst 0, 1) := by decide +kernel
theorem dL_texts_171 : decode cL_texts 171 = .ok (.invokestatic 248, 3) := by decide +kernel
theorem dL_texts_174 : decode cL_texts 174 = .ok (.ifCond .eq 77, 3) := by decide +kernel
theorem dL_texts_177 : decode cL_texts 177 = .ok (.aload_n 0, 1) := by decide +kernel
theorem dL_texts_178 : decode cL_texts 178 = .ok (.ldc2_w 276, 3) := by decide +kernel
theorem dL_texts_181 : decode cL_texts 181 = .ok (.lconst 0, 1) := by decide +kernel
theorem dL_texts_182 : decode cL_texts 182 = .ok (.iconst 5, 1) := by decide +kernel
theorem dL_texts_183 : decode cL_texts 183 = .ok (.invokestatic 248, 3) := by decide +kernel
theorem dL_texts_186 : decode cL_texts 186 = .ok (.ifCond .eq 65, 3) := by decide +kernel
theorem dL_texts_189 : decode cL_texts 189 = .ok (.aload_n 0, 1) := by decide +kernel
theorem dL_texts_190 : decode cL_texts 190 = .ok (.ldc2_w 278, 3) := by decide +kernel
theorem dL_texts_193 : decode cL_texts 193 = .ok (.lconst 0, 1) := by decide +kernel
theorem dL_texts_194 : decode cL_texts 194 = .ok (.bipush 8, 2) := by decide +kernel
theorem dL_texts_196 : decode cL_texts 196 = .ok (.invokestatic 248, 3) := by decide +kernel
theorem dL_texts_199 : decode cL_texts 199 = .ok (.ifCond .eq 52, 3) := by decide +kernel
theorem dL_texts_202 : decode cL_texts 202 = .ok (.aload_n 0, 1) := by decide +kernel
theorem dL_texts_203 : decode cL_texts 203 = .ok (.ldc2_w 280, 3) := by decide +kernel
theorem dL_texts_206 : decode cL_texts 206 = .ok (.lconst 0, 1) := by decide +kernel
theorem dL_texts_207 : decode cL_texts 207 = .ok (.iconst 4, 1) := by decide +kernel
theorem dL_texts_208 : decode cL_texts 208 = .ok (.invokestatic 248, 3) := by decide +kernel
theorem dL_texts_211 : decode cL_texts 211 = .ok (.ifCond .eq 40, 3) := by decide +kernel
theorem dL_texts_214 : decode cL_texts 214 = .ok (.aload_n 0, 1) := by decide +kernel
theorem dL_texts_215 : decode cL_texts 215 = .ok (.ldc2_w 282, 3) := by decide +kernel
theorem dL_texts_218 : decode cL_texts 218 = .ok (.lconst 0, 1) := by decide +kernel
theorem dL_texts_219 : decode cL_texts 219 = .ok (.iconst 0, 1) := by decide +kernel
theorem dL_texts_220 : decode cL_texts 220 = .ok (.invokestatic 248, 3) := by decide +kernel
theorem dL_texts_223 : decode cL_texts 223 = .ok (.ifCond .eq 28, 3) := by decide +kernel
theorem dL_texts_226 : decode cL_texts 226 = .ok (.aload_n 0, 1) := by decide +kernel
theorem dL_texts_227 : decode cL_texts 227 = .ok (.ldc2_w 284, 3) := by decide +kernel
theorem dL_texts_230 : decode cL_texts 230 = .ok (.lconst 0, 1) := by decide +kernel
theorem dL_texts_231 : decode cL_texts 231 = .ok (.bipush 6, 2) := by decide +kernel
theorem dL_texts_233 : decode cL_texts 233 = .ok (.invokestatic 248, 3) := by decide +kernel
theorem dL_texts_236 : decode cL_texts 236 = .ok (.ifCond .eq 15, 3) := by decide +kernel
theorem dL_texts_239 : decode cL_texts 239 = .ok (.aload_n 0, 1) := by decide +kernel
theorem dL_texts_240 : decode cL_texts 240 = .ok (.ldc2_w 286, 3) := by decide +kernel
theorem dL_texts_243 : decode cL_texts 243 = .ok (.lconst 0, 1) := by decide +kernel
theorem dL_texts_244 : decode cL_texts 244 = .ok (.iconst 0, 1) := by decide +kernel
theorem dL_texts_245 : decode cL_texts 245 = .ok (.invokestatic 248, 3) := by decide +kernel
theorem dL_texts_248 : decode cL_texts 248 = .ok (.ifCond .ne 5, 3) := by decide +kernel
theorem dL_texts_251 : decode cL_texts 251 = .ok (.iconst 0, 1) := by decide +kernel
theorem dL_texts_252 : decode cL_texts 252 = .ok (.ireturn, 1) := by decide +kernel
theorem dL_texts_253 : decode cL_texts 253 = .ok (.aload_n 0, 1) := by decide +kernel
theorem dL_texts_254 : decode cL_texts 254 = .ok (.invokevirtual 239, 3) := by decide +kernel
theorem dL_texts_257 : decode cL_texts 257 = .ok (.iconst 4, 1) := by decide +kernel
theorem dL_texts_258 : decode cL_texts 258 = .ok (.if_icmp .ne 192, 3) := by decide +kernel
theorem dL_texts_261 : decode cL_texts 261 = .ok (.aload_n 0, 1) := by decide +kernel
theorem dL_texts_262 : decode cL_texts 262 = .ok (.ldc2_w 288, 3) := by decide +kernel
theorem dL_texts_265 : decode cL_texts 265 = .ok (.invokestatic 242, 3) := by decide +kernel
theorem dL_texts_268 : decode cL_texts 268 = .ok (.ifCond .eq 182, 3) := by decide +kernel
theorem dL_texts_271 : decode cL_texts 271 = .ok (.aload_n 0, 1) := by decide +kernel
theorem dL_texts_272 : decode cL_texts 272 = .ok (.ldc2_w 290, 3) := by decide +kernel
theorem dL_texts_275 : decode cL_texts 275 = .ok (.invokestatic 242, 3) := by decide +kernel
theorem dL_texts_278 : decode cL_texts 278 = .ok (.ifCond .eq 172, 3) := by decide +kernel
theorem dL_texts_281 : decode cL_texts 281 = .ok (.aload_n 0, 1) := by decide +kernel
theorem dL_texts_282 : decode cL_texts 282 = .ok (.ldc2_w 292, 3) := by decide +kernel
theorem dL_texts_285 : decode cL_texts 285 = .ok (.invokestatic 242, 3) := by decide +kernel
theorem dL_texts_288 : decode cL_texts 288 = .ok (.ifCond .eq 162, 3) := by decide +kernel
theorem dL_texts_291 : decode cL_texts 291 = .ok (.aload_n 0, 1) := by decide +kernel
theorem dL_texts_292 : decode cL_texts 292 = .ok (.bipush 10, 2) := by decide +kernel
theorem dL_texts_294 : decode cL_texts 294 = .ok (.iconst 0, 1) := by decide +kernel
theorem dL_texts_295 : decode cL_texts 295 = .ok (.iconst 0, 1) := by decide +kernel
theorem dL_texts_296 : decode cL_texts 296 = .ok (.invokestatic 182, 3) := by decide +kernel
theorem dL_texts_299 : decode cL_texts 299 = .ok (.sipush (-2013), 3) := by decide +kernel
theorem dL_texts_302 : decode cL_texts 302 = .ok (.if_icmp .ne 148, 3) := by decide +kernel
theorem dL_texts_305 : decode cL_texts 305 = .ok (.aload_n 0, 1) := by decide +kernel
theorem dL_texts_306 : decode cL_texts 306 = .ok (.invokevirtual 158, 3) := by decide +kernel
theorem dL_texts_309 : decode cL_texts 309 = .ok (.ifCond .ne 141, 3) := by decide +kernel
theorem dL_texts_312 : decode cL_texts 312 = .ok (.aload_n 0, 1) := by decide +kernel
theorem dL_texts_313 : decode cL_texts 313 = .ok (.invokevirtual 164, 3) := by decide +kernel
theorem dL_texts_316 : decode cL_texts 316 = .ok (.ifCond .ne 134, 3) := by decide +kernel
theorem dL_texts_319 : decode cL_texts 319 = .ok (.aload_n 0, 1) := by decide +kernel
theorem dL_texts_320 : decode cL_texts 320 = .ok (.invokevirtual 239, 3) := by decide +kernel
theorem dL_texts_323 : decode cL_texts 323 = .ok (.bipush 24, 2) := by decide +kernel
theorem dL_texts_325 : decode cL_texts 325 = .ok (.if_icmp .ne 125, 3) := by decide +kernel
theorem dL_texts_328 : decode cL_texts 328 = .ok (.aload_n 0, 1) := by decide +kernel
theorem dL_texts_329 : decode cL_texts 329 = .ok (.ldc2_w 288, 3) := by decide +kernel
theorem dL_texts_332 : decode cL_texts 332 = .ok (.invokestatic 242, 3) := by decide +kernel
theorem dL_texts_335 : decode cL_texts 335 = .ok (.ifCond .eq 115, 3) := by decide +kernel
theorem dL_texts_338 : decode cL_texts 338 = .ok (.aload_n 0, 1) := by decide +kernel
theorem dL_texts_339 : decode cL_texts 339 = .ok (.ldc2_w 290, 3) := by decide +kernel
theorem dL_texts_342 : decode cL_texts 342 = .ok (.invokestatic 242, 3) := by decide +kernel
theorem dL_texts_345 : decode cL_texts 345 = .ok (.ifCond .eq 105, 3) := by decide +kernel
theorem dL_texts_348 : decode cL_texts 348 = .ok (.aload_n 0, 1) := by decide +kernel
theorem dL_texts_349 : decode cL_texts 349 = .ok (.ldc2_w 294, 3) := by decide +kernel
theorem dL_texts_352 : decode cL_texts 352 = .ok (.invokestatic 242, 3) := by decide +kernel
theorem dL_texts_355 : decode cL_texts 355 = .ok (.ifCond .eq 95, 3) := by decide +kernel
theorem dL_texts_358 : decode cL_texts 358 = .ok (.aload_n 0, 1) := by decide +kernel
theorem dL_texts_359 : decode cL_texts 359 = .ok (.ldc2_w 296, 3) := by decide +kernel
theorem dL_texts_362 : decode cL_texts 362 = .ok (.invokestatic 242, 3) := by decide +kernel
theorem dL_texts_365 : decode cL_texts 365 = .ok (.ifCond .eq 85, 3) := by decide +kernel
theorem dL_texts_368 : decode cL_texts 368 = .ok (.aload_n 0, 1) := by decide +kernel
theorem dL_texts_369 : decode cL_texts 369 = .ok (.invokevirtual 62, 3) := by decide +kernel
theorem dL_texts_372 : decode cL_texts 372 = .ok (.iconst 2, 1) := by decide +kernel
theorem dL_texts_373 : decode cL_texts 373 = .ok (.if_icmp .ne 77, 3) := by decide +kernel
theorem dL_texts_376 : decode cL_texts 376 = .ok (.aload_n 0, 1) := by decide +kernel
theorem dL_texts_377 : decode cL_texts 377 = .ok (.invokevirtual 239, 3) := by decide +kernel
theorem dL_texts_380 : decode cL_texts 380 = .ok (.ifCond .ne 70, 3) := by decide +kernel
theorem dL_texts_383 : decode cL_texts 383 = .ok (.aload_n 0, 1) := by decide +kernel
theorem dL_texts_384 : decode cL_texts 384 = .ok (.iconst 0, 1) := by decide +kernel
theorem dL_texts_385 : decode cL_texts 385 = .ok (.invokevirtual 93, 3) := by decide +kernel
theorem dL_texts_388 : decode cL_texts 388 = .ok (.bipush 6, 2) := by decide +kernel
theorem dL_texts_390 : decode cL_texts 390 = .ok (.if_icmp .ne 60, 3) := by decide +kernel
theorem dL_texts_393 : decode cL_texts 393 = .ok (.aload_n 0, 1) := by decide +kernel
theorem dL_texts_394 : decode cL_texts 394 = .ok (.bipush 9, 2) := by decide +kernel
theorem dL_texts_396 : decode cL_texts 396 = .ok (.invokevirtual 75, 3) := by decide +kernel
theorem dL_texts_399 : decode cL_texts 399 = .ok (.bipush 9, 2) := by decide +kernel
theorem dL_texts_401 : decode cL_texts 401 = .ok (.if_icmp .ne 49, 3) := by decide +kernel
theorem dL_texts_404 : decode cL_texts 404 = .ok (.aload_n 0, 1) := by decide +kernel
theorem dL_texts_405 : decode cL_texts 405 = .ok (.iconst 0, 1) := by decide +kernel
theorem dL_texts_406 : decode cL_texts 406 = .ok (.invokevirtual 109, 3) := by decide +kernel
theorem dL_texts_409 : decode cL_texts 409 = .ok (.iconst 2, 1) := by decide +kernel
theorem dL_texts_410 : decode cL_texts 410 = .ok (.if_icmp .ne 40, 3) := by decide +kernel
theorem dL_texts_413 : decode cL_texts 413 = .ok (.aload_n 0, 1) := by decide +kernel
theorem dL_texts_414 : decode cL_texts 414 = .ok (.invokevirtual 149, 3) := by decide +kernel
theorem dL_texts_417 : decode cL_texts 417 = .ok (.iconst 1, 1) := by decide +kernel
theorem dL_texts_418 : decode cL_texts 418 = .ok (.if_icmp .ne 32, 3) := by decide +kernel
theorem dL_texts_421 : decode cL_texts 421 = .ok (.aload_n 0, 1) := by decide +kernel
theorem dL_texts_422 : decode cL_texts 422 = .ok (.invokevirtual 164, 3) := by decide +kernel
theorem dL_texts_425 : decode cL_texts 425 = .ok (.iconst 1, 1) := by decide +kernel
theorem dL_texts_426 : decode cL_texts 426 = .ok (.if_icmp .ne 24, 3) := by decide +kernel
theorem dL_texts_429 : decode cL_texts 429 = .ok (.aload_n 0, 1) := by decide +kernel
theorem dL_texts_430 : decode cL_texts 430 = .ok (.invokestatic 201, 3) := by decide +kernel
theorem dL_texts_433 : decode cL_texts 433 = .ok (.ifCond .ne 17, 3) := by decide +kernel
theorem dL_texts_436 : decode cL_texts 436 = .ok (.aload_n 0, 1) := by decide +kernel
theorem dL_texts_437 : decode cL_texts 437 = .ok (.invokevirtual 158, 3) := by decide +kernel
theorem dL_texts_440 : decode cL_texts 440 = .ok (.ifCond .ne 10, 3) := by decide +kernel
theorem dL_texts_443 : decode cL_texts 443 = .ok (.aload_n 0, 1) := by decide +kernel
theorem dL_texts_444 : decode cL_texts 444 = .ok (.invokevirtual 146, 3) := by decide +kernel
theorem dL_texts_447 : decode cL_texts 447 = .ok (.ifCond .eq 5, 3) := by decide +kernel
theorem dL_texts_450 : decode cL_texts 450 = .ok (.iconst 0, 1) := by decide +kernel
theorem dL_texts_451 : decode cL_texts 451 = .ok (.ireturn, 1) := by decide +kernel
theorem dL_texts_452 : decode cL_texts 452 = .ok (.iconst 0, 1) := by decide +kernel
theorem dL_texts_453 : decode cL_texts 453 = .ok (.istore_n 1, 1) := by decide +kernel
theorem dL_texts_454 : decode cL_texts 454 = .ok (.iload_n 1, 1) := by decide +kernel
theorem dL_texts_455 : decode cL_texts 455 = .ok (.bipush 60, 2) := by decide +kernel
theorem dL_texts_457 : decode cL_texts 457 = .ok (.if_icmp .ge 44, 3) := by decide +kernel
theorem dL_texts_460 : decode cL_texts 460 = .ok (.aload_n 0, 1) := by decide +kernel
theorem dL_texts_461 : decode cL_texts 461 = .ok (.iload_n 1, 1) := by decide +kernel
theorem dL_texts_462 : decode cL_texts 462 = .ok (.iconst 2, 1) := by decide +kernel
theorem dL_texts_463 : decode cL_texts 463 = .ok (.irem, 1) := by decide +kernel
theorem dL_texts_464 : decode cL_texts 464 = .ok (.ifCond .ne 8, 3) := by decide +kernel
theorem dL_texts_467 : decode cL_texts 467 = .ok (.bipush 99, 2) := by decide +kernel
theorem dL_texts_469 : decode cL_texts 469 = .ok (.goto 5, 3) := by decide +kernel
theorem dL_texts_472 : decode cL_texts 472 = .ok (.bipush 59, 2) := by decide +kernel
theorem dL_texts_474 : decode cL_texts 474 = .ok (.invokevirtual 59, 3) := by decide +kernel
theorem dL_texts_477 : decode cL_texts 477 = .ok (.iload_n 1, 1) := by decide +kernel
theorem dL_texts_478 : decode cL_texts 478 = .ok (.iconst 1, 1) := by decide +kernel
theorem dL_texts_479 : decode cL_texts 479 = .ok (.iadd, 1) := by decide +kernel
theorem dL_texts_480 : decode cL_texts 480 = .ok (.if_icmp .ne 13, 3) := by decide +kernel
theorem dL_texts_483 : decode cL_texts 483 = .ok (.aload_n 0, 1) := by decide +kernel
theorem dL_texts_484 : decode cL_texts 484 = .ok (.invokevirtual 65, 3) := by decide +kernel
theorem dL_texts_487 : decode cL_texts 487 = .ok (.iload_n 1, 1) := by decide +kernel
theorem dL_texts_488 : decode cL_texts 488 = .ok (.iconst 1, 1) := by decide +kernel
theorem dL_texts_489 : decode cL_texts 489 = .ok (.iadd, 1) := by decide +kernel
theorem dL_texts_490 : decode cL_texts 490 = .ok (.if_icmp .eq 5, 3) := by decide +kernel
theorem dL_texts_493 : decode cL_texts 493 = .ok (.iconst 0, 1) := by decide +kernel
theorem dL_texts_494 : decode cL_texts 494 = .ok (.ireturn, 1) := by decide +kernel
theorem dL_texts_495 : decode cL_texts 495 = .ok (.iinc 1 1, 3) := by decide +kernel
theorem dL_texts_498 : decode cL_texts 498 = .ok (.goto (-44), 3) := by decide +kernel
theorem dL_texts_501 : decode cL_texts 501 = .ok (.aload_n 0, 1) := by decide +kernel
theorem dL_texts_502 : decode cL_texts 502 = .ok (.bipush 9, 2) := by decide +kernel
theorem dL_texts_504 : decode cL_texts 504 = .ok (.bipush 99, 2) := by decide +kernel
theorem dL_texts_506 : decode cL_texts 506 = .ok (.iconst 0, 1) := by decide +kernel
theorem dL_texts_507 : decode cL_texts 507 = .ok (.invokestatic 182, 3) := by decide +kernel
theorem dL_texts_510 : decode cL_texts 510 = .ok (.sipush (-2013), 3) := by decide +kernel
theorem dL_texts_513 : decode cL_texts 513 = .ok (.if_icmp .ne 30, 3) := by decide +kernel
theorem dL_texts_516 : decode cL_texts 516 = .ok (.aload_n 0, 1) := by decide +kernel
theorem dL_texts_517 : decode cL_texts 517 = .ok (.bipush 10, 2) := by decide +kernel
theorem dL_texts_519 : decode cL_texts 519 = .ok (.iconst 0, 1) := by decide +kernel
theorem dL_texts_520 : decode cL_texts 520 = .ok (.iconst 0, 1) := by decide +kernel
theorem dL_texts_521 : decode cL_texts 521 = .ok (.invokestatic 182, 3) := by decide +kernel
theorem dL_texts_524 : decode cL_texts 524 = .ok (.sipush (-2012), 3) := by decide +kernel
theorem dL_texts_527 : decode cL_texts 527 = .ok (.if_icmp .ne 16, 3) := by decide +kernel
theorem dL_texts_530 : decode cL_texts 530 = .ok (.aload_n 0, 1) := by decide +kernel
theorem dL_texts_531 : decode cL_texts 531 = .ok (.invokevirtual 239, 3) := by decide +kernel
theorem dL_texts_534 : decode cL_texts 534 = .ok (.bipush 60, 2) := by decide +kernel
theorem dL_texts_536 : decode cL_texts 536 = .ok (.if_icmp .ne 7, 3) := by decide +kernel
theorem dL_texts_539 : decode cL_texts 539 = .ok (.iconst 1, 1) := by decide +kernel
theorem dL_texts_540 : decode cL_texts 540 = .ok (.goto 4, 3) := by decide +kernel
theorem dL_texts_543 : decode cL_texts 543 = .ok (.iconst 0, 1) := by decide +kernel
theorem dL_texts_544 : decode cL_texts 544 = .ok (.ireturn, 1) := by decide +kernel
theorem dL_law_0 : decode cL_law 0 = .ok (.invokestatic 298, 3) := by decide +kernel
theorem dL_law_3 : decode cL_law 3 = .ok (.ifCond .eq 9, 3) := by decide +kernel
theorem dL_law_6 : decode cL_law 6 = .ok (.invokestatic 301, 3) := by decide +kernel
theorem dL_law_9 : decode cL_law 9 = .ok (.ifCond .ne 5, 3) := by decide +kernel
theorem dL_law_12 : decode cL_law 12 = .ok (.iconst 0, 1) := by decide +kernel
theorem dL_law_13 : decode cL_law 13 = .ok (.ireturn, 1) := by decide +kernel
theorem dL_law_14 : decode cL_law 14 = .ok (.new 28, 3) := by decide +kernel
theorem dL_law_17 : decode cL_law 17 = .ok (.dup, 1) := by decide +kernel
theorem dL_law_18 : decode cL_law 18 = .ok (.invokespecial 200, 3) := by decide +kernel
theorem dL_law_21 : decode cL_law 21 = .ok (.astore_n 1, 1) := by decide +kernel
theorem dL_law_22 : decode cL_law 22 = .ok (.bipush 64, 2) := by decide +kernel
theorem dL_law_24 : decode cL_law 24 = .ok (.newarray .long, 2) := by decide +kernel
theorem dL_law_26 : decode cL_law 26 = .ok (.astore_n 2, 1) := by decide +kernel
theorem dL_law_27 : decode cL_law 27 = .ok (.iconst 0, 1) := by decide +kernel
theorem dL_law_28 : decode cL_law 28 = .ok (.istore_n 3, 1) := by decide +kernel
theorem dL_law_29 : decode cL_law 29 = .ok (.aload_n 1, 1) := by decide +kernel
theorem dL_law_30 : decode cL_law 30 = .ok (.iconst 5, 1) := by decide +kernel
theorem dL_law_31 : decode cL_law 31 = .ok (.iconst 1, 1) := by decide +kernel
theorem dL_law_32 : decode cL_law 32 = .ok (.invokevirtual 27, 3) := by decide +kernel
theorem dL_law_35 : decode cL_law 35 = .ok (.iconst 1, 1) := by decide +kernel
theorem dL_law_36 : decode cL_law 36 = .ok (.if_icmp .ne 44, 3) := by decide +kernel
theorem dL_law_39 : decode cL_law 39 = .ok (.aload_n 1, 1) := by decide +kernel
theorem dL_law_40 : decode cL_law 40 = .ok (.bipush 9, 2) := by decide +kernel
theorem dL_law_42 : decode cL_law 42 = .ok (.iconst 2, 1) := by decide +kernel
theorem dL_law_43 : decode cL_law 43 = .ok (.invokevirtual 27, 3) := by decide +kernel
theorem dL_law_46 : decode cL_law 46 = .ok (.iconst 2, 1) := by decide +kernel
theorem dL_law_47 : decode cL_law 47 = .ok (.if_icmp .ne 33, 3) := by decide +kernel
theorem dL_law_50 : decode cL_law 50 = .ok (.aload_n 1, 1) := by decide +kernel
theorem dL_law_51 : decode cL_law 51 = .ok (.bipush 100, 2) := by decide +kernel
theorem dL_law_53 : decode cL_law 53 = .ok (.invokevirtual 44, 3) := by decide +kernel
theorem dL_law_56 : decode cL_law 56 = .ok (.iconst 1, 1) := by decide +kernel
theorem dL_law_57 : decode cL_law 57 = .ok (.if_icmp .ne 23, 3) := by decide +kernel
theorem dL_law_60 : decode cL_law 60 = .ok (.aload_n 1, 1) := by decide +kernel
theorem dL_law_61 : decode cL_law 61 = .ok (.bipush 6, 2) := by decide +kernel
theorem dL_law_63 : decode cL_law 63 = .ok (.bipush 6, 2) := by decide +kernel
theorem dL_law_65 : decode cL_law 65 = .ok (.invokevirtual 27, 3) := by decide +kernel
theorem dL_law_68 : decode cL_law 68 = .ok (.iconst 1, 1) := by decide +kernel
theorem dL_law_69 : decode cL_law 69 = .ok (.if_icmp .ne 11, 3) := by decide +kernel
theorem dL_law_72 : decode cL_law 72 = .ok (.aload_n 1, 1) := by decide +kernel
theorem dL_law_73 : decode cL_law 73 = .ok (.iconst 1, 1) := by decide +kernel
theorem dL_law_74 : decode cL_law 74 = .ok (.invokestatic 185, 3) := by decide +kernel
theorem dL_law_77 : decode cL_law 77 = .ok (.ifCond .eq 5, 3) := by decide +kernel
theorem dL_law_80 : decode cL_law 80 = .ok (.iconst 0, 1) := by decide +kernel
theorem dL_law_81 : decode cL_law 81 = .ok (.ireturn, 1) := by decide +kernel
theorem dL_law_82 : decode cL_law 82 = .ok (.aload_n 1, 1) := by decide +kernel
theorem dL_law_83 : decode cL_law 83 = .ok (.invokestatic 304, 3) := by decide +kernel
theorem dL_law_86 : decode cL_law 86 = .ok (.lstore 4, 2) := by decide +kernel
theorem dL_law_88 : decode cL_law 88 = .ok (.iconst 0, 1) := by decide +kernel
theorem dL_law_89 : decode cL_law 89 = .ok (.istore 6, 2) := by decide +kernel
theorem dL_law_91 : decode cL_law 91 = .ok (.iload 6, 2) := by decide +kernel
theorem dL_law_93 : decode cL_law 93 = .ok (.bipush 30, 2) := by decide +kernel
theorem dL_law_95 : decode cL_law 95 = .ok (.if_icmp .ge 291, 3) := by decide +kernel
theorem dL_law_98 : decode cL_law 98 = .ok (.aload_n 0, 1) := by decide +kernel
theorem dL_law_99 : decode cL_law 99 = .ok (.iload 6, 2) := by decide +kernel
theorem dL_law_101 : decode cL_law 101 = .ok (.invokestatic 308, 3) := by decide +kernel
theorem dL_law_104 : decode cL_law 104 = .ok (.istore 7, 2) := by decide +kernel
theorem dL_law_106 : decode cL_law 106 = .ok (.iload 7, 2) := by decide +kernel
theorem dL_law_108 : decode cL_law 108 = .ok (.bipush 26, 2) := by decide +kernel
theorem dL_law_110 : decode cL_law 110 = .ok (.invokestatic 312, 3) := by decide +kernel
theorem dL_law_113 : decode cL_law 113 = .ok (.istore 8, 2) := by decide +kernel
theorem dL_law_115 : decode cL_law 115 = .ok (.aload_n 2, 1) := by decide +kernel
theorem dL_law_116 : decode cL_law 116 = .ok (.iload_n 3, 1) := by decide +kernel
theorem dL_law_117 : decode cL_law 117 = .ok (.aload_n 1, 1) := by decide +kernel
theorem dL_law_118 : decode cL_law 118 = .ok (.invokestatic 304, 3) := by decide +kernel
theorem dL_law_121 : decode cL_law 121 = .ok (.lastore, 1) := by decide +kernel
theorem dL_law_122 : decode cL_law 122 = .ok (.aload_n 1, 1) := by decide +kernel
theorem dL_law_123 : decode cL_law 123 = .ok (.invokevirtual 164, 3) := by decide +kernel
theorem dL_law_126 : decode cL_law 126 = .ok (.istore 9, 2) := by decide +kernel
theorem dL_law_128 : decode cL_law 128 = .ok (.iload 7, 2) := by decide +kernel
theorem dL_law_130 : decode cL_law 130 = .ok (.iconst 5, 1) := by decide +kernel
theorem dL_law_131 : decode cL_law 131 = .ok (.ishr, 1) := by decide +kernel
theorem dL_law_132 : decode cL_law 132 = .ok (.bipush 24, 2) := by decide +kernel
theorem dL_law_134 : decode cL_law 134 = .ok (.invokestatic 312, 3) := by decide +kernel
theorem dL_law_137 : decode cL_law 137 = .ok (.istore 10, 2) := by decide +kernel
theorem dL_law_139 : decode cL_law 139 = .ok (.iload 7, 2) := by decide +kernel
theorem dL_law_141 : decode cL_law 141 = .ok (.bipush 8, 2) := by decide +kernel
theorem dL_law_143 : decode cL_law 143 = .ok (.ishr, 1) := by decide +kernel
theorem dL_law_144 : decode cL_law 144 = .ok (.bipush 60, 2) := by decide +kernel
theorem dL_law_146 : decode cL_law 146 = .ok (.invokestatic 312, 3) := by decide +kernel
theorem dL_law_149 : decode cL_law 149 = .ok (.istore 11, 2) := by decide +kernel
theorem dL_law_151 : decode cL_law 151 = .ok (.iload 8, 2) := by decide +kernel
theorem dL_law_153 : decode cL_law 153 = .ok (.iconst 5, 1) := by decide +kernel
theorem dL_law_154 : decode cL_law 154 = .ok (.if_icmp .ge 15, 3) := by decide +kernel
theorem dL_law_157 : decode cL_law 157 = .ok (.aload_n 1, 1) := by decide +kernel
theorem dL_law_158 : decode cL_law 158 = .ok (.iconst 0, 1) := by decide +kernel
theorem dL_law_159 : decode cL_law 159 = .ok (.iload 10, 2) := by decide +kernel
theorem dL_law_161 : decode cL_law 161 = .ok (.iload 11, 2) := by decide +kernel
theorem dL_law_163 : decode cL_law 163 = .ok (.invokestatic 182, 3) := by decide +kernel
theorem dL_law_166 : decode cL_law 166 = .ok (.goto 157, 3) := by decide +kernel
theorem dL_law_169 : decode cL_law 169 = .ok (.iload 8, 2) := by decide +kernel
theorem dL_law_171 : decode cL_law 171 = .ok (.bipush 7, 2) := by decide +kernel
theorem dL_law_173 : decode cL_law 173 = .ok (.if_icmp .ge 14, 3) := by decide +kernel
theorem dL_law_176 : decode cL_law 176 = .ok (.aload_n 1, 1) := by decide +kernel
theorem dL_law_177 : decode cL_law 177 = .ok (.iconst 1, 1) := by decide +kernel
theorem dL_law_178 : decode cL_law 178 = .ok (.iload 10, 2) := by decide +kernel
theorem dL_law_180 : decode cL_law 180 = .ok (.iconst 0, 1) := by decide +kernel
theorem dL_law_181 : decode cL_law 181 = .ok (.invokestatic 182, 3) := by decide +kernel
theorem dL_law_184 : decode cL_law 184 = .ok (.goto 139, 3) := by decide +kernel
theorem dL_law_187 : decode cL_law 187 = .ok (.iload 8, 2) := by decide +kernel
theorem dL_law_189 : decode cL_law 189 = .ok (.bipush 9, 2) := by decide +kernel
theorem dL_law_191 : decode cL_law 191 = .ok (.if_icmp .ge 13, 3) := by decide +kernel
theorem dL_law_194 : decode cL_law 194 = .ok (.aload_n 1, 1) := by decide +kernel
theorem dL_law_195 : decode cL_law 195 = .ok (.iconst 2, 1) := by decide +kernel
theorem dL_law_196 : decode cL_law 196 = .ok (.iconst 0, 1) := by decide +kernel
theorem dL_law_197 : decode cL_law 197 = .ok (.iconst 0, 1) := by decide +kernel
theorem dL_law_198 : decode cL_law 198 = .ok (.invokestatic 182, 3) := by decide +kernel
theorem dL_law_201 : decode cL_law 201 = .ok (.goto 122, 3) := by decide +kernel
theorem dL_law_204 : decode cL_law 204 = .ok (.iload 8, 2) := by decide +kernel
theorem dL_law_206 : decode cL_law 206 = .ok (.bipush 9, 2) := by decide +kernel
theorem dL_law_208 : decode cL_law 208 = .ok (.if_icmp .ne 13, 3) := by decide +kernel
theorem dL_law_211 : decode cL_law 211 = .ok (.aload_n 1, 1) := by decide +kernel
theorem dL_law_212 : decode cL_law 212 = .ok (.iconst 3, 1) := by decide +kernel
theorem dL_law_213 : decode cL_law 213 = .ok (.iconst 0, 1) := by decide +kernel
theorem dL_law_214 : decode cL_law 214 = .ok (.iconst 0, 1) := by decide +kernel
theorem dL_law_215 : decode cL_law 215 = .ok (.invokestatic 182, 3) := by decide +kernel
theorem dL_law_218 : decode cL_law 218 = .ok (.goto 105, 3) := by decide +kernel
theorem dL_law_221 : decode cL_law 221 = .ok (.iload 8, 2) := by decide +kernel
theorem dL_law_223 : decode cL_law 223 = .ok (.bipush 10, 2) := by decide +kernel
theorem dL_law_225 : decode cL_law 225 = .ok (.if_icmp .ne 17, 3) := by decide +kernel
theorem dL_law_228 : decode cL_law 228 = .ok (.aload_n 1, 1) := by decide +kernel
theorem dL_law_229 : decode cL_law 229 = .ok (.iconst 4, 1) := by decide +kernel
theorem dL_law_230 : decode cL_law 230 = .ok (.bipush 45, 2) := by decide +kernel
theorem dL_law_232 : decode cL_law 232 = .ok (.iload 11, 2) := by decide +kernel
theorem dL_law_234 : decode cL_law 234 = .ok (.iadd, 1) := by decide +kernel
theorem dL_law_235 : decode cL_law 235 = .ok (.iconst 0, 1) := by decide +kernel
theorem dL_law_236 : decode cL_law 236 = .ok (.invokestatic 182, 3) := by decide +kernel
theorem dL_law_239 : decode cL_law 239 = .ok (.goto 84, 3) := by decide +kernel
theorem dL_law_242 : decode cL_law 242 = .ok (.iload 8, 2) := by decide +kernel
theorem dL_law_244 : decode cL_law 244 = .ok (.bipush 20, 2) := by decide +kernel
theorem dL_law_246 : decode cL_law 246 = .ok (.if_icmp .ge 15, 3) := by decide +kernel
theorem dL_law_249 : decode cL_law 249 = .ok (.aload_n 1, 1) := by decide +kernel
theorem dL_law_250 : decode cL_law 250 = .ok (.iconst 5, 1) := by decide +kernel
theorem dL_law_251 : decode cL_law 251 = .ok (.iload 10, 2) := by decide +kernel
theorem dL_law_253 : decode cL_law 253 = .ok (.iload 11, 2) := by decide +kernel
theorem dL_law_255 : decode cL_law 255 = .ok (.invokestatic 182, 3) := by decide +kernel
theorem dL_law_258 : decode cL_law 258 = .ok (.goto 65, 3) := by decide +kernel
theorem dL_law_261 : decode cL_law 261 = .ok (.iload 8, 2) := by decide +kernel
theorem dL_law_263 : decode cL_law 263 = .ok (.bipush 23, 2) := by decide +kernel
theorem dL_law_265 : decode cL_law 265 = .ok (.if_icmp .ge 15, 3) := by decide +kernel
theorem dL_law_268 : decode cL_law 268 = .ok (.aload_n 1, 1) := by decide +kernel
theorem dL_law_269 : decode cL_law 269 = .ok (.bipush 6, 2) := by decide +kernel
theorem dL_law_271 : decode cL_law 271 = .ok (.iload 10, 2) := by decide +kernel
theorem dL_law_273 : decode cL_law 273 = .ok (.iconst 0, 1) := by decide +kernel
theorem dL_law_274 : decode cL_law 274 = .ok (.invokestatic 182, 3) := by decide +kernel
theorem dL_law_277 : decode cL_law 277 = .ok (.goto 46, 3) := by decide +kernel
theorem dL_law_280 : decode cL_law 280 = .ok (.iload 8, 2) := by decide +kernel
theorem dL_law_282 : decode cL_law 282 = .ok (.bipush 23, 2) := by decide +kernel
theorem dL_law_284 : decode cL_law 284 = .ok (.if_icmp .ne 15, 3) := by decide +kernel
theorem dL_law_287 : decode cL_law 287 = .ok (.aload_n 1, 1) := by decide +kernel
theorem dL_law_288 : decode cL_law 288 = .ok (.bipush 7, 2) := by decide +kernel
theorem dL_law_290 : decode cL_law 290 = .ok (.iload 10, 2) := by decide +kernel
theorem dL_law_292 : decode cL_law 292 = .ok (.iconst 0, 1) := by decide +kernel
theorem dL_law_293 : decode cL_law 293 = .ok (.invokestatic 182, 3) := by decide +kernel
theorem dL_law_296 : decode cL_law 296 = .ok (.goto 27, 3) := by decide +kernel
theorem dL_law_299 : decode cL_law 299 = .ok (.iload 8, 2) := by decide +kernel
theorem dL_law_301 : decode cL_law 301 = .ok (.bipush 24, 2) := by decide +kernel
theorem dL_law_303 : decode cL_law 303 = .ok (.if_icmp .ne 15, 3) := by decide +kernel
theorem dL_law_306 : decode cL_law 306 = .ok (.aload_n 1, 1) := by decide +kernel
theorem dL_law_307 : decode cL_law 307 = .ok (.bipush 8, 2) := by decide +kernel
theorem dL_law_309 : decode cL_law 309 = .ok (.iload 10, 2) := by decide +kernel
theorem dL_law_311 : decode cL_law 311 = .ok (.iconst 0, 1) := by decide +kernel
theorem dL_law_312 : decode cL_law 312 = .ok (.invokestatic 182, 3) := by decide +kernel
theorem dL_law_315 : decode cL_law 315 = .ok (.goto 8, 3) := by decide +kernel
theorem dL_law_318 : decode cL_law 318 = .ok (.aload_n 1, 1) := by decide +kernel
theorem dL_law_319 : decode cL_law 319 = .ok (.iconst 1, 1) := by decide +kernel
theorem dL_law_320 : decode cL_law 320 = .ok (.invokestatic 189, 3) := by decide +kernel
theorem dL_law_323 : decode cL_law 323 = .ok (.istore 12, 2) := by decide +kernel
theorem dL_law_325 : decode cL_law 325 = .ok (.iload 12, 2) := by decide +kernel
theorem dL_law_327 : decode cL_law 327 = .ok (.sipush (-1999), 3) := by decide +kernel
theorem dL_law_330 : decode cL_law 330 = .ok (.if_icmp .ge 7, 3) := by decide +kernel
theorem dL_law_333 : decode cL_law 333 = .ok (.iconst 1, 1) := by decide +kernel
theorem dL_law_334 : decode cL_law 334 = .ok (.goto 4, 3) := by decide +kernel
theorem dL_law_337 : decode cL_law 337 = .ok (.iconst 0, 1) := by decide +kernel
theorem dL_law_338 : decode cL_law 338 = .ok (.istore 13, 2) := by decide +kernel
theorem dL_law_340 : decode cL_law 340 = .ok (.iload 13, 2) := by decide +kernel
theorem dL_law_342 : decode cL_law 342 = .ok (.ifCond .eq 25, 3) := by decide +kernel
theorem dL_law_345 : decode cL_law 345 = .ok (.aload_n 1, 1) := by decide +kernel
theorem dL_law_346 : decode cL_law 346 = .ok (.invokevirtual 164, 3) := by decide +kernel
theorem dL_law_349 : decode cL_law 349 = .ok (.iload 9, 2) := by decide +kernel
theorem dL_law_351 : decode cL_law 351 = .ok (.if_icmp .ne 14, 3) := by decide +kernel
theorem dL_law_354 : decode cL_law 354 = .ok (.aload_n 1, 1) := by decide +kernel
theorem dL_law_355 : decode cL_law 355 = .ok (.invokestatic 304, 3) := by decide +kernel
theorem dL_law_358 : decode cL_law 358 = .ok (.aload_n 2, 1) := by decide +kernel
theorem dL_law_359 : decode cL_law 359 = .ok (.iload_n 3, 1) := by decide +kernel
theorem dL_law_360 : decode cL_law 360 = .ok (.laload, 1) := by decide +kernel
theorem dL_law_361 : decode cL_law 361 = .ok (.lcmp, 1) := by decide +kernel
theorem dL_law_362 : decode cL_law 362 = .ok (.ifCond .eq 5, 3) := by decide +kernel
theorem dL_law_365 : decode cL_law 365 = .ok (.iconst 0, 1) := by decide +kernel
theorem dL_law_366 : decode cL_law 366 = .ok (.ireturn, 1) := by decide +kernel
theorem dL_law_367 : decode cL_law 367 = .ok (.iload_n 3, 1) := by decide +kernel
theorem dL_law_368 : decode cL_law 368 = .ok (.iload 13, 2) := by decide +kernel
theorem dL_law_370 : decode cL_law 370 = .ok (.ifCond .eq 7, 3) := by decide +kernel
theorem dL_law_373 : decode cL_law 373 = .ok (.iconst 0, 1) := by decide +kernel
theorem dL_law_374 : decode cL_law 374 = .ok (.goto 4, 3) := by decide +kernel
theorem dL_law_377 : decode cL_law 377 = .ok (.iconst 1, 1) := by decide +kernel
theorem dL_law_378 : decode cL_law 378 = .ok (.iadd, 1) := by decide +kernel
theorem dL_law_379 : decode cL_law 379 = .ok (.istore_n 3, 1) := by decide +kernel
theorem dL_law_380 : decode cL_law 380 = .ok (.iinc 6 1, 3) := by decide +kernel
theorem dL_law_383 : decode cL_law 383 = .ok (.goto (-292), 3) := by decide +kernel
theorem dL_law_386 : decode cL_law 386 = .ok (.aload_n 2, 1) := by decide +kernel
theorem dL_law_387 : decode cL_law 387 = .ok (.iload_n 3, 1) := by decide +kernel
theorem dL_law_388 : decode cL_law 388 = .ok (.aload_n 1, 1) := by decide +kernel
theorem dL_law_389 : decode cL_law 389 = .ok (.invokestatic 304, 3) := by decide +kernel
theorem dL_law_392 : decode cL_law 392 = .ok (.lastore, 1) := by decide +kernel
theorem dL_law_393 : decode cL_law 393 = .ok (.aload_n 1, 1) := by decide +kernel
theorem dL_law_394 : decode cL_law 394 = .ok (.invokestatic 215, 3) := by decide +kernel
theorem dL_law_397 : decode cL_law 397 = .ok (.ifCond .ne 5, 3) := by decide +kernel
theorem dL_law_400 : decode cL_law 400 = .ok (.iconst 0, 1) := by decide +kernel
theorem dL_law_401 : decode cL_law 401 = .ok (.ireturn, 1) := by decide +kernel
theorem dL_law_402 : decode cL_law 402 = .ok (.iconst 0, 1) := by decide +kernel
theorem dL_law_403 : decode cL_law 403 = .ok (.istore 6, 2) := by decide +kernel
theorem dL_law_405 : decode cL_law 405 = .ok (.aload_n 1, 1) := by decide +kernel
theorem dL_law_406 : decode cL_law 406 = .ok (.invokevirtual 164, 3) := by decide +kernel
theorem dL_law_409 : decode cL_law 409 = .ok (.ifCond .le 54, 3) := by decide +kernel
theorem dL_law_412 : decode cL_law 412 = .ok (.iload 6, 2) := by decide +kernel
theorem dL_law_414 : decode cL_law 414 = .ok (.iload_n 3, 1) := by decide +kernel
theorem dL_law_415 : decode cL_law 415 = .ok (.if_icmp .ge 48, 3) := by decide +kernel
theorem dL_law_418 : decode cL_law 418 = .ok (.aload_n 1, 1) := by decide +kernel
theorem dL_law_419 : decode cL_law 419 = .ok (.invokevirtual 164, 3) := by decide +kernel
theorem dL_law_422 : decode cL_law 422 = .ok (.istore 7, 2) := by decide +kernel
theorem dL_law_424 : decode cL_law 424 = .ok (.iload 6, 2) := by decide +kernel
theorem dL_law_426 : decode cL_law 426 = .ok (.iconst 5, 1) := by decide +kernel
theorem dL_law_427 : decode cL_law 427 = .ok (.if_icmp .gt 28, 3) := by decide +kernel
theorem dL_law_430 : decode cL_law 430 = .ok (.aload_n 1, 1) := by decide +kernel
theorem dL_law_431 : decode cL_law 431 = .ok (.invokestatic 304, 3) := by decide +kernel
theorem dL_law_434 : decode cL_law 434 = .ok (.aload_n 2, 1) := by decide +kernel
theorem dL_law_435 : decode cL_law 435 = .ok (.iload_n 3, 1) := by decide +kernel
theorem dL_law_436 : decode cL_law 436 = .ok (.iload 6, 2) := by decide +kernel
theorem dL_law_438 : decode cL_law 438 = .ok (.isub, 1) := by decide +kernel
theorem dL_law_439 : decode cL_law 439 = .ok (.laload, 1) := by decide +kernel
theorem dL_law_440 : decode cL_law 440 = .ok (.lcmp, 1) := by decide +kernel
theorem dL_law_441 : decode cL_law 441 = .ok (.ifCond .ne 14, 3) := by decide +kernel
theorem dL_law_444 : decode cL_law 444 = .ok (.aload_n 1, 1) := by decide +kernel
theorem dL_law_445 : decode cL_law 445 = .ok (.invokestatic 201, 3) := by decide +kernel
theorem dL_law_448 : decode cL_law 448 = .ok (.iload 7, 2) := by decide +kernel
theorem dL_law_450 : decode cL_law 450 = .ok (.iconst 1, 1) := by decide +kernel
theorem dL_law_451 : decode cL_law 451 = .ok (.isub, 1) := by decide +kernel
theorem dL_law_452 : decode cL_law 452 = .ok (.if_icmp .eq 5, 3) := by decide +kernel
theorem dL_law_455 : decode cL_law 455 = .ok (.iconst 0, 1) := by decide +kernel
theorem dL_law_456 : decode cL_law 456 = .ok (.ireturn, 1) := by decide +kernel
theorem dL_law_457 : decode cL_law 457 = .ok (.iinc 6 1, 3) := by decide +kernel
theorem dL_law_460 : decode cL_law 460 = .ok (.goto (-55), 3) := by decide +kernel
theorem dL_law_463 : decode cL_law 463 = .ok (.iconst 0, 1) := by decide +kernel
theorem dL_law_464 : decode cL_law 464 = .ok (.istore 6, 2) := by decide +kernel
theorem dL_law_466 : decode cL_law 466 = .ok (.iload 6, 2) := by decide +kernel
theorem dL_law_468 : decode cL_law 468 = .ok (.bipush 6, 2) := by decide +kernel
theorem dL_law_470 : decode cL_law 470 = .ok (.if_icmp .ge 25, 3) := by decide +kernel
theorem dL_law_473 : decode cL_law 473 = .ok (.aload_n 1, 1) := by decide +kernel
theorem dL_law_474 : decode cL_law 474 = .ok (.invokevirtual 164, 3) := by decide +kernel
theorem dL_law_477 : decode cL_law 477 = .ok (.ifCond .le 18, 3) := by decide +kernel
theorem dL_law_480 : decode cL_law 480 = .ok (.aload_n 1, 1) := by decide +kernel
theorem dL_law_481 : decode cL_law 481 = .ok (.invokestatic 201, 3) := by decide +kernel
theorem dL_law_484 : decode cL_law 484 = .ok (.ifCond .ge 5, 3) := by decide +kernel
theorem dL_law_487 : decode cL_law 487 = .ok (.iconst 0, 1) := by decide +kernel
theorem dL_law_488 : decode cL_law 488 = .ok (.ireturn, 1) := by decide +kernel
theorem dL_law_489 : decode cL_law 489 = .ok (.iinc 6 1, 3) := by decide +kernel
theorem dL_law_492 : decode cL_law 492 = .ok (.goto (-26), 3) := by decide +kernel
theorem dL_law_495 : decode cL_law 495 = .ok (.aload_n 1, 1) := by decide +kernel
theorem dL_law_496 : decode cL_law 496 = .ok (.invokestatic 201, 3) := by decide +kernel
theorem dL_law_499 : decode cL_law 499 = .ok (.sipush (-2013), 3) := by decide +kernel
theorem dL_law_502 : decode cL_law 502 = .ok (.if_icmp .ne 33, 3) := by decide +kernel
theorem dL_law_505 : decode cL_law 505 = .ok (.aload_n 1, 1) := by decide +kernel
theorem dL_law_506 : decode cL_law 506 = .ok (.iconst 1, 1) := by decide +kernel
theorem dL_law_507 : decode cL_law 507 = .ok (.invokestatic 189, 3) := by decide +kernel
theorem dL_law_510 : decode cL_law 510 = .ok (.ifCond .ne 25, 3) := by decide +kernel
theorem dL_law_513 : decode cL_law 513 = .ok (.aload_n 1, 1) := by decide +kernel
theorem dL_law_514 : decode cL_law 514 = .ok (.invokestatic 304, 3) := by decide +kernel
theorem dL_law_517 : decode cL_law 517 = .ok (.lload 4, 2) := by decide +kernel
theorem dL_law_519 : decode cL_law 519 = .ok (.lcmp, 1) := by decide +kernel
theorem dL_law_520 : decode cL_law 520 = .ok (.ifCond .ne 15, 3) := by decide +kernel
theorem dL_law_523 : decode cL_law 523 = .ok (.aload_n 1, 1) := by decide +kernel
theorem dL_law_524 : decode cL_law 524 = .ok (.invokevirtual 164, 3) := by decide +kernel
theorem dL_law_527 : decode cL_law 527 = .ok (.iconst 1, 1) := by decide +kernel
theorem dL_law_528 : decode cL_law 528 = .ok (.if_icmp .ne 7, 3) := by decide +kernel
theorem dL_law_531 : decode cL_law 531 = .ok (.iconst 1, 1) := by decide +kernel
theorem dL_law_532 : decode cL_law 532 = .ok (.goto 4, 3) := by decide +kernel
theorem dL_law_535 : decode cL_law 535 = .ok (.iconst 0, 1) := by decide +kernel
theorem dL_law_536 : decode cL_law 536 = .ok (.ireturn, 1) := by decide +kernel
