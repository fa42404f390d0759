theorem dMM_enterAll_7 : decode cMM_enterAll 7 = .ok (.aload_n 0, 1) := by decide +kernel
theorem dMM_enterAll_8 : decode cMM_enterAll 8 = .ok (.getfield 89, 3) := by decide +kernel
theorem dMM_enterAll_11 : decode cMM_enterAll 11 = .ok (.if_icmp .gt 78, 3) := by decide +kernel
theorem dMM_enterAll_14 : decode cMM_enterAll 14 = .ok (.aload_n 0, 1) := by decide +kernel
theorem dMM_enterAll_15 : decode cMM_enterAll 15 = .ok (.invokevirtual 128, 3) := by decide +kernel
theorem dMM_enterAll_18 : decode cMM_enterAll 18 = .ok (.ifCond .ne 71, 3) := by decide +kernel
theorem dMM_enterAll_21 : decode cMM_enterAll 21 = .ok (.aload_n 0, 1) := by decide +kernel
theorem dMM_enterAll_22 : decode cMM_enterAll 22 = .ok (.getfield 86, 3) := by decide +kernel
theorem dMM_enterAll_25 : decode cMM_enterAll 25 = .ok (.iload_n 1, 1) := by decide +kernel
theorem dMM_enterAll_26 : decode cMM_enterAll 26 = .ok (.baload, 1) := by decide +kernel
theorem dMM_enterAll_27 : decode cMM_enterAll 27 = .ok (.ifCond .eq 56, 3) := by decide +kernel
theorem dMM_enterAll_30 : decode cMM_enterAll 30 = .ok (.aload_n 0, 1) := by decide +kernel
theorem dMM_enterAll_31 : decode cMM_enterAll 31 = .ok (.sipush 1000, 3) := by decide +kernel
theorem dMM_enterAll_34 : decode cMM_enterAll 34 = .ok (.iload_n 1, 1) := by decide +kernel
theorem dMM_enterAll_35 : decode cMM_enterAll 35 = .ok (.iadd, 1) := by decide +kernel
theorem dMM_enterAll_36 : decode cMM_enterAll 36 = .ok (.invokevirtual 173, 3) := by decide +kernel
theorem dMM_enterAll_39 : decode cMM_enterAll 39 = .ok (.aload_n 0, 1) := by decide +kernel
theorem dMM_enterAll_40 : decode cMM_enterAll 40 = .ok (.invokevirtual 128, 3) := by decide +kernel
theorem dMM_enterAll_43 : decode cMM_enterAll 43 = .ok (.ifCond .ne 18, 3) := by decide +kernel
theorem dMM_enterAll_46 : decode cMM_enterAll 46 = .ok (.aload_n 0, 1) := by decide +kernel
theorem dMM_enterAll_47 : decode cMM_enterAll 47 = .ok (.getfield 53, 3) := by decide +kernel
theorem dMM_enterAll_50 : decode cMM_enterAll 50 = .ok (.iload_n 1, 1) := by decide +kernel
theorem dMM_enterAll_51 : decode cMM_enterAll 51 = .ok (.iconst 1, 1) := by decide +kernel
theorem dMM_enterAll_52 : decode cMM_enterAll 52 = .ok (.bastore, 1) := by decide +kernel
theorem dMM_enterAll_53 : decode cMM_enterAll 53 = .ok (.aload_n 0, 1) := by decide +kernel
theorem dMM_enterAll_54 : decode cMM_enterAll 54 = .ok (.bipush 100, 2) := by decide +kernel
theorem dMM_enterAll_56 : decode cMM_enterAll 56 = .ok (.iload_n 1, 1) := by decide +kernel
theorem dMM_enterAll_57 : decode cMM_enterAll 57 = .ok (.iadd, 1) := by decide +kernel
theorem dMM_enterAll_58 : decode cMM_enterAll 58 = .ok (.invokevirtual 176, 3) := by decide +kernel
theorem dMM_enterAll_61 : decode cMM_enterAll 61 = .ok (.aload_n 0, 1) := by decide +kernel
theorem dMM_enterAll_62 : decode cMM_enterAll 62 = .ok (.invokevirtual 128, 3) := by decide +kernel
theorem dMM_enterAll_65 : decode cMM_enterAll 65 = .ok (.ifCond .ne 18, 3) := by decide +kernel
theorem dMM_enterAll_68 : decode cMM_enterAll 68 = .ok (.aload_n 0, 1) := by decide +kernel
theorem dMM_enterAll_69 : decode cMM_enterAll 69 = .ok (.getfield 13, 3) := by decide +kernel
theorem dMM_enterAll_72 : decode cMM_enterAll 72 = .ok (.iload_n 1, 1) := by decide +kernel
theorem dMM_enterAll_73 : decode cMM_enterAll 73 = .ok (.iaload, 1) := by decide +kernel
theorem dMM_enterAll_74 : decode cMM_enterAll 74 = .ok (.iconst 3, 1) := by decide +kernel
theorem dMM_enterAll_75 : decode cMM_enterAll 75 = .ok (.if_icmp .ne 8, 3) := by decide +kernel
theorem dMM_enterAll_78 : decode cMM_enterAll 78 = .ok (.aload_n 0, 1) := by decide +kernel
theorem dMM_enterAll_79 : decode cMM_enterAll 79 = .ok (.iload_n 1, 1) := by decide +kernel
theorem dMM_enterAll_80 : decode cMM_enterAll 80 = .ok (.invokevirtual 195, 3) := by decide +kernel
theorem dMM_enterAll_83 : decode cMM_enterAll 83 = .ok (.iinc 1 1, 3) := by decide +kernel
theorem dMM_enterAll_86 : decode cMM_enterAll 86 = .ok (.goto (-80), 3) := by decide +kernel
theorem dMM_enterAll_89 : decode cMM_enterAll 89 = .ok (.aload_n 0, 1) := by decide +kernel
theorem dMM_enterAll_90 : decode cMM_enterAll 90 = .ok (.getfield 185, 3) := by decide +kernel
theorem dMM_enterAll_93 : decode cMM_enterAll 93 = .ok (.ifCond .eq 15, 3) := by decide +kernel
theorem dMM_enterAll_96 : decode cMM_enterAll 96 = .ok (.aload_n 0, 1) := by decide +kernel
theorem dMM_enterAll_97 : decode cMM_enterAll 97 = .ok (.invokevirtual 128, 3) := by decide +kernel
theorem dMM_enterAll_100 : decode cMM_enterAll 100 = .ok (.ifCond .ne 8, 3) := by decide +kernel
theorem dMM_enterAll_103 : decode cMM_enterAll 103 = .ok (.aload_n 0, 1) := by decide +kernel
theorem dMM_enterAll_104 : decode cMM_enterAll 104 = .ok (.iconst 2, 1) := by decide +kernel
theorem dMM_enterAll_105 : decode cMM_enterAll 105 = .ok (.putfield 97, 3) := by decide +kernel
theorem dMM_enterAll_108 : decode cMM_enterAll 108 = .ok (.return_, 1) := by decide +kernel
theorem dMM_none_0 : decode cMM_none 0 = .ok (.iconst 0, 1) := by decide +kernel
theorem dMM_none_1 : decode cMM_none 1 = .ok (.istore_n 1, 1) := by decide +kernel
theorem dMM_none_2 : decode cMM_none 2 = .ok (.iload_n 1, 1) := by decide +kernel
theorem dMM_none_3 : decode cMM_none 3 = .ok (.bipush 15, 2) := by decide +kernel
theorem dMM_none_5 : decode cMM_none 5 = .ok (.if_icmp .gt 16, 3) := by decide +kernel
theorem dMM_none_8 : decode cMM_none 8 = .ok (.aload_n 0, 1) := by decide +kernel
theorem dMM_none_9 : decode cMM_none 9 = .ok (.getfield 86, 3) := by decide +kernel
theorem dMM_none_12 : decode cMM_none 12 = .ok (.iload_n 1, 1) := by decide +kernel
theorem dMM_none_13 : decode cMM_none 13 = .ok (.iconst 0, 1) := by decide +kernel
theorem dMM_none_14 : decode cMM_none 14 = .ok (.bastore, 1) := by decide +kernel
theorem dMM_none_15 : decode cMM_none 15 = .ok (.iinc 1 1, 3) := by decide +kernel
theorem dMM_none_18 : decode cMM_none 18 = .ok (.goto (-16), 3) := by decide +kernel
theorem dMM_none_21 : decode cMM_none 21 = .ok (.return_, 1) := by decide +kernel
theorem dMM_microstep_0 : decode cMM_microstep 0 = .ok (.aload_n 0, 1) := by decide +kernel
theorem dMM_microstep_1 : decode cMM_microstep 1 = .ok (.getfield 198, 3) := by decide +kernel
theorem dMM_microstep_4 : decode cMM_microstep 4 = .ok (.bipush 30, 2) := by decide +kernel
theorem dMM_microstep_6 : decode cMM_microstep 6 = .ok (.if_icmp .ne 9, 3) := by decide +kernel
theorem dMM_microstep_9 : decode cMM_microstep 9 = .ok (.aload_n 0, 1) := by decide +kernel
theorem dMM_microstep_10 : decode cMM_microstep 10 = .ok (.iconst 3, 1) := by decide +kernel
theorem dMM_microstep_11 : decode cMM_microstep 11 = .ok (.putfield 97, 3) := by decide +kernel
theorem dMM_microstep_14 : decode cMM_microstep 14 = .ok (.return_, 1) := by decide +kernel
theorem dMM_microstep_15 : decode cMM_microstep 15 = .ok (.aload_n 0, 1) := by decide +kernel
theorem dMM_microstep_16 : decode cMM_microstep 16 = .ok (.dup, 1) := by decide +kernel
theorem dMM_microstep_17 : decode cMM_microstep 17 = .ok (.getfield 198, 3) := by decide +kernel
theorem dMM_microstep_20 : decode cMM_microstep 20 = .ok (.iconst 1, 1) := by decide +kernel
theorem dMM_microstep_21 : decode cMM_microstep 21 = .ok (.iadd, 1) := by decide +kernel
theorem dMM_microstep_22 : decode cMM_microstep 22 = .ok (.putfield 198, 3) := by decide +kernel
theorem dMM_microstep_25 : decode cMM_microstep 25 = .ok (.aload_n 0, 1) := by decide +kernel
theorem dMM_microstep_26 : decode cMM_microstep 26 = .ok (.invokevirtual 201, 3) := by decide +kernel
theorem dMM_microstep_29 : decode cMM_microstep 29 = .ok (.aload_n 0, 1) := by decide +kernel
theorem dMM_microstep_30 : decode cMM_microstep 30 = .ok (.invokevirtual 204, 3) := by decide +kernel
theorem dMM_microstep_33 : decode cMM_microstep 33 = .ok (.iconst 0, 1) := by decide +kernel
theorem dMM_microstep_34 : decode cMM_microstep 34 = .ok (.istore_n 1, 1) := by decide +kernel
theorem dMM_microstep_35 : decode cMM_microstep 35 = .ok (.iload_n 1, 1) := by decide +kernel
theorem dMM_microstep_36 : decode cMM_microstep 36 = .ok (.aload_n 0, 1) := by decide +kernel
theorem dMM_microstep_37 : decode cMM_microstep 37 = .ok (.getfield 164, 3) := by decide +kernel
theorem dMM_microstep_40 : decode cMM_microstep 40 = .ok (.if_icmp .ge 47, 3) := by decide +kernel
theorem dMM_microstep_43 : decode cMM_microstep 43 = .ok (.aload_n 0, 1) := by decide +kernel
theorem dMM_microstep_44 : decode cMM_microstep 44 = .ok (.invokevirtual 128, 3) := by decide +kernel
theorem dMM_microstep_47 : decode cMM_microstep 47 = .ok (.ifCond .ne 40, 3) := by decide +kernel
theorem dMM_microstep_50 : decode cMM_microstep 50 = .ok (.aload_n 0, 1) := by decide +kernel
theorem dMM_microstep_51 : decode cMM_microstep 51 = .ok (.sipush 3000, 3) := by decide +kernel
theorem dMM_microstep_54 : decode cMM_microstep 54 = .ok (.aload_n 0, 1) := by decide +kernel
theorem dMM_microstep_55 : decode cMM_microstep 55 = .ok (.getfield 80, 3) := by decide +kernel
theorem dMM_microstep_58 : decode cMM_microstep 58 = .ok (.iload_n 1, 1) := by decide +kernel
theorem dMM_microstep_59 : decode cMM_microstep 59 = .ok (.iaload, 1) := by decide +kernel
theorem dMM_microstep_60 : decode cMM_microstep 60 = .ok (.iadd, 1) := by decide +kernel
theorem dMM_microstep_61 : decode cMM_microstep 61 = .ok (.invokevirtual 173, 3) := by decide +kernel
theorem dMM_microstep_64 : decode cMM_microstep 64 = .ok (.aload_n 0, 1) := by decide +kernel
theorem dMM_microstep_65 : decode cMM_microstep 65 = .ok (.invokevirtual 128, 3) := by decide +kernel
theorem dMM_microstep_68 : decode cMM_microstep 68 = .ok (.ifCond .ne 13, 3) := by decide +kernel
theorem dMM_microstep_71 : decode cMM_microstep 71 = .ok (.aload_n 0, 1) := by decide +kernel
theorem dMM_microstep_72 : decode cMM_microstep 72 = .ok (.aload_n 0, 1) := by decide +kernel
theorem dMM_microstep_73 : decode cMM_microstep 73 = .ok (.getfield 80, 3) := by decide +kernel
theorem dMM_microstep_76 : decode cMM_microstep 76 = .ok (.iload_n 1, 1) := by decide +kernel
theorem dMM_microstep_77 : decode cMM_microstep 77 = .ok (.iaload, 1) := by decide +kernel
theorem dMM_microstep_78 : decode cMM_microstep 78 = .ok (.invokevirtual 176, 3) := by decide +kernel
theorem dMM_microstep_81 : decode cMM_microstep 81 = .ok (.iinc 1 1, 3) := by decide +kernel
theorem dMM_microstep_84 : decode cMM_microstep 84 = .ok (.goto (-49), 3) := by decide +kernel
theorem dMM_microstep_87 : decode cMM_microstep 87 = .ok (.aload_n 0, 1) := by decide +kernel
theorem dMM_microstep_88 : decode cMM_microstep 88 = .ok (.invokevirtual 128, 3) := by decide +kernel
theorem dMM_microstep_91 : decode cMM_microstep 91 = .ok (.ifCond .eq 4, 3) := by decide +kernel
theorem dMM_microstep_94 : decode cMM_microstep 94 = .ok (.return_, 1) := by decide +kernel
theorem dMM_microstep_95 : decode cMM_microstep 95 = .ok (.aload_n 0, 1) := by decide +kernel
theorem dMM_microstep_96 : decode cMM_microstep 96 = .ok (.invokevirtual 207, 3) := by decide +kernel
theorem dMM_microstep_99 : decode cMM_microstep 99 = .ok (.iconst 0, 1) := by decide +kernel
theorem dMM_microstep_100 : decode cMM_microstep 100 = .ok (.istore_n 1, 1) := by decide +kernel
theorem dMM_microstep_101 : decode cMM_microstep 101 = .ok (.iload_n 1, 1) := by decide +kernel
theorem dMM_microstep_102 : decode cMM_microstep 102 = .ok (.aload_n 0, 1) := by decide +kernel
theorem dMM_microstep_103 : decode cMM_microstep 103 = .ok (.getfield 164, 3) := by decide +kernel
theorem dMM_microstep_106 : decode cMM_microstep 106 = .ok (.if_icmp .ge 34, 3) := by decide +kernel
theorem dMM_microstep_109 : decode cMM_microstep 109 = .ok (.aload_n 0, 1) := by decide +kernel
theorem dMM_microstep_110 : decode cMM_microstep 110 = .ok (.getfield 25, 3) := by decide +kernel
theorem dMM_microstep_113 : decode cMM_microstep 113 = .ok (.aload_n 0, 1) := by decide +kernel
theorem dMM_microstep_114 : decode cMM_microstep 114 = .ok (.getfield 80, 3) := by decide +kernel
theorem dMM_microstep_117 : decode cMM_microstep 117 = .ok (.iload_n 1, 1) := by decide +kernel
theorem dMM_microstep_118 : decode cMM_microstep 118 = .ok (.iaload, 1) := by decide +kernel
theorem dMM_microstep_119 : decode cMM_microstep 119 = .ok (.iaload, 1) := by decide +kernel
theorem dMM_microstep_120 : decode cMM_microstep 120 = .ok (.iconst (-1), 1) := by decide +kernel
theorem dMM_microstep_121 : decode cMM_microstep 121 = .ok (.if_icmp .eq 13, 3) := by decide +kernel
theorem dMM_microstep_124 : decode cMM_microstep 124 = .ok (.aload_n 0, 1) := by decide +kernel
theorem dMM_microstep_125 : decode cMM_microstep 125 = .ok (.aload_n 0, 1) := by decide +kernel
theorem dMM_microstep_126 : decode cMM_microstep 126 = .ok (.getfield 80, 3) := by decide +kernel
theorem dMM_microstep_129 : decode cMM_microstep 129 = .ok (.iload_n 1, 1) := by decide +kernel
theorem dMM_microstep_130 : decode cMM_microstep 130 = .ok (.iaload, 1) := by decide +kernel
theorem dMM_microstep_131 : decode cMM_microstep 131 = .ok (.invokevirtual 210, 3) := by decide +kernel
theorem dMM_microstep_134 : decode cMM_microstep 134 = .ok (.iinc 1 1, 3) := by decide +kernel
theorem dMM_microstep_137 : decode cMM_microstep 137 = .ok (.goto (-36), 3) := by decide +kernel
theorem dMM_microstep_140 : decode cMM_microstep 140 = .ok (.aload_n 0, 1) := by decide +kernel
theorem dMM_microstep_141 : decode cMM_microstep 141 = .ok (.invokevirtual 213, 3) := by decide +kernel
theorem dMM_microstep_144 : decode cMM_microstep 144 = .ok (.return_, 1) := by decide +kernel
theorem dMM_take_0 : decode cMM_take 0 = .ok (.aload_n 0, 1) := by decide +kernel
theorem dMM_take_1 : decode cMM_take 1 = .ok (.getfield 62, 3) := by decide +kernel
theorem dMM_take_4 : decode cMM_take 4 = .ok (.iconst 0, 1) := by decide +kernel
theorem dMM_take_5 : decode cMM_take 5 = .ok (.iaload, 1) := by decide +kernel
theorem dMM_take_6 : decode cMM_take 6 = .ok (.istore_n 1, 1) := by decide +kernel
theorem dMM_take_7 : decode cMM_take 7 = .ok (.aload_n 0, 1) := by decide +kernel
theorem dMM_take_8 : decode cMM_take 8 = .ok (.dup, 1) := by decide +kernel
theorem dMM_take_9 : decode cMM_take 9 = .ok (.getfield 113, 3) := by decide +kernel
theorem dMM_take_12 : decode cMM_take 12 = .ok (.iconst 1, 1) := by decide +kernel
theorem dMM_take_13 : decode cMM_take 13 = .ok (.isub, 1) := by decide +kernel
theorem dMM_take_14 : decode cMM_take 14 = .ok (.putfield 113, 3) := by decide +kernel
theorem dMM_take_17 : decode cMM_take 17 = .ok (.iconst 0, 1) := by decide +kernel
theorem dMM_take_18 : decode cMM_take 18 = .ok (.istore_n 2, 1) := by decide +kernel
theorem dMM_take_19 : decode cMM_take 19 = .ok (.iload_n 2, 1) := by decide +kernel
theorem dMM_take_20 : decode cMM_take 20 = .ok (.aload_n 0, 1) := by decide +kernel
theorem dMM_take_21 : decode cMM_take 21 = .ok (.getfield 113, 3) := by decide +kernel
theorem dMM_take_24 : decode cMM_take 24 = .ok (.if_icmp .ge 23, 3) := by decide +kernel
theorem dMM_take_27 : decode cMM_take 27 = .ok (.aload_n 0, 1) := by decide +kernel
theorem dMM_take_28 : decode cMM_take 28 = .ok (.getfield 62, 3) := by decide +kernel
theorem dMM_take_31 : decode cMM_take 31 = .ok (.iload_n 2, 1) := by decide +kernel
theorem dMM_take_32 : decode cMM_take 32 = .ok (.aload_n 0, 1) := by decide +kernel
theorem dMM_take_33 : decode cMM_take 33 = .ok (.getfield 62, 3) := by decide +kernel
theorem dMM_take_36 : decode cMM_take 36 = .ok (.iload_n 2, 1) := by decide +kernel
theorem dMM_take_37 : decode cMM_take 37 = .ok (.iconst 1, 1) := by decide +kernel
theorem dMM_take_38 : decode cMM_take 38 = .ok (.iadd, 1) := by decide +kernel
theorem dMM_take_39 : decode cMM_take 39 = .ok (.iaload, 1) := by decide +kernel
theorem dMM_take_40 : decode cMM_take 40 = .ok (.iastore, 1) := by decide +kernel
theorem dMM_take_41 : decode cMM_take 41 = .ok (.iinc 2 1, 3) := by decide +kernel
theorem dMM_take_44 : decode cMM_take 44 = .ok (.goto (-25), 3) := by decide +kernel
theorem dMM_take_47 : decode cMM_take 47 = .ok (.iload_n 1, 1) := by decide +kernel
theorem dMM_take_48 : decode cMM_take 48 = .ok (.ireturn, 1) := by decide +kernel
theorem dMM_macrostep_0 : decode cMM_macrostep 0 = .ok (.iconst 1, 1) := by decide +kernel
theorem dMM_macrostep_1 : decode cMM_macrostep 1 = .ok (.istore_n 1, 1) := by decide +kernel
theorem dMM_macrostep_2 : decode cMM_macrostep 2 = .ok (.iload_n 1, 1) := by decide +kernel
theorem dMM_macrostep_3 : decode cMM_macrostep 3 = .ok (.ifCond .eq 67, 3) := by decide +kernel
theorem dMM_macrostep_6 : decode cMM_macrostep 6 = .ok (.aload_n 0, 1) := by decide +kernel
theorem dMM_macrostep_7 : decode cMM_macrostep 7 = .ok (.getfield 97, 3) := by decide +kernel
theorem dMM_macrostep_10 : decode cMM_macrostep 10 = .ok (.iconst 1, 1) := by decide +kernel
theorem dMM_macrostep_11 : decode cMM_macrostep 11 = .ok (.if_icmp .ne 59, 3) := by decide +kernel
theorem dMM_macrostep_14 : decode cMM_macrostep 14 = .ok (.aload_n 0, 1) := by decide +kernel
theorem dMM_macrostep_15 : decode cMM_macrostep 15 = .ok (.iconst 0, 1) := by decide +kernel
theorem dMM_macrostep_16 : decode cMM_macrostep 16 = .ok (.invokevirtual 216, 3) := by decide +kernel
theorem dMM_macrostep_19 : decode cMM_macrostep 19 = .ok (.aload_n 0, 1) := by decide +kernel
theorem dMM_macrostep_20 : decode cMM_macrostep 20 = .ok (.getfield 143, 3) := by decide +kernel
theorem dMM_macrostep_23 : decode cMM_macrostep 23 = .ok (.ifCond .ne 23, 3) := by decide +kernel
theorem dMM_macrostep_26 : decode cMM_macrostep 26 = .ok (.aload_n 0, 1) := by decide +kernel
theorem dMM_macrostep_27 : decode cMM_macrostep 27 = .ok (.getfield 113, 3) := by decide +kernel
theorem dMM_macrostep_30 : decode cMM_macrostep 30 = .ok (.ifCond .le 16, 3) := by decide +kernel
theorem dMM_macrostep_33 : decode cMM_macrostep 33 = .ok (.aload_n 0, 1) := by decide +kernel
theorem dMM_macrostep_34 : decode cMM_macrostep 34 = .ok (.invokevirtual 219, 3) := by decide +kernel
theorem dMM_macrostep_37 : decode cMM_macrostep 37 = .ok (.istore_n 2, 1) := by decide +kernel
theorem dMM_macrostep_38 : decode cMM_macrostep 38 = .ok (.aload_n 0, 1) := by decide +kernel
theorem dMM_macrostep_39 : decode cMM_macrostep 39 = .ok (.iload_n 2, 1) := by decide +kernel
theorem dMM_macrostep_40 : decode cMM_macrostep 40 = .ok (.invokevirtual 216, 3) := by decide +kernel
theorem dMM_macrostep_43 : decode cMM_macrostep 43 = .ok (.goto (-24), 3) := by decide +kernel
theorem dMM_macrostep_46 : decode cMM_macrostep 46 = .ok (.aload_n 0, 1) := by decide +kernel
theorem dMM_macrostep_47 : decode cMM_macrostep 47 = .ok (.getfield 143, 3) := by decide +kernel
theorem dMM_macrostep_50 : decode cMM_macrostep 50 = .ok (.ifCond .le 7, 3) := by decide +kernel
theorem dMM_macrostep_53 : decode cMM_macrostep 53 = .ok (.iconst 1, 1) := by decide +kernel
theorem dMM_macrostep_54 : decode cMM_macrostep 54 = .ok (.goto 4, 3) := by decide +kernel
theorem dMM_macrostep_57 : decode cMM_macrostep 57 = .ok (.iconst 0, 1) := by decide +kernel
theorem dMM_macrostep_58 : decode cMM_macrostep 58 = .ok (.istore_n 1, 1) := by decide +kernel
theorem dMM_macrostep_59 : decode cMM_macrostep 59 = .ok (.iload_n 1, 1) := by decide +kernel
theorem dMM_macrostep_60 : decode cMM_macrostep 60 = .ok (.ifCond .eq (-58), 3) := by decide +kernel
theorem dMM_macrostep_63 : decode cMM_macrostep 63 = .ok (.aload_n 0, 1) := by decide +kernel
theorem dMM_macrostep_64 : decode cMM_macrostep 64 = .ok (.invokevirtual 223, 3) := by decide +kernel
theorem dMM_macrostep_67 : decode cMM_macrostep 67 = .ok (.goto (-65), 3) := by decide +kernel
theorem dMM_macrostep_70 : decode cMM_macrostep 70 = .ok (.return_, 1) := by decide +kernel
theorem dMM_ill_0 : decode cMM_ill 0 = .ok (.aload_n 0, 1) := by decide +kernel
theorem dMM_ill_1 : decode cMM_ill 1 = .ok (.iconst 0, 1) := by decide +kernel
theorem dMM_ill_2 : decode cMM_ill 2 = .ok (.iconst 0, 1) := by decide +kernel
theorem dMM_ill_3 : decode cMM_ill 3 = .ok (.invokevirtual 93, 3) := by decide +kernel
theorem dMM_ill_6 : decode cMM_ill 6 = .ok (.ifCond .ne 7, 3) := by decide +kernel
theorem dMM_ill_9 : decode cMM_ill 9 = .ok (.iconst 1, 1) := by decide +kernel
theorem dMM_ill_10 : decode cMM_ill 10 = .ok (.goto 4, 3) := by decide +kernel
theorem dMM_ill_13 : decode cMM_ill 13 = .ok (.iconst 0, 1) := by decide +kernel
theorem dMM_ill_14 : decode cMM_ill 14 = .ok (.istore_n 1, 1) := by decide +kernel
theorem dMM_ill_15 : decode cMM_ill 15 = .ok (.iconst 1, 1) := by decide +kernel
theorem dMM_ill_16 : decode cMM_ill 16 = .ok (.istore_n 2, 1) := by decide +kernel
theorem dMM_ill_17 : decode cMM_ill 17 = .ok (.iload_n 2, 1) := by decide +kernel
theorem dMM_ill_18 : decode cMM_ill 18 = .ok (.aload_n 0, 1) := by decide +kernel
theorem dMM_ill_19 : decode cMM_ill 19 = .ok (.getfield 89, 3) := by decide +kernel
theorem dMM_ill_22 : decode cMM_ill 22 = .ok (.if_icmp .gt 59, 3) := by decide +kernel
theorem dMM_ill_25 : decode cMM_ill 25 = .ok (.aload_n 0, 1) := by decide +kernel
theorem dMM_ill_26 : decode cMM_ill 26 = .ok (.iload_n 2, 1) := by decide +kernel
theorem dMM_ill_27 : decode cMM_ill 27 = .ok (.iconst 0, 1) := by decide +kernel
theorem dMM_ill_28 : decode cMM_ill 28 = .ok (.invokevirtual 93, 3) := by decide +kernel
theorem dMM_ill_31 : decode cMM_ill 31 = .ok (.istore_n 3, 1) := by decide +kernel
theorem dMM_ill_32 : decode cMM_ill 32 = .ok (.iload_n 1, 1) := by decide +kernel
theorem dMM_ill_33 : decode cMM_ill 33 = .ok (.ifCond .ne 36, 3) := by decide +kernel
theorem dMM_ill_36 : decode cMM_ill 36 = .ok (.iload_n 3, 1) := by decide +kernel
theorem dMM_ill_37 : decode cMM_ill 37 = .ok (.ifCond .ne 36, 3) := by decide +kernel
theorem dMM_ill_40 : decode cMM_ill 40 = .ok (.aload_n 0, 1) := by decide +kernel
theorem dMM_ill_41 : decode cMM_ill 41 = .ok (.getfield 13, 3) := by decide +kernel
theorem dMM_ill_44 : decode cMM_ill 44 = .ok (.iload_n 2, 1) := by decide +kernel
theorem dMM_ill_45 : decode cMM_ill 45 = .ok (.iaload, 1) := by decide +kernel
theorem dMM_ill_46 : decode cMM_ill 46 = .ok (.iconst 2, 1) := by decide +kernel
theorem dMM_ill_47 : decode cMM_ill 47 = .ok (.if_icmp .eq 22, 3) := by decide +kernel
theorem dMM_ill_50 : decode cMM_ill 50 = .ok (.aload_n 0, 1) := by decide +kernel
theorem dMM_ill_51 : decode cMM_ill 51 = .ok (.getfield 13, 3) := by decide +kernel
theorem dMM_ill_54 : decode cMM_ill 54 = .ok (.iload_n 2, 1) := by decide +kernel
theorem dMM_ill_55 : decode cMM_ill 55 = .ok (.iaload, 1) := by decide +kernel
theorem dMM_ill_56 : decode cMM_ill 56 = .ok (.iconst 1, 1) := by decide +kernel
theorem dMM_ill_57 : decode cMM_ill 57 = .ok (.if_icmp .ne 16, 3) := by decide +kernel
theorem dMM_ill_60 : decode cMM_ill 60 = .ok (.aload_n 0, 1) := by decide +kernel
theorem dMM_ill_61 : decode cMM_ill 61 = .ok (.iload_n 2, 1) := by decide +kernel
theorem dMM_ill_62 : decode cMM_ill 62 = .ok (.iconst 1, 1) := by decide +kernel
theorem dMM_ill_63 : decode cMM_ill 63 = .ok (.invokevirtual 93, 3) := by decide +kernel
theorem dMM_ill_66 : decode cMM_ill 66 = .ok (.ifCond .eq 7, 3) := by decide +kernel
theorem dMM_ill_69 : decode cMM_ill 69 = .ok (.iconst 1, 1) := by decide +kernel
theorem dMM_ill_70 : decode cMM_ill 70 = .ok (.goto 4, 3) := by decide +kernel
theorem dMM_ill_73 : decode cMM_ill 73 = .ok (.iconst 0, 1) := by decide +kernel
theorem dMM_ill_74 : decode cMM_ill 74 = .ok (.istore_n 1, 1) := by decide +kernel
theorem dMM_ill_75 : decode cMM_ill 75 = .ok (.iinc 2 1, 3) := by decide +kernel
theorem dMM_ill_78 : decode cMM_ill 78 = .ok (.goto (-61), 3) := by decide +kernel
theorem dMM_ill_81 : decode cMM_ill 81 = .ok (.iload_n 1, 1) := by decide +kernel
theorem dMM_ill_82 : decode cMM_ill 82 = .ok (.ireturn, 1) := by decide +kernel
theorem dMM_begin_0 : decode cMM_begin 0 = .ok (.aload_n 0, 1) := by decide +kernel
theorem dMM_begin_1 : decode cMM_begin 1 = .ok (.getfield 97, 3) := by decide +kernel
theorem dMM_begin_4 : decode cMM_begin 4 = .ok (.ifCond .eq 5, 3) := by decide +kernel
theorem dMM_begin_7 : decode cMM_begin 7 = .ok (.iconst (-1), 1) := by decide +kernel
theorem dMM_begin_8 : decode cMM_begin 8 = .ok (.ireturn, 1) := by decide +kernel
theorem dMM_begin_9 : decode cMM_begin 9 = .ok (.aload_n 0, 1) := by decide +kernel
theorem dMM_begin_10 : decode cMM_begin 10 = .ok (.invokevirtual 226, 3) := by decide +kernel
theorem dMM_begin_13 : decode cMM_begin 13 = .ok (.ifCond .eq 6, 3) := by decide +kernel
theorem dMM_begin_16 : decode cMM_begin 16 = .ok (.bipush (-3), 2) := by decide +kernel
theorem dMM_begin_18 : decode cMM_begin 18 = .ok (.ireturn, 1) := by decide +kernel
theorem dMM_begin_19 : decode cMM_begin 19 = .ok (.iconst 0, 1) := by decide +kernel
theorem dMM_begin_20 : decode cMM_begin 20 = .ok (.istore_n 1, 1) := by decide +kernel
theorem dMM_begin_21 : decode cMM_begin 21 = .ok (.iload_n 1, 1) := by decide +kernel
theorem dMM_begin_22 : decode cMM_begin 22 = .ok (.bipush 16, 2) := by decide +kernel
theorem dMM_begin_24 : decode cMM_begin 24 = .ok (.if_icmp .ge 23, 3) := by decide +kernel
theorem dMM_begin_27 : decode cMM_begin 27 = .ok (.aload_n 0, 1) := by decide +kernel
theorem dMM_begin_28 : decode cMM_begin 28 = .ok (.getfield 53, 3) := by decide +kernel
theorem dMM_begin_31 : decode cMM_begin 31 = .ok (.iload_n 1, 1) := by decide +kernel
theorem dMM_begin_32 : decode cMM_begin 32 = .ok (.iconst 0, 1) := by decide +kernel
theorem dMM_begin_33 : decode cMM_begin 33 = .ok (.bastore, 1) := by decide +kernel
theorem dMM_begin_34 : decode cMM_begin 34 = .ok (.aload_n 0, 1) := by decide +kernel
theorem dMM_begin_35 : decode cMM_begin 35 = .ok (.getfield 56, 3) := by decide +kernel
theorem dMM_begin_38 : decode cMM_begin 38 = .ok (.iload_n 1, 1) := by decide +kernel
theorem dMM_begin_39 : decode cMM_begin 39 = .ok (.iconst 0, 1) := by decide +kernel
theorem dMM_begin_40 : decode cMM_begin 40 = .ok (.iastore, 1) := by decide +kernel
theorem dMM_begin_41 : decode cMM_begin 41 = .ok (.iinc 1 1, 3) := by decide +kernel
theorem dMM_begin_44 : decode cMM_begin 44 = .ok (.goto (-23), 3) := by decide +kernel
theorem dMM_begin_47 : decode cMM_begin 47 = .ok (.iconst 0, 1) := by decide +kernel
theorem dMM_begin_48 : decode cMM_begin 48 = .ok (.istore_n 1, 1) := by decide +kernel
theorem dMM_begin_49 : decode cMM_begin 49 = .ok (.iload_n 1, 1) := by decide +kernel
theorem dMM_begin_50 : decode cMM_begin 50 = .ok (.iconst 4, 1) := by decide +kernel
theorem dMM_begin_51 : decode cMM_begin 51 = .ok (.if_icmp .ge 16, 3) := by decide +kernel
theorem dMM_begin_54 : decode cMM_begin 54 = .ok (.aload_n 0, 1) := by decide +kernel
theorem dMM_begin_55 : decode cMM_begin 55 = .ok (.getfield 59, 3) := by decide +kernel
theorem dMM_begin_58 : decode cMM_begin 58 = .ok (.iload_n 1, 1) := by decide +kernel
theorem dMM_begin_59 : decode cMM_begin 59 = .ok (.iconst 0, 1) := by decide +kernel
theorem dMM_begin_60 : decode cMM_begin 60 = .ok (.iastore, 1) := by decide +kernel
theorem dMM_begin_61 : decode cMM_begin 61 = .ok (.iinc 1 1, 3) := by decide +kernel
theorem dMM_begin_64 : decode cMM_begin 64 = .ok (.goto (-15), 3) := by decide +kernel
theorem dMM_begin_67 : decode cMM_begin 67 = .ok (.aload_n 0, 1) := by decide +kernel
theorem dMM_begin_68 : decode cMM_begin 68 = .ok (.iconst 0, 1) := by decide +kernel
theorem dMM_begin_69 : decode cMM_begin 69 = .ok (.putfield 113, 3) := by decide +kernel
theorem dMM_begin_72 : decode cMM_begin 72 = .ok (.aload_n 0, 1) := by decide +kernel
theorem dMM_begin_73 : decode cMM_begin 73 = .ok (.iconst 0, 1) := by decide +kernel
theorem dMM_begin_74 : decode cMM_begin 74 = .ok (.putfield 116, 3) := by decide +kernel
theorem dMM_begin_77 : decode cMM_begin 77 = .ok (.aload_n 0, 1) := by decide +kernel
theorem dMM_begin_78 : decode cMM_begin 78 = .ok (.iconst 0, 1) := by decide +kernel
theorem dMM_begin_79 : decode cMM_begin 79 = .ok (.putfield 122, 3) := by decide +kernel
theorem dMM_begin_82 : decode cMM_begin 82 = .ok (.aload_n 0, 1) := by decide +kernel
theorem dMM_begin_83 : decode cMM_begin 83 = .ok (.iconst 0, 1) := by decide +kernel
theorem dMM_begin_84 : decode cMM_begin 84 = .ok (.putfield 125, 3) := by decide +kernel
theorem dMM_begin_87 : decode cMM_begin 87 = .ok (.aload_n 0, 1) := by decide +kernel
theorem dMM_begin_88 : decode cMM_begin 88 = .ok (.iconst 0, 1) := by decide +kernel
theorem dMM_begin_89 : decode cMM_begin 89 = .ok (.putfield 110, 3) := by decide +kernel
theorem dMM_begin_92 : decode cMM_begin 92 = .ok (.aload_n 0, 1) := by decide +kernel
theorem dMM_begin_93 : decode cMM_begin 93 = .ok (.iconst 0, 1) := by decide +kernel
theorem dMM_begin_94 : decode cMM_begin 94 = .ok (.putfield 198, 3) := by decide +kernel
theorem dMM_begin_97 : decode cMM_begin 97 = .ok (.aload_n 0, 1) := by decide +kernel
theorem dMM_begin_98 : decode cMM_begin 98 = .ok (.iconst 0, 1) := by decide +kernel
theorem dMM_begin_99 : decode cMM_begin 99 = .ok (.putfield 185, 3) := by decide +kernel
theorem dMM_begin_102 : decode cMM_begin 102 = .ok (.aload_n 0, 1) := by decide +kernel
theorem dMM_begin_103 : decode cMM_begin 103 = .ok (.iconst 1, 1) := by decide +kernel
theorem dMM_begin_104 : decode cMM_begin 104 = .ok (.putfield 97, 3) := by decide +kernel
theorem dMM_begin_107 : decode cMM_begin 107 = .ok (.aload_n 0, 1) := by decide +kernel
theorem dMM_begin_108 : decode cMM_begin 108 = .ok (.invokevirtual 207, 3) := by decide +kernel
theorem dMM_begin_111 : decode cMM_begin 111 = .ok (.aload_n 0, 1) := by decide +kernel
theorem dMM_begin_112 : decode cMM_begin 112 = .ok (.iconst 0, 1) := by decide +kernel
theorem dMM_begin_113 : decode cMM_begin 113 = .ok (.invokevirtual 182, 3) := by decide +kernel
theorem dMM_begin_116 : decode cMM_begin 116 = .ok (.istore_n 1, 1) := by decide +kernel
theorem dMM_begin_117 : decode cMM_begin 117 = .ok (.aload_n 0, 1) := by decide +kernel
theorem dMM_begin_118 : decode cMM_begin 118 = .ok (.iload_n 1, 1) := by decide +kernel
theorem dMM_begin_119 : decode cMM_begin 119 = .ok (.iconst 0, 1) := by decide +kernel
theorem dMM_begin_120 : decode cMM_begin 120 = .ok (.invokevirtual 179, 3) := by decide +kernel
theorem dMM_begin_123 : decode cMM_begin 123 = .ok (.aload_n 0, 1) := by decide +kernel
theorem dMM_begin_124 : decode cMM_begin 124 = .ok (.invokevirtual 213, 3) := by decide +kernel
theorem dMM_begin_127 : decode cMM_begin 127 = .ok (.aload_n 0, 1) := by decide +kernel
theorem dMM_begin_128 : decode cMM_begin 128 = .ok (.invokevirtual 229, 3) := by decide +kernel
theorem dMM_begin_131 : decode cMM_begin 131 = .ok (.aload_n 0, 1) := by decide +kernel
theorem dMM_begin_132 : decode cMM_begin 132 = .ok (.getfield 198, 3) := by decide +kernel
theorem dMM_begin_135 : decode cMM_begin 135 = .ok (.ireturn, 1) := by decide +kernel
theorem dMM_post_0 : decode cMM_post 0 = .ok (.aload_n 0, 1) := by decide +kernel
theorem dMM_post_1 : decode cMM_post 1 = .ok (.getfield 97, 3) := by decide +kernel
theorem dMM_post_4 : decode cMM_post 4 = .ok (.iconst 1, 1) := by decide +kernel
theorem dMM_post_5 : decode cMM_post 5 = .ok (.if_icmp .ne 26, 3) := by decide +kernel
theorem dMM_post_8 : decode cMM_post 8 = .ok (.iload_n 1, 1) := by decide +kernel
theorem dMM_post_9 : decode cMM_post 9 = .ok (.iconst 1, 1) := by decide +kernel
theorem dMM_post_10 : decode cMM_post 10 = .ok (.if_icmp .lt 21, 3) := by decide +kernel
theorem dMM_post_13 : decode cMM_post 13 = .ok (.iload_n 1, 1) := by decide +kernel
theorem dMM_post_14 : decode cMM_post 14 = .ok (.bipush 20, 2) := by decide +kernel
theorem dMM_post_16 : decode cMM_post 16 = .ok (.if_icmp .gt 15, 3) := by decide +kernel
theorem dMM_post_19 : decode cMM_post 19 = .ok (.aload_n 0, 1) := by decide +kernel
theorem dMM_post_20 : decode cMM_post 20 = .ok (.iload_n 1, 1) := by decide +kernel
theorem dMM_post_21 : decode cMM_post 21 = .ok (.invokevirtual 119, 3) := by decide +kernel
theorem dMM_post_24 : decode cMM_post 24 = .ok (.ifCond .eq 7, 3) := by decide +kernel
theorem dMM_post_27 : decode cMM_post 27 = .ok (.iconst 1, 1) := by decide +kernel
theorem dMM_post_28 : decode cMM_post 28 = .ok (.goto 4, 3) := by decide +kernel
theorem dMM_post_31 : decode cMM_post 31 = .ok (.iconst 0, 1) := by decide +kernel
theorem dMM_post_32 : decode cMM_post 32 = .ok (.ireturn, 1) := by decide +kernel
theorem dMM_step_0 : decode cMM_step 0 = .ok (.aload_n 0, 1) := by decide +kernel
theorem dMM_step_1 : decode cMM_step 1 = .ok (.getfield 97, 3) := by decide +kernel
theorem dMM_step_4 : decode cMM_step 4 = .ok (.iconst 1, 1) := by decide +kernel
theorem dMM_step_5 : decode cMM_step 5 = .ok (.if_icmp .eq 5, 3) := by decide +kernel
theorem dMM_step_8 : decode cMM_step 8 = .ok (.iconst (-1), 1) := by decide +kernel
theorem dMM_step_9 : decode cMM_step 9 = .ok (.ireturn, 1) := by decide +kernel
theorem dMM_step_10 : decode cMM_step 10 = .ok (.aload_n 0, 1) := by decide +kernel
theorem dMM_step_11 : decode cMM_step 11 = .ok (.getfield 116, 3) := by decide +kernel
theorem dMM_step_14 : decode cMM_step 14 = .ok (.ifCond .ne 6, 3) := by decide +kernel
theorem dMM_step_17 : decode cMM_step 17 = .ok (.bipush (-4), 2) := by decide +kernel
theorem dMM_step_19 : decode cMM_step 19 = .ok (.ireturn, 1) := by decide +kernel
theorem dMM_step_20 : decode cMM_step 20 = .ok (.aload_n 0, 1) := by decide +kernel
theorem dMM_step_21 : decode cMM_step 21 = .ok (.getfield 65, 3) := by decide +kernel
theorem dMM_step_24 : decode cMM_step 24 = .ok (.iconst 0, 1) := by decide +kernel
theorem dMM_step_25 : decode cMM_step 25 = .ok (.iaload, 1) := by decide +kernel
theorem dMM_step_26 : decode cMM_step 26 = .ok (.istore_n 1, 1) := by decide +kernel
theorem dMM_step_27 : decode cMM_step 27 = .ok (.aload_n 0, 1) := by decide +kernel
theorem dMM_step_28 : decode cMM_step 28 = .ok (.dup, 1) := by decide +kernel
theorem dMM_step_29 : decode cMM_step 29 = .ok (.getfield 116, 3) := by decide +kernel
theorem dMM_step_32 : decode cMM_step 32 = .ok (.iconst 1, 1) := by decide +kernel
theorem dMM_step_33 : decode cMM_step 33 = .ok (.isub, 1) := by decide +kernel
theorem dMM_step_34 : decode cMM_step 34 = .ok (.putfield 116, 3) := by decide +kernel
theorem dMM_step_37 : decode cMM_step 37 = .ok (.iconst 0, 1) := by decide +kernel
theorem dMM_step_38 : decode cMM_step 38 = .ok (.istore_n 2, 1) := by decide +kernel
theorem dMM_step_39 : decode cMM_step 39 = .ok (.iload_n 2, 1) := by decide +kernel
theorem dMM_step_40 : decode cMM_step 40 = .ok (.aload_n 0, 1) := by decide +kernel
theorem dMM_step_41 : decode cMM_step 41 = .ok (.getfield 116, 3) := by decide +kernel
theorem dMM_step_44 : decode cMM_step 44 = .ok (.if_icmp .ge 23, 3) := by decide +kernel
theorem dMM_step_47 : decode cMM_step 47 = .ok (.aload_n 0, 1) := by decide +kernel
theorem dMM_step_48 : decode cMM_step 48 = .ok (.getfield 65, 3) := by decide +kernel
theorem dMM_step_51 : decode cMM_step 51 = .ok (.iload_n 2, 1) := by decide +kernel
theorem dMM_step_52 : decode cMM_step 52 = .ok (.aload_n 0, 1) := by decide +kernel
theorem dMM_step_53 : decode cMM_step 53 = .ok (.getfield 65, 3) := by decide +kernel
theorem dMM_step_56 : decode cMM_step 56 = .ok (.iload_n 2, 1) := by decide +kernel
theorem dMM_step_57 : decode cMM_step 57 = .ok (.iconst 1, 1) := by decide +kernel
theorem dMM_step_58 : decode cMM_step 58 = .ok (.iadd, 1) := by decide +kernel
theorem dMM_step_59 : decode cMM_step 59 = .ok (.iaload, 1) := by decide +kernel
theorem dMM_step_60 : decode cMM_step 60 = .ok (.iastore, 1) := by decide +kernel
theorem dMM_step_61 : decode cMM_step 61 = .ok (.iinc 2 1, 3) := by decide +kernel
theorem dMM_step_64 : decode cMM_step 64 = .ok (.goto (-25), 3) := by decide +kernel
theorem dMM_step_67 : decode cMM_step 67 = .ok (.aload_n 0, 1) := by decide +kernel
theorem dMM_step_68 : decode cMM_step 68 = .ok (.iconst 0, 1) := by decide +kernel
theorem dMM_step_69 : decode cMM_step 69 = .ok (.putfield 110, 3) := by decide +kernel
theorem dMM_step_72 : decode cMM_step 72 = .ok (.aload_n 0, 1) := by decide +kernel
theorem dMM_step_73 : decode cMM_step 73 = .ok (.iconst 0, 1) := by decide +kernel
theorem dMM_step_74 : decode cMM_step 74 = .ok (.putfield 198, 3) := by decide +kernel
theorem dMM_step_77 : decode cMM_step 77 = .ok (.aload_n 0, 1) := by decide +kernel
theorem dMM_step_78 : decode cMM_step 78 = .ok (.iload_n 1, 1) := by decide +kernel
theorem dMM_step_79 : decode cMM_step 79 = .ok (.invokevirtual 216, 3) := by decide +kernel
theorem dMM_step_82 : decode cMM_step 82 = .ok (.aload_n 0, 1) := by decide +kernel
theorem dMM_step_83 : decode cMM_step 83 = .ok (.getfield 143, 3) := by decide +kernel
theorem dMM_step_86 : decode cMM_step 86 = .ok (.ifCond .le 7, 3) := by decide +kernel
theorem dMM_step_89 : decode cMM_step 89 = .ok (.aload_n 0, 1) := by decide +kernel
theorem dMM_step_90 : decode cMM_step 90 = .ok (.invokevirtual 223, 3) := by decide +kernel
theorem dMM_step_93 : decode cMM_step 93 = .ok (.aload_n 0, 1) := by decide +kernel
theorem dMM_step_94 : decode cMM_step 94 = .ok (.invokevirtual 229, 3) := by decide +kernel
theorem dMM_step_97 : decode cMM_step 97 = .ok (.aload_n 0, 1) := by decide +kernel
theorem dMM_step_98 : decode cMM_step 98 = .ok (.getfield 198, 3) := by decide +kernel
theorem dMM_step_101 : decode cMM_step 101 = .ok (.ireturn, 1) := by decide +kernel
theorem dMM_tick_0 : decode cMM_tick 0 = .ok (.aload_n 0, 1) := by decide +kernel
theorem dMM_tick_1 : decode cMM_tick 1 = .ok (.getfield 97, 3) := by decide +kernel
theorem dMM_tick_4 : decode cMM_tick 4 = .ok (.iconst 1, 1) := by decide +kernel
theorem dMM_tick_5 : decode cMM_tick 5 = .ok (.if_icmp .ne 14, 3) := by decide +kernel
theorem dMM_tick_8 : decode cMM_tick 8 = .ok (.iload_n 1, 1) := by decide +kernel
theorem dMM_tick_9 : decode cMM_tick 9 = .ok (.iconst 1, 1) := by decide +kernel
theorem dMM_tick_10 : decode cMM_tick 10 = .ok (.if_icmp .lt 9, 3) := by decide +kernel
theorem dMM_tick_13 : decode cMM_tick 13 = .ok (.iload_n 1, 1) := by decide +kernel
theorem dMM_tick_14 : decode cMM_tick 14 = .ok (.bipush 50, 2) := by decide +kernel
theorem dMM_tick_16 : decode cMM_tick 16 = .ok (.if_icmp .le 5, 3) := by decide +kernel
theorem dMM_tick_19 : decode cMM_tick 19 = .ok (.iconst (-1), 1) := by decide +kernel
theorem dMM_tick_20 : decode cMM_tick 20 = .ok (.ireturn, 1) := by decide +kernel
theorem dMM_tick_21 : decode cMM_tick 21 = .ok (.aload_n 0, 1) := by decide +kernel
theorem dMM_tick_22 : decode cMM_tick 22 = .ok (.dup, 1) := by decide +kernel
theorem dMM_tick_23 : decode cMM_tick 23 = .ok (.getfield 125, 3) := by decide +kernel
theorem dMM_tick_26 : decode cMM_tick 26 = .ok (.iload_n 1, 1) := by decide +kernel
theorem dMM_tick_27 : decode cMM_tick 27 = .ok (.iadd, 1) := by decide +kernel
theorem dMM_tick_28 : decode cMM_tick 28 = .ok (.putfield 125, 3) := by decide +kernel
theorem dMM_tick_31 : decode cMM_tick 31 = .ok (.iconst 1, 1) := by decide +kernel
theorem dMM_tick_32 : decode cMM_tick 32 = .ok (.istore_n 2, 1) := by decide +kernel
theorem dMM_tick_33 : decode cMM_tick 33 = .ok (.iload_n 2, 1) := by decide +kernel
theorem dMM_tick_34 : decode cMM_tick 34 = .ok (.ifCond .eq 161, 3) := by decide +kernel
theorem dMM_tick_37 : decode cMM_tick 37 = .ok (.iconst (-1), 1) := by decide +kernel
theorem dMM_tick_38 : decode cMM_tick 38 = .ok (.istore_n 3, 1) := by decide +kernel
theorem dMM_tick_39 : decode cMM_tick 39 = .ok (.iconst 0, 1) := by decide +kernel
theorem dMM_tick_40 : decode cMM_tick 40 = .ok (.istore 4, 2) := by decide +kernel
theorem dMM_tick_42 : decode cMM_tick 42 = .ok (.iload 4, 2) := by decide +kernel
theorem dMM_tick_44 : decode cMM_tick 44 = .ok (.aload_n 0, 1) := by decide +kernel
theorem dMM_tick_45 : decode cMM_tick 45 = .ok (.getfield 122, 3) := by decide +kernel
theorem dMM_tick_48 : decode cMM_tick 48 = .ok (.if_icmp .ge 46, 3) := by decide +kernel
theorem dMM_tick_51 : decode cMM_tick 51 = .ok (.aload_n 0, 1) := by decide +kernel
theorem dMM_tick_52 : decode cMM_tick 52 = .ok (.getfield 71, 3) := by decide +kernel
theorem dMM_tick_55 : decode cMM_tick 55 = .ok (.iload 4, 2) := by decide +kernel
theorem dMM_tick_57 : decode cMM_tick 57 = .ok (.iaload, 1) := by decide +kernel
theorem dMM_tick_58 : decode cMM_tick 58 = .ok (.aload_n 0, 1) := by decide +kernel
theorem dMM_tick_59 : decode cMM_tick 59 = .ok (.getfield 125, 3) := by decide +kernel
theorem dMM_tick_62 : decode cMM_tick 62 = .ok (.if_icmp .gt 26, 3) := by decide +kernel
theorem dMM_tick_65 : decode cMM_tick 65 = .ok (.iload_n 3, 1) := by decide +kernel
theorem dMM_tick_66 : decode cMM_tick 66 = .ok (.ifCond .lt 19, 3) := by decide +kernel
theorem dMM_tick_69 : decode cMM_tick 69 = .ok (.aload_n 0, 1) := by decide +kernel
theorem dMM_tick_70 : decode cMM_tick 70 = .ok (.getfield 71, 3) := by decide +kernel
theorem dMM_tick_73 : decode cMM_tick 73 = .ok (.iload 4, 2) := by decide +kernel
theorem dMM_tick_75 : decode cMM_tick 75 = .ok (.iaload, 1) := by decide +kernel
theorem dMM_tick_76 : decode cMM_tick 76 = .ok (.aload_n 0, 1) := by decide +kernel
theorem dMM_tick_77 : decode cMM_tick 77 = .ok (.getfield 71, 3) := by decide +kernel
theorem dMM_tick_80 : decode cMM_tick 80 = .ok (.iload_n 3, 1) := by decide +kernel
theorem dMM_tick_81 : decode cMM_tick 81 = .ok (.iaload, 1) := by decide +kernel
theorem dMM_tick_82 : decode cMM_tick 82 = .ok (.if_icmp .ge 6, 3) := by decide +kernel
theorem dMM_tick_85 : decode cMM_tick 85 = .ok (.iload 4, 2) := by decide +kernel
theorem dMM_tick_87 : decode cMM_tick 87 = .ok (.istore_n 3, 1) := by decide +kernel
theorem dMM_tick_88 : decode cMM_tick 88 = .ok (.iinc 4 1, 3) := by decide +kernel
theorem dMM_tick_91 : decode cMM_tick 91 = .ok (.goto (-49), 3) := by decide +kernel
theorem dMM_tick_94 : decode cMM_tick 94 = .ok (.iload_n 3, 1) := by decide +kernel
theorem dMM_tick_95 : decode cMM_tick 95 = .ok (.ifCond .lt 7, 3) := by decide +kernel
theorem dMM_tick_98 : decode cMM_tick 98 = .ok (.iconst 1, 1) := by decide +kernel
theorem dMM_tick_99 : decode cMM_tick 99 = .ok (.goto 4, 3) := by decide +kernel
theorem dMM_tick_102 : decode cMM_tick 102 = .ok (.iconst 0, 1) := by decide +kernel
theorem dMM_tick_103 : decode cMM_tick 103 = .ok (.istore_n 2, 1) := by decide +kernel
theorem dMM_tick_104 : decode cMM_tick 104 = .ok (.iload_n 2, 1) := by decide +kernel
theorem dMM_tick_105 : decode cMM_tick 105 = .ok (.ifCond .eq 23, 3) := by decide +kernel
theorem dMM_tick_108 : decode cMM_tick 108 = .ok (.aload_n 0, 1) := by decide +kernel
theorem dMM_tick_109 : decode cMM_tick 109 = .ok (.aload_n 0, 1) := by decide +kernel
theorem dMM_tick_110 : decode cMM_tick 110 = .ok (.getfield 68, 3) := by decide +kernel
theorem dMM_tick_113 : decode cMM_tick 113 = .ok (.iload_n 3, 1) := by decide +kernel
theorem dMM_tick_114 : decode cMM_tick 114 = .ok (.iaload, 1) := by decide +kernel
theorem dMM_tick_115 : decode cMM_tick 115 = .ok (.invokevirtual 119, 3) := by decide +kernel
theorem dMM_tick_118 : decode cMM_tick 118 = .ok (.ifCond .ne 10, 3) := by decide +kernel
theorem dMM_tick_121 : decode cMM_tick 121 = .ok (.aload_n 0, 1) := by decide +kernel
theorem dMM_tick_122 : decode cMM_tick 122 = .ok (.iconst 4, 1) := by decide +kernel
theorem dMM_tick_123 : decode cMM_tick 123 = .ok (.putfield 97, 3) := by decide +kernel
theorem dMM_tick_126 : decode cMM_tick 126 = .ok (.iconst 0, 1) := by decide +kernel
theorem dMM_tick_127 : decode cMM_tick 127 = .ok (.istore_n 2, 1) := by decide +kernel
theorem dMM_tick_128 : decode cMM_tick 128 = .ok (.iload_n 2, 1) := by decide +kernel
theorem dMM_tick_129 : decode cMM_tick 129 = .ok (.ifCond .eq 63, 3) := by decide +kernel
theorem dMM_tick_132 : decode cMM_tick 132 = .ok (.aload_n 0, 1) := by decide +kernel
theorem dMM_tick_133 : decode cMM_tick 133 = .ok (.dup, 1) := by decide +kernel
theorem dMM_tick_134 : decode cMM_tick 134 = .ok (.getfield 122, 3) := by decide +kernel
theorem dMM_tick_137 : decode cMM_tick 137 = .ok (.iconst 1, 1) := by decide +kernel
theorem dMM_tick_138 : decode cMM_tick 138 = .ok (.isub, 1) := by decide +kernel
theorem dMM_tick_139 : decode cMM_tick 139 = .ok (.putfield 122, 3) := by decide +kernel
theorem dMM_tick_142 : decode cMM_tick 142 = .ok (.iload_n 3, 1) := by decide +kernel
theorem dMM_tick_143 : decode cMM_tick 143 = .ok (.istore 4, 2) := by decide +kernel
theorem dMM_tick_145 : decode cMM_tick 145 = .ok (.iload 4, 2) := by decide +kernel
theorem dMM_tick_147 : decode cMM_tick 147 = .ok (.aload_n 0, 1) := by decide +kernel
theorem dMM_tick_148 : decode cMM_tick 148 = .ok (.getfield 122, 3) := by decide +kernel
theorem dMM_tick_151 : decode cMM_tick 151 = .ok (.if_icmp .ge 41, 3) := by decide +kernel
theorem dMM_tick_154 : decode cMM_tick 154 = .ok (.aload_n 0, 1) := by decide +kernel
theorem dMM_tick_155 : decode cMM_tick 155 = .ok (.getfield 68, 3) := by decide +kernel
theorem dMM_tick_158 : decode cMM_tick 158 = .ok (.iload 4, 2) := by decide +kernel
theorem dMM_tick_160 : decode cMM_tick 160 = .ok (.aload_n 0, 1) := by decide +kernel
theorem dMM_tick_161 : decode cMM_tick 161 = .ok (.getfield 68, 3) := by decide +kernel
theorem dMM_tick_164 : decode cMM_tick 164 = .ok (.iload 4, 2) := by decide +kernel
theorem dMM_tick_166 : decode cMM_tick 166 = .ok (.iconst 1, 1) := by decide +kernel
theorem dMM_tick_167 : decode cMM_tick 167 = .ok (.iadd, 1) := by decide +kernel
theorem dMM_tick_168 : decode cMM_tick 168 = .ok (.iaload, 1) := by decide +kernel
theorem dMM_tick_169 : decode cMM_tick 169 = .ok (.iastore, 1) := by decide +kernel
theorem dMM_tick_170 : decode cMM_tick 170 = .ok (.aload_n 0, 1) := by decide +kernel
theorem dMM_tick_171 : decode cMM_tick 171 = .ok (.getfield 71, 3) := by decide +kernel
theorem dMM_tick_174 : decode cMM_tick 174 = .ok (.iload 4, 2) := by decide +kernel
theorem dMM_tick_176 : decode cMM_tick 176 = .ok (.aload_n 0, 1) := by decide +kernel
theorem dMM_tick_177 : decode cMM_tick 177 = .ok (.getfield 71, 3) := by decide +kernel
theorem dMM_tick_180 : decode cMM_tick 180 = .ok (.iload 4, 2) := by decide +kernel
theorem dMM_tick_182 : decode cMM_tick 182 = .ok (.iconst 1, 1) := by decide +kernel
theorem dMM_tick_183 : decode cMM_tick 183 = .ok (.iadd, 1) := by decide +kernel
theorem dMM_tick_184 : decode cMM_tick 184 = .ok (.iaload, 1) := by decide +kernel
theorem dMM_tick_185 : decode cMM_tick 185 = .ok (.iastore, 1) := by decide +kernel
theorem dMM_tick_186 : decode cMM_tick 186 = .ok (.iinc 4 1, 3) := by decide +kernel
theorem dMM_tick_189 : decode cMM_tick 189 = .ok (.goto (-44), 3) := by decide +kernel
theorem dMM_tick_192 : decode cMM_tick 192 = .ok (.goto (-159), 3) := by decide +kernel
theorem dMM_tick_195 : decode cMM_tick 195 = .ok (.aload_n 0, 1) := by decide +kernel
theorem dMM_tick_196 : decode cMM_tick 196 = .ok (.getfield 125, 3) := by decide +kernel
theorem dMM_tick_199 : decode cMM_tick 199 = .ok (.ireturn, 1) := by decide +kernel
theorem dMM_reset_0 : decode cMM_reset 0 = .ok (.aload_n 0, 1) := by decide +kernel
theorem dMM_reset_1 : decode cMM_reset 1 = .ok (.iconst 0, 1) := by decide +kernel
theorem dMM_reset_2 : decode cMM_reset 2 = .ok (.putfield 97, 3) := by decide +kernel
theorem dMM_reset_5 : decode cMM_reset 5 = .ok (.return_, 1) := by decide +kernel
theorem dMM_outcome_0 : decode cMM_outcome 0 = .ok (.aload_n 0, 1) := by decide +kernel
theorem dMM_outcome_1 : decode cMM_outcome 1 = .ok (.getfield 97, 3) := by decide +kernel
theorem dMM_outcome_4 : decode cMM_outcome 4 = .ok (.ireturn, 1) := by decide +kernel
theorem dMM_active_0 : decode cMM_active 0 = .ok (.iconst 0, 1) := by decide +kernel
theorem dMM_active_1 : decode cMM_active 1 = .ok (.istore_n 1, 1) := by decide +kernel
theorem dMM_active_2 : decode cMM_active 2 = .ok (.iconst 1, 1) := by decide +kernel
theorem dMM_active_3 : decode cMM_active 3 = .ok (.istore_n 2, 1) := by decide +kernel
theorem dMM_active_4 : decode cMM_active 4 = .ok (.iload_n 2, 1) := by decide +kernel
theorem dMM_active_5 : decode cMM_active 5 = .ok (.aload_n 0, 1) := by decide +kernel
theorem dMM_active_6 : decode cMM_active 6 = .ok (.getfield 89, 3) := by decide +kernel
theorem dMM_active_9 : decode cMM_active 9 = .ok (.if_icmp .gt 35, 3) := by decide +kernel
theorem dMM_active_12 : decode cMM_active 12 = .ok (.aload_n 0, 1) := by decide +kernel
theorem dMM_active_13 : decode cMM_active 13 = .ok (.getfield 97, 3) := by decide +kernel
theorem dMM_active_16 : decode cMM_active 16 = .ok (.ifCond .eq 28, 3) := by decide +kernel
theorem dMM_active_19 : decode cMM_active 19 = .ok (.iload_n 1, 1) := by decide +kernel
theorem dMM_active_20 : decode cMM_active 20 = .ok (.aload_n 0, 1) := by decide +kernel
theorem dMM_active_21 : decode cMM_active 21 = .ok (.getfield 53, 3) := by decide +kernel
theorem dMM_active_24 : decode cMM_active 24 = .ok (.iload_n 2, 1) := by decide +kernel
theorem dMM_active_25 : decode cMM_active 25 = .ok (.baload, 1) := by decide +kernel
theorem dMM_active_26 : decode cMM_active 26 = .ok (.ifCond .eq 9, 3) := by decide +kernel
theorem dMM_active_29 : decode cMM_active 29 = .ok (.iconst 1, 1) := by decide +kernel
theorem dMM_active_30 : decode cMM_active 30 = .ok (.iload_n 2, 1) := by decide +kernel
theorem dMM_active_31 : decode cMM_active 31 = .ok (.ishl, 1) := by decide +kernel
theorem dMM_active_32 : decode cMM_active 32 = .ok (.goto 4, 3) := by decide +kernel
theorem dMM_active_35 : decode cMM_active 35 = .ok (.iconst 0, 1) := by decide +kernel
theorem dMM_active_36 : decode cMM_active 36 = .ok (.ior, 1) := by decide +kernel
theorem dMM_active_37 : decode cMM_active 37 = .ok (.istore_n 1, 1) := by decide +kernel
theorem dMM_active_38 : decode cMM_active 38 = .ok (.iinc 2 1, 3) := by decide +kernel
theorem dMM_active_41 : decode cMM_active 41 = .ok (.goto (-37), 3) := by decide +kernel
theorem dMM_active_44 : decode cMM_active 44 = .ok (.iload_n 1, 1) := by decide +kernel
theorem dMM_active_45 : decode cMM_active 45 = .ok (.ireturn, 1) := by decide +kernel
theorem dMM_remembered_0 : decode cMM_remembered 0 = .ok (.aload_n 0, 1) := by decide +kernel
theorem dMM_remembered_1 : decode cMM_remembered 1 = .ok (.getfield 97, 3) := by decide +kernel
theorem dMM_remembered_4 : decode cMM_remembered 4 = .ok (.ifCond .eq 25, 3) := by decide +kernel
theorem dMM_remembered_7 : decode cMM_remembered 7 = .ok (.iload_n 1, 1) := by decide +kernel
theorem dMM_remembered_8 : decode cMM_remembered 8 = .ok (.iconst 1, 1) := by decide +kernel
theorem dMM_remembered_9 : decode cMM_remembered 9 = .ok (.if_icmp .lt 20, 3) := by decide +kernel
theorem dMM_remembered_12 : decode cMM_remembered 12 = .ok (.iload_n 1, 1) := by decide +kernel
theorem dMM_remembered_13 : decode cMM_remembered 13 = .ok (.aload_n 0, 1) := by decide +kernel
theorem dMM_remembered_14 : decode cMM_remembered 14 = .ok (.getfield 89, 3) := by decide +kernel
theorem dMM_remembered_17 : decode cMM_remembered 17 = .ok (.if_icmp .gt 12, 3) := by decide +kernel
theorem dMM_remembered_20 : decode cMM_remembered 20 = .ok (.aload_n 0, 1) := by decide +kernel
theorem dMM_remembered_21 : decode cMM_remembered 21 = .ok (.getfield 56, 3) := by decide +kernel
theorem dMM_remembered_24 : decode cMM_remembered 24 = .ok (.iload_n 1, 1) := by decide +kernel
theorem dMM_remembered_25 : decode cMM_remembered 25 = .ok (.iaload, 1) := by decide +kernel
theorem dMM_remembered_26 : decode cMM_remembered 26 = .ok (.goto 4, 3) := by decide +kernel
theorem dMM_remembered_29 : decode cMM_remembered 29 = .ok (.iconst 0, 1) := by decide +kernel
theorem dMM_remembered_30 : decode cMM_remembered 30 = .ok (.ireturn, 1) := by decide +kernel
theorem dMM_variable_0 : decode cMM_variable 0 = .ok (.aload_n 0, 1) := by decide +kernel
theorem dMM_variable_1 : decode cMM_variable 1 = .ok (.getfield 97, 3) := by decide +kernel
theorem dMM_variable_4 : decode cMM_variable 4 = .ok (.ifCond .eq 21, 3) := by decide +kernel
theorem dMM_variable_7 : decode cMM_variable 7 = .ok (.iload_n 1, 1) := by decide +kernel
theorem dMM_variable_8 : decode cMM_variable 8 = .ok (.ifCond .lt 17, 3) := by decide +kernel
theorem dMM_variable_11 : decode cMM_variable 11 = .ok (.iload_n 1, 1) := by decide +kernel
theorem dMM_variable_12 : decode cMM_variable 12 = .ok (.iconst 3, 1) := by decide +kernel
theorem dMM_variable_13 : decode cMM_variable 13 = .ok (.if_icmp .gt 12, 3) := by decide +kernel
theorem dMM_variable_16 : decode cMM_variable 16 = .ok (.aload_n 0, 1) := by decide +kernel
theorem dMM_variable_17 : decode cMM_variable 17 = .ok (.getfield 59, 3) := by decide +kernel
theorem dMM_variable_20 : decode cMM_variable 20 = .ok (.iload_n 1, 1) := by decide +kernel
theorem dMM_variable_21 : decode cMM_variable 21 = .ok (.iaload, 1) := by decide +kernel
theorem dMM_variable_22 : decode cMM_variable 22 = .ok (.goto 4, 3) := by decide +kernel
theorem dMM_variable_25 : decode cMM_variable 25 = .ok (.iconst 0, 1) := by decide +kernel
theorem dMM_variable_26 : decode cMM_variable 26 = .ok (.ireturn, 1) := by decide +kernel
theorem dMM_listed_0 : decode cMM_listed 0 = .ok (.aload_n 0, 1) := by decide +kernel
theorem dMM_listed_1 : decode cMM_listed 1 = .ok (.getfield 97, 3) := by decide +kernel
theorem dMM_listed_4 : decode cMM_listed 4 = .ok (.ifCond .eq 24, 3) := by decide +kernel
theorem dMM_listed_7 : decode cMM_listed 7 = .ok (.iload_n 1, 1) := by decide +kernel
theorem dMM_listed_8 : decode cMM_listed 8 = .ok (.ifCond .lt 20, 3) := by decide +kernel
theorem dMM_listed_11 : decode cMM_listed 11 = .ok (.iload_n 1, 1) := by decide +kernel
theorem dMM_listed_12 : decode cMM_listed 12 = .ok (.aload_n 0, 1) := by decide +kernel
theorem dMM_listed_13 : decode cMM_listed 13 = .ok (.getfield 110, 3) := by decide +kernel
theorem dMM_listed_16 : decode cMM_listed 16 = .ok (.if_icmp .ge 12, 3) := by decide +kernel
theorem dMM_listed_19 : decode cMM_listed 19 = .ok (.aload_n 0, 1) := by decide +kernel
theorem dMM_listed_20 : decode cMM_listed 20 = .ok (.getfield 74, 3) := by decide +kernel
theorem dMM_listed_23 : decode cMM_listed 23 = .ok (.iload_n 1, 1) := by decide +kernel
theorem dMM_listed_24 : decode cMM_listed 24 = .ok (.iaload, 1) := by decide +kernel
theorem dMM_listed_25 : decode cMM_listed 25 = .ok (.goto 4, 3) := by decide +kernel
theorem dMM_listed_28 : decode cMM_listed 28 = .ok (.iconst (-1), 1) := by decide +kernel
theorem dMM_listed_29 : decode cMM_listed 29 = .ok (.ireturn, 1) := by decide +kernel
theorem dMM_waiting_0 : decode cMM_waiting 0 = .ok (.iload_n 1, 1) := by decide +kernel
theorem dMM_waiting_1 : decode cMM_waiting 1 = .ok (.ifCond .lt 8, 3) := by decide +kernel
theorem dMM_waiting_4 : decode cMM_waiting 4 = .ok (.iload_n 1, 1) := by decide +kernel
theorem dMM_waiting_5 : decode cMM_waiting 5 = .ok (.iconst 2, 1) := by decide +kernel
theorem dMM_waiting_6 : decode cMM_waiting 6 = .ok (.if_icmp .le 5, 3) := by decide +kernel
theorem dMM_waiting_9 : decode cMM_waiting 9 = .ok (.iconst (-1), 1) := by decide +kernel
theorem dMM_waiting_10 : decode cMM_waiting 10 = .ok (.ireturn, 1) := by decide +kernel
theorem dMM_waiting_11 : decode cMM_waiting 11 = .ok (.aload_n 0, 1) := by decide +kernel
theorem dMM_waiting_12 : decode cMM_waiting 12 = .ok (.getfield 97, 3) := by decide +kernel
theorem dMM_waiting_15 : decode cMM_waiting 15 = .ok (.ifCond .ne 7, 3) := by decide +kernel
theorem dMM_waiting_18 : decode cMM_waiting 18 = .ok (.iconst 0, 1) := by decide +kernel
theorem dMM_waiting_19 : decode cMM_waiting 19 = .ok (.goto 30, 3) := by decide +kernel
theorem dMM_waiting_22 : decode cMM_waiting 22 = .ok (.iload_n 1, 1) := by decide +kernel
theorem dMM_waiting_23 : decode cMM_waiting 23 = .ok (.ifCond .ne 10, 3) := by decide +kernel
theorem dMM_waiting_26 : decode cMM_waiting 26 = .ok (.aload_n 0, 1) := by decide +kernel
theorem dMM_waiting_27 : decode cMM_waiting 27 = .ok (.getfield 113, 3) := by decide +kernel
theorem dMM_waiting_30 : decode cMM_waiting 30 = .ok (.goto 19, 3) := by decide +kernel
theorem dMM_waiting_33 : decode cMM_waiting 33 = .ok (.iload_n 1, 1) := by decide +kernel
theorem dMM_waiting_34 : decode cMM_waiting 34 = .ok (.iconst 1, 1) := by decide +kernel
theorem dMM_waiting_35 : decode cMM_waiting 35 = .ok (.if_icmp .ne 10, 3) := by decide +kernel
theorem dMM_waiting_38 : decode cMM_waiting 38 = .ok (.aload_n 0, 1) := by decide +kernel
theorem dMM_waiting_39 : decode cMM_waiting 39 = .ok (.getfield 116, 3) := by decide +kernel
theorem dMM_waiting_42 : decode cMM_waiting 42 = .ok (.goto 7, 3) := by decide +kernel
theorem dMM_waiting_45 : decode cMM_waiting 45 = .ok (.aload_n 0, 1) := by decide +kernel
theorem dMM_waiting_46 : decode cMM_waiting 46 = .ok (.getfield 122, 3) := by decide +kernel
theorem dMM_waiting_49 : decode cMM_waiting 49 = .ok (.ireturn, 1) := by decide +kernel
theorem dAT_init_0 : decode cAT_init 0 = .ok (.aload_n 0, 1) := by decide +kernel
theorem dAT_init_1 : decode cAT_init 1 = .ok (.invokespecial 3, 3) := by decide +kernel
theorem dAT_init_4 : decode cAT_init 4 = .ok (.aload_n 0, 1) := by decide +kernel
theorem dAT_init_5 : decode cAT_init 5 = .ok (.bipush 32, 2) := by decide +kernel
theorem dAT_init_7 : decode cAT_init 7 = .ok (.newarray .int, 2) := by decide +kernel
theorem dAT_init_9 : decode cAT_init 9 = .ok (.putfield 9, 3) := by decide +kernel
theorem dAT_init_12 : decode cAT_init 12 = .ok (.aload_n 0, 1) := by decide +kernel
theorem dAT_init_13 : decode cAT_init 13 = .ok (.bipush 32, 2) := by decide +kernel
theorem dAT_init_15 : decode cAT_init 15 = .ok (.newarray .int, 2) := by decide +kernel
theorem dAT_init_17 : decode cAT_init 17 = .ok (.putfield 15, 3) := by decide +kernel
theorem dAT_init_20 : decode cAT_init 20 = .ok (.aload_n 0, 1) := by decide +kernel
theorem dAT_init_21 : decode cAT_init 21 = .ok (.bipush 32, 2) := by decide +kernel
theorem dAT_init_23 : decode cAT_init 23 = .ok (.newarray .int, 2) := by decide +kernel
theorem dAT_init_25 : decode cAT_init 25 = .ok (.putfield 18, 3) := by decide +kernel
theorem dAT_init_28 : decode cAT_init 28 = .ok (.aload_n 0, 1) := by decide +kernel
theorem dAT_init_29 : decode cAT_init 29 = .ok (.bipush 32, 2) := by decide +kernel
theorem dAT_init_31 : decode cAT_init 31 = .ok (.newarray .int, 2) := by decide +kernel
theorem dAT_init_33 : decode cAT_init 33 = .ok (.putfield 21, 3) := by decide +kernel
theorem dAT_init_36 : decode cAT_init 36 = .ok (.return_, 1) := by decide +kernel
theorem dAT_add_0 : decode cAT_add 0 = .ok (.aload_n 0, 1) := by decide +kernel
theorem dAT_add_1 : decode cAT_add 1 = .ok (.getfield 9, 3) := by decide +kernel
theorem dAT_add_4 : decode cAT_add 4 = .ok (.aload_n 0, 1) := by decide +kernel
theorem dAT_add_5 : decode cAT_add 5 = .ok (.getfield 24, 3) := by decide +kernel
theorem dAT_add_8 : decode cAT_add 8 = .ok (.iload_n 1, 1) := by decide +kernel
theorem dAT_add_9 : decode cAT_add 9 = .ok (.iastore, 1) := by decide +kernel
theorem dAT_add_10 : decode cAT_add 10 = .ok (.aload_n 0, 1) := by decide +kernel
theorem dAT_add_11 : decode cAT_add 11 = .ok (.getfield 15, 3) := by decide +kernel
theorem dAT_add_14 : decode cAT_add 14 = .ok (.aload_n 0, 1) := by decide +kernel
theorem dAT_add_15 : decode cAT_add 15 = .ok (.getfield 24, 3) := by decide +kernel
theorem dAT_add_18 : decode cAT_add 18 = .ok (.iload_n 2, 1) := by decide +kernel
theorem dAT_add_19 : decode cAT_add 19 = .ok (.iastore, 1) := by decide +kernel
theorem dAT_add_20 : decode cAT_add 20 = .ok (.aload_n 0, 1) := by decide +kernel
theorem dAT_add_21 : decode cAT_add 21 = .ok (.getfield 18, 3) := by decide +kernel
theorem dAT_add_24 : decode cAT_add 24 = .ok (.aload_n 0, 1) := by decide +kernel
theorem dAT_add_25 : decode cAT_add 25 = .ok (.getfield 24, 3) := by decide +kernel
theorem dAT_add_28 : decode cAT_add 28 = .ok (.iload_n 3, 1) := by decide +kernel
theorem dAT_add_29 : decode cAT_add 29 = .ok (.iastore, 1) := by decide +kernel
theorem dAT_add_30 : decode cAT_add 30 = .ok (.aload_n 0, 1) := by decide +kernel
theorem dAT_add_31 : decode cAT_add 31 = .ok (.getfield 21, 3) := by decide +kernel
theorem dAT_add_34 : decode cAT_add 34 = .ok (.aload_n 0, 1) := by decide +kernel
theorem dAT_add_35 : decode cAT_add 35 = .ok (.getfield 24, 3) := by decide +kernel
theorem dAT_add_38 : decode cAT_add 38 = .ok (.iload 4, 2) := by decide +kernel
theorem dAT_add_40 : decode cAT_add 40 = .ok (.iastore, 1) := by decide +kernel
theorem dAT_add_41 : decode cAT_add 41 = .ok (.aload_n 0, 1) := by decide +kernel
theorem dAT_add_42 : decode cAT_add 42 = .ok (.dup, 1) := by decide +kernel
theorem dAT_add_43 : decode cAT_add 43 = .ok (.getfield 24, 3) := by decide +kernel
theorem dAT_add_46 : decode cAT_add 46 = .ok (.iconst 1, 1) := by decide +kernel
theorem dAT_add_47 : decode cAT_add 47 = .ok (.iadd, 1) := by decide +kernel
theorem dAT_add_48 : decode cAT_add 48 = .ok (.putfield 24, 3) := by decide +kernel
theorem dAT_add_51 : decode cAT_add 51 = .ok (.return_, 1) := by decide +kernel
theorem dLN_init_0 : decode cLN_init 0 = .ok (.aload_n 0, 1) := by decide +kernel
theorem dLN_init_1 : decode cLN_init 1 = .ok (.invokespecial 3, 3) := by decide +kernel
theorem dLN_init_4 : decode cLN_init 4 = .ok (.aload_n 0, 1) := by decide +kernel
theorem dLN_init_5 : decode cLN_init 5 = .ok (.iload_n 1, 1) := by decide +kernel
theorem dLN_init_6 : decode cLN_init 6 = .ok (.newarray .int, 2) := by decide +kernel
theorem dLN_init_8 : decode cLN_init 8 = .ok (.putfield 9, 3) := by decide +kernel
theorem dLN_init_11 : decode cLN_init 11 = .ok (.return_, 1) := by decide +kernel
theorem dLN_put_0 : decode cLN_put 0 = .ok (.aload_n 0, 1) := by decide +kernel
theorem dLN_put_1 : decode cLN_put 1 = .ok (.getfield 15, 3) := by decide +kernel
theorem dLN_put_4 : decode cLN_put 4 = .ok (.aload_n 0, 1) := by decide +kernel
theorem dLN_put_5 : decode cLN_put 5 = .ok (.getfield 9, 3) := by decide +kernel
