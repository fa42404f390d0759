theorem dMM_initialOf_0 : decode cMM_initialOf 0 = .ok (.aload_n 0, 1) := by decide +kernel
theorem dMM_initialOf_1 : decode cMM_initialOf 1 = .ok (.getfield 16, 3) := by decide +kernel
theorem dMM_initialOf_4 : decode cMM_initialOf 4 = .ok (.iload_n 1, 1) := by decide +kernel
theorem dMM_initialOf_5 : decode cMM_initialOf 5 = .ok (.iaload, 1) := by decide +kernel
theorem dMM_initialOf_6 : decode cMM_initialOf 6 = .ok (.ifCond .le 10, 3) := by decide +kernel
theorem dMM_initialOf_9 : decode cMM_initialOf 9 = .ok (.aload_n 0, 1) := by decide +kernel
theorem dMM_initialOf_10 : decode cMM_initialOf 10 = .ok (.getfield 16, 3) := by decide +kernel
theorem dMM_initialOf_13 : decode cMM_initialOf 13 = .ok (.iload_n 1, 1) := by decide +kernel
theorem dMM_initialOf_14 : decode cMM_initialOf 14 = .ok (.iaload, 1) := by decide +kernel
theorem dMM_initialOf_15 : decode cMM_initialOf 15 = .ok (.ireturn, 1) := by decide +kernel
theorem dMM_initialOf_16 : decode cMM_initialOf 16 = .ok (.iconst 1, 1) := by decide +kernel
theorem dMM_initialOf_17 : decode cMM_initialOf 17 = .ok (.istore_n 2, 1) := by decide +kernel
theorem dMM_initialOf_18 : decode cMM_initialOf 18 = .ok (.iload_n 2, 1) := by decide +kernel
theorem dMM_initialOf_19 : decode cMM_initialOf 19 = .ok (.aload_n 0, 1) := by decide +kernel
theorem dMM_initialOf_20 : decode cMM_initialOf 20 = .ok (.getfield 89, 3) := by decide +kernel
theorem dMM_initialOf_23 : decode cMM_initialOf 23 = .ok (.if_icmp .ge 29, 3) := by decide +kernel
theorem dMM_initialOf_26 : decode cMM_initialOf 26 = .ok (.aload_n 0, 1) := by decide +kernel
theorem dMM_initialOf_27 : decode cMM_initialOf 27 = .ok (.getfield 7, 3) := by decide +kernel
theorem dMM_initialOf_30 : decode cMM_initialOf 30 = .ok (.iload_n 2, 1) := by decide +kernel
theorem dMM_initialOf_31 : decode cMM_initialOf 31 = .ok (.iaload, 1) := by decide +kernel
theorem dMM_initialOf_32 : decode cMM_initialOf 32 = .ok (.iload_n 1, 1) := by decide +kernel
theorem dMM_initialOf_33 : decode cMM_initialOf 33 = .ok (.if_icmp .ne 13, 3) := by decide +kernel
theorem dMM_initialOf_36 : decode cMM_initialOf 36 = .ok (.aload_n 0, 1) := by decide +kernel
theorem dMM_initialOf_37 : decode cMM_initialOf 37 = .ok (.getfield 13, 3) := by decide +kernel
theorem dMM_initialOf_40 : decode cMM_initialOf 40 = .ok (.iload_n 2, 1) := by decide +kernel
theorem dMM_initialOf_41 : decode cMM_initialOf 41 = .ok (.iaload, 1) := by decide +kernel
theorem dMM_initialOf_42 : decode cMM_initialOf 42 = .ok (.iconst 3, 1) := by decide +kernel
theorem dMM_initialOf_43 : decode cMM_initialOf 43 = .ok (.if_icmp .le 9, 3) := by decide +kernel
theorem dMM_initialOf_46 : decode cMM_initialOf 46 = .ok (.iinc 2 1, 3) := by decide +kernel
theorem dMM_initialOf_49 : decode cMM_initialOf 49 = .ok (.goto (-31), 3) := by decide +kernel
theorem dMM_initialOf_52 : decode cMM_initialOf 52 = .ok (.iload_n 2, 1) := by decide +kernel
theorem dMM_initialOf_53 : decode cMM_initialOf 53 = .ok (.ireturn, 1) := by decide +kernel
theorem dMM_state_0 : decode cMM_state 0 = .ok (.iload_n 1, 1) := by decide +kernel
theorem dMM_state_1 : decode cMM_state 1 = .ok (.ifCond .lt 35, 3) := by decide +kernel
theorem dMM_state_4 : decode cMM_state 4 = .ok (.iload_n 1, 1) := by decide +kernel
theorem dMM_state_5 : decode cMM_state 5 = .ok (.aload_n 0, 1) := by decide +kernel
theorem dMM_state_6 : decode cMM_state 6 = .ok (.getfield 89, 3) := by decide +kernel
theorem dMM_state_9 : decode cMM_state 9 = .ok (.if_icmp .gt 27, 3) := by decide +kernel
theorem dMM_state_12 : decode cMM_state 12 = .ok (.aload_n 0, 1) := by decide +kernel
theorem dMM_state_13 : decode cMM_state 13 = .ok (.getfield 13, 3) := by decide +kernel
theorem dMM_state_16 : decode cMM_state 16 = .ok (.iload_n 1, 1) := by decide +kernel
theorem dMM_state_17 : decode cMM_state 17 = .ok (.iaload, 1) := by decide +kernel
theorem dMM_state_18 : decode cMM_state 18 = .ok (.iconst 2, 1) := by decide +kernel
theorem dMM_state_19 : decode cMM_state 19 = .ok (.if_icmp .gt 17, 3) := by decide +kernel
theorem dMM_state_22 : decode cMM_state 22 = .ok (.iload_n 2, 1) := by decide +kernel
theorem dMM_state_23 : decode cMM_state 23 = .ok (.iconst 1, 1) := by decide +kernel
theorem dMM_state_24 : decode cMM_state 24 = .ok (.if_icmp .lt 12, 3) := by decide +kernel
theorem dMM_state_27 : decode cMM_state 27 = .ok (.iload_n 2, 1) := by decide +kernel
theorem dMM_state_28 : decode cMM_state 28 = .ok (.iconst 5, 1) := by decide +kernel
theorem dMM_state_29 : decode cMM_state 29 = .ok (.if_icmp .gt 7, 3) := by decide +kernel
theorem dMM_state_32 : decode cMM_state 32 = .ok (.iconst 1, 1) := by decide +kernel
theorem dMM_state_33 : decode cMM_state 33 = .ok (.goto 4, 3) := by decide +kernel
theorem dMM_state_36 : decode cMM_state 36 = .ok (.iconst 0, 1) := by decide +kernel
theorem dMM_state_37 : decode cMM_state 37 = .ok (.istore_n 3, 1) := by decide +kernel
theorem dMM_state_38 : decode cMM_state 38 = .ok (.aload_n 0, 1) := by decide +kernel
theorem dMM_state_39 : decode cMM_state 39 = .ok (.getfield 97, 3) := by decide +kernel
theorem dMM_state_42 : decode cMM_state 42 = .ok (.ifCond .ne 31, 3) := by decide +kernel
theorem dMM_state_45 : decode cMM_state 45 = .ok (.iload_n 3, 1) := by decide +kernel
theorem dMM_state_46 : decode cMM_state 46 = .ok (.ifCond .eq 27, 3) := by decide +kernel
theorem dMM_state_49 : decode cMM_state 49 = .ok (.aload_n 0, 1) := by decide +kernel
theorem dMM_state_50 : decode cMM_state 50 = .ok (.getfield 13, 3) := by decide +kernel
theorem dMM_state_53 : decode cMM_state 53 = .ok (.iload_n 1, 1) := by decide +kernel
theorem dMM_state_54 : decode cMM_state 54 = .ok (.iaload, 1) := by decide +kernel
theorem dMM_state_55 : decode cMM_state 55 = .ok (.iconst 2, 1) := by decide +kernel
theorem dMM_state_56 : decode cMM_state 56 = .ok (.if_icmp .ne 8, 3) := by decide +kernel
theorem dMM_state_59 : decode cMM_state 59 = .ok (.iload_n 2, 1) := by decide +kernel
theorem dMM_state_60 : decode cMM_state 60 = .ok (.iconst 3, 1) := by decide +kernel
theorem dMM_state_61 : decode cMM_state 61 = .ok (.if_icmp .eq 12, 3) := by decide +kernel
theorem dMM_state_64 : decode cMM_state 64 = .ok (.iload_n 1, 1) := by decide +kernel
theorem dMM_state_65 : decode cMM_state 65 = .ok (.ifCond .ne 10, 3) := by decide +kernel
theorem dMM_state_68 : decode cMM_state 68 = .ok (.iload_n 2, 1) := by decide +kernel
theorem dMM_state_69 : decode cMM_state 69 = .ok (.iconst 4, 1) := by decide +kernel
theorem dMM_state_70 : decode cMM_state 70 = .ok (.if_icmp .lt 5, 3) := by decide +kernel
theorem dMM_state_73 : decode cMM_state 73 = .ok (.iconst (-1), 1) := by decide +kernel
theorem dMM_state_74 : decode cMM_state 74 = .ok (.ireturn, 1) := by decide +kernel
theorem dMM_state_75 : decode cMM_state 75 = .ok (.aload_n 0, 1) := by decide +kernel
theorem dMM_state_76 : decode cMM_state 76 = .ok (.getfield 89, 3) := by decide +kernel
theorem dMM_state_79 : decode cMM_state 79 = .ok (.bipush 15, 2) := by decide +kernel
theorem dMM_state_81 : decode cMM_state 81 = .ok (.if_icmp .ne 6, 3) := by decide +kernel
theorem dMM_state_84 : decode cMM_state 84 = .ok (.bipush (-2), 2) := by decide +kernel
theorem dMM_state_86 : decode cMM_state 86 = .ok (.ireturn, 1) := by decide +kernel
theorem dMM_state_87 : decode cMM_state 87 = .ok (.aload_n 0, 1) := by decide +kernel
theorem dMM_state_88 : decode cMM_state 88 = .ok (.dup, 1) := by decide +kernel
theorem dMM_state_89 : decode cMM_state 89 = .ok (.getfield 89, 3) := by decide +kernel
theorem dMM_state_92 : decode cMM_state 92 = .ok (.iconst 1, 1) := by decide +kernel
theorem dMM_state_93 : decode cMM_state 93 = .ok (.iadd, 1) := by decide +kernel
theorem dMM_state_94 : decode cMM_state 94 = .ok (.putfield 89, 3) := by decide +kernel
theorem dMM_state_97 : decode cMM_state 97 = .ok (.aload_n 0, 1) := by decide +kernel
theorem dMM_state_98 : decode cMM_state 98 = .ok (.getfield 7, 3) := by decide +kernel
theorem dMM_state_101 : decode cMM_state 101 = .ok (.aload_n 0, 1) := by decide +kernel
theorem dMM_state_102 : decode cMM_state 102 = .ok (.getfield 89, 3) := by decide +kernel
theorem dMM_state_105 : decode cMM_state 105 = .ok (.iload_n 1, 1) := by decide +kernel
theorem dMM_state_106 : decode cMM_state 106 = .ok (.iastore, 1) := by decide +kernel
theorem dMM_state_107 : decode cMM_state 107 = .ok (.aload_n 0, 1) := by decide +kernel
theorem dMM_state_108 : decode cMM_state 108 = .ok (.getfield 13, 3) := by decide +kernel
theorem dMM_state_111 : decode cMM_state 111 = .ok (.aload_n 0, 1) := by decide +kernel
theorem dMM_state_112 : decode cMM_state 112 = .ok (.getfield 89, 3) := by decide +kernel
theorem dMM_state_115 : decode cMM_state 115 = .ok (.iload_n 2, 1) := by decide +kernel
theorem dMM_state_116 : decode cMM_state 116 = .ok (.iastore, 1) := by decide +kernel
theorem dMM_state_117 : decode cMM_state 117 = .ok (.aload_n 0, 1) := by decide +kernel
theorem dMM_state_118 : decode cMM_state 118 = .ok (.getfield 89, 3) := by decide +kernel
theorem dMM_state_121 : decode cMM_state 121 = .ok (.ireturn, 1) := by decide +kernel
theorem dMM_initial_0 : decode cMM_initial 0 = .ok (.aload_n 0, 1) := by decide +kernel
theorem dMM_initial_1 : decode cMM_initial 1 = .ok (.getfield 97, 3) := by decide +kernel
theorem dMM_initial_4 : decode cMM_initial 4 = .ok (.ifCond .ne 26, 3) := by decide +kernel
theorem dMM_initial_7 : decode cMM_initial 7 = .ok (.aload_n 0, 1) := by decide +kernel
theorem dMM_initial_8 : decode cMM_initial 8 = .ok (.iload_n 1, 1) := by decide +kernel
theorem dMM_initial_9 : decode cMM_initial 9 = .ok (.invokevirtual 100, 3) := by decide +kernel
theorem dMM_initial_12 : decode cMM_initial 12 = .ok (.ifCond .eq 18, 3) := by decide +kernel
theorem dMM_initial_15 : decode cMM_initial 15 = .ok (.aload_n 0, 1) := by decide +kernel
theorem dMM_initial_16 : decode cMM_initial 16 = .ok (.getfield 13, 3) := by decide +kernel
theorem dMM_initial_19 : decode cMM_initial 19 = .ok (.aload_n 0, 1) := by decide +kernel
theorem dMM_initial_20 : decode cMM_initial 20 = .ok (.getfield 7, 3) := by decide +kernel
theorem dMM_initial_23 : decode cMM_initial 23 = .ok (.iload_n 1, 1) := by decide +kernel
theorem dMM_initial_24 : decode cMM_initial 24 = .ok (.iaload, 1) := by decide +kernel
theorem dMM_initial_25 : decode cMM_initial 25 = .ok (.iaload, 1) := by decide +kernel
theorem dMM_initial_26 : decode cMM_initial 26 = .ok (.iconst 1, 1) := by decide +kernel
theorem dMM_initial_27 : decode cMM_initial 27 = .ok (.if_icmp .eq 5, 3) := by decide +kernel
theorem dMM_initial_30 : decode cMM_initial 30 = .ok (.iconst 0, 1) := by decide +kernel
theorem dMM_initial_31 : decode cMM_initial 31 = .ok (.ireturn, 1) := by decide +kernel
theorem dMM_initial_32 : decode cMM_initial 32 = .ok (.aload_n 0, 1) := by decide +kernel
theorem dMM_initial_33 : decode cMM_initial 33 = .ok (.getfield 16, 3) := by decide +kernel
theorem dMM_initial_36 : decode cMM_initial 36 = .ok (.aload_n 0, 1) := by decide +kernel
theorem dMM_initial_37 : decode cMM_initial 37 = .ok (.getfield 7, 3) := by decide +kernel
theorem dMM_initial_40 : decode cMM_initial 40 = .ok (.iload_n 1, 1) := by decide +kernel
theorem dMM_initial_41 : decode cMM_initial 41 = .ok (.iaload, 1) := by decide +kernel
theorem dMM_initial_42 : decode cMM_initial 42 = .ok (.iload_n 1, 1) := by decide +kernel
theorem dMM_initial_43 : decode cMM_initial 43 = .ok (.iastore, 1) := by decide +kernel
theorem dMM_initial_44 : decode cMM_initial 44 = .ok (.iconst 1, 1) := by decide +kernel
theorem dMM_initial_45 : decode cMM_initial 45 = .ok (.ireturn, 1) := by decide +kernel
theorem dMM_transition_0 : decode cMM_transition 0 = .ok (.iload_n 2, 1) := by decide +kernel
theorem dMM_transition_1 : decode cMM_transition 1 = .ok (.ifCond .lt 9, 3) := by decide +kernel
theorem dMM_transition_4 : decode cMM_transition 4 = .ok (.iload_n 2, 1) := by decide +kernel
theorem dMM_transition_5 : decode cMM_transition 5 = .ok (.bipush 20, 2) := by decide +kernel
theorem dMM_transition_7 : decode cMM_transition 7 = .ok (.if_icmp .le 26, 3) := by decide +kernel
theorem dMM_transition_10 : decode cMM_transition 10 = .ok (.iload_n 2, 1) := by decide +kernel
theorem dMM_transition_11 : decode cMM_transition 11 = .ok (.bipush 100, 2) := by decide +kernel
theorem dMM_transition_13 : decode cMM_transition 13 = .ok (.if_icmp .le 24, 3) := by decide +kernel
theorem dMM_transition_16 : decode cMM_transition 16 = .ok (.iload_n 2, 1) := by decide +kernel
theorem dMM_transition_17 : decode cMM_transition 17 = .ok (.bipush 115, 2) := by decide +kernel
theorem dMM_transition_19 : decode cMM_transition 19 = .ok (.if_icmp .gt 18, 3) := by decide +kernel
theorem dMM_transition_22 : decode cMM_transition 22 = .ok (.aload_n 0, 1) := by decide +kernel
theorem dMM_transition_23 : decode cMM_transition 23 = .ok (.iload_n 2, 1) := by decide +kernel
theorem dMM_transition_24 : decode cMM_transition 24 = .ok (.bipush 100, 2) := by decide +kernel
theorem dMM_transition_26 : decode cMM_transition 26 = .ok (.isub, 1) := by decide +kernel
theorem dMM_transition_27 : decode cMM_transition 27 = .ok (.invokevirtual 100, 3) := by decide +kernel
theorem dMM_transition_30 : decode cMM_transition 30 = .ok (.ifCond .eq 7, 3) := by decide +kernel
theorem dMM_transition_33 : decode cMM_transition 33 = .ok (.iconst 1, 1) := by decide +kernel
theorem dMM_transition_34 : decode cMM_transition 34 = .ok (.goto 4, 3) := by decide +kernel
theorem dMM_transition_37 : decode cMM_transition 37 = .ok (.iconst 0, 1) := by decide +kernel
theorem dMM_transition_38 : decode cMM_transition 38 = .ok (.istore 4, 2) := by decide +kernel
theorem dMM_transition_40 : decode cMM_transition 40 = .ok (.iload_n 3, 1) := by decide +kernel
theorem dMM_transition_41 : decode cMM_transition 41 = .ok (.iconst (-1), 1) := by decide +kernel
theorem dMM_transition_42 : decode cMM_transition 42 = .ok (.if_icmp .eq 16, 3) := by decide +kernel
theorem dMM_transition_45 : decode cMM_transition 45 = .ok (.iload_n 3, 1) := by decide +kernel
theorem dMM_transition_46 : decode cMM_transition 46 = .ok (.iconst 1, 1) := by decide +kernel
theorem dMM_transition_47 : decode cMM_transition 47 = .ok (.if_icmp .lt 15, 3) := by decide +kernel
theorem dMM_transition_50 : decode cMM_transition 50 = .ok (.iload_n 3, 1) := by decide +kernel
theorem dMM_transition_51 : decode cMM_transition 51 = .ok (.aload_n 0, 1) := by decide +kernel
theorem dMM_transition_52 : decode cMM_transition 52 = .ok (.getfield 89, 3) := by decide +kernel
theorem dMM_transition_55 : decode cMM_transition 55 = .ok (.if_icmp .gt 7, 3) := by decide +kernel
theorem dMM_transition_58 : decode cMM_transition 58 = .ok (.iconst 1, 1) := by decide +kernel
theorem dMM_transition_59 : decode cMM_transition 59 = .ok (.goto 4, 3) := by decide +kernel
theorem dMM_transition_62 : decode cMM_transition 62 = .ok (.iconst 0, 1) := by decide +kernel
theorem dMM_transition_63 : decode cMM_transition 63 = .ok (.istore 5, 2) := by decide +kernel
theorem dMM_transition_65 : decode cMM_transition 65 = .ok (.aload_n 0, 1) := by decide +kernel
theorem dMM_transition_66 : decode cMM_transition 66 = .ok (.getfield 97, 3) := by decide +kernel
theorem dMM_transition_69 : decode cMM_transition 69 = .ok (.ifCond .ne 31, 3) := by decide +kernel
theorem dMM_transition_72 : decode cMM_transition 72 = .ok (.aload_n 0, 1) := by decide +kernel
theorem dMM_transition_73 : decode cMM_transition 73 = .ok (.iload_n 1, 1) := by decide +kernel
theorem dMM_transition_74 : decode cMM_transition 74 = .ok (.invokevirtual 100, 3) := by decide +kernel
theorem dMM_transition_77 : decode cMM_transition 77 = .ok (.ifCond .eq 23, 3) := by decide +kernel
theorem dMM_transition_80 : decode cMM_transition 80 = .ok (.aload_n 0, 1) := by decide +kernel
theorem dMM_transition_81 : decode cMM_transition 81 = .ok (.getfield 13, 3) := by decide +kernel
theorem dMM_transition_84 : decode cMM_transition 84 = .ok (.iload_n 1, 1) := by decide +kernel
theorem dMM_transition_85 : decode cMM_transition 85 = .ok (.iaload, 1) := by decide +kernel
theorem dMM_transition_86 : decode cMM_transition 86 = .ok (.iconst 3, 1) := by decide +kernel
theorem dMM_transition_87 : decode cMM_transition 87 = .ok (.if_icmp .eq 13, 3) := by decide +kernel
theorem dMM_transition_90 : decode cMM_transition 90 = .ok (.iload 4, 2) := by decide +kernel
theorem dMM_transition_92 : decode cMM_transition 92 = .ok (.ifCond .eq 8, 3) := by decide +kernel
theorem dMM_transition_95 : decode cMM_transition 95 = .ok (.iload 5, 2) := by decide +kernel
theorem dMM_transition_97 : decode cMM_transition 97 = .ok (.ifCond .ne 5, 3) := by decide +kernel
theorem dMM_transition_100 : decode cMM_transition 100 = .ok (.iconst (-1), 1) := by decide +kernel
theorem dMM_transition_101 : decode cMM_transition 101 = .ok (.ireturn, 1) := by decide +kernel
theorem dMM_transition_102 : decode cMM_transition 102 = .ok (.aload_n 0, 1) := by decide +kernel
theorem dMM_transition_103 : decode cMM_transition 103 = .ok (.getfield 104, 3) := by decide +kernel
theorem dMM_transition_106 : decode cMM_transition 106 = .ok (.bipush 20, 2) := by decide +kernel
theorem dMM_transition_108 : decode cMM_transition 108 = .ok (.if_icmp .ne 6, 3) := by decide +kernel
theorem dMM_transition_111 : decode cMM_transition 111 = .ok (.bipush (-2), 2) := by decide +kernel
theorem dMM_transition_113 : decode cMM_transition 113 = .ok (.ireturn, 1) := by decide +kernel
theorem dMM_transition_114 : decode cMM_transition 114 = .ok (.aload_n 0, 1) := by decide +kernel
theorem dMM_transition_115 : decode cMM_transition 115 = .ok (.getfield 19, 3) := by decide +kernel
theorem dMM_transition_118 : decode cMM_transition 118 = .ok (.aload_n 0, 1) := by decide +kernel
theorem dMM_transition_119 : decode cMM_transition 119 = .ok (.getfield 104, 3) := by decide +kernel
theorem dMM_transition_122 : decode cMM_transition 122 = .ok (.iload_n 1, 1) := by decide +kernel
theorem dMM_transition_123 : decode cMM_transition 123 = .ok (.iastore, 1) := by decide +kernel
theorem dMM_transition_124 : decode cMM_transition 124 = .ok (.aload_n 0, 1) := by decide +kernel
theorem dMM_transition_125 : decode cMM_transition 125 = .ok (.getfield 22, 3) := by decide +kernel
theorem dMM_transition_128 : decode cMM_transition 128 = .ok (.aload_n 0, 1) := by decide +kernel
theorem dMM_transition_129 : decode cMM_transition 129 = .ok (.getfield 104, 3) := by decide +kernel
theorem dMM_transition_132 : decode cMM_transition 132 = .ok (.iload_n 2, 1) := by decide +kernel
theorem dMM_transition_133 : decode cMM_transition 133 = .ok (.iastore, 1) := by decide +kernel
theorem dMM_transition_134 : decode cMM_transition 134 = .ok (.aload_n 0, 1) := by decide +kernel
theorem dMM_transition_135 : decode cMM_transition 135 = .ok (.getfield 25, 3) := by decide +kernel
theorem dMM_transition_138 : decode cMM_transition 138 = .ok (.aload_n 0, 1) := by decide +kernel
theorem dMM_transition_139 : decode cMM_transition 139 = .ok (.getfield 104, 3) := by decide +kernel
theorem dMM_transition_142 : decode cMM_transition 142 = .ok (.iload_n 3, 1) := by decide +kernel
theorem dMM_transition_143 : decode cMM_transition 143 = .ok (.iastore, 1) := by decide +kernel
theorem dMM_transition_144 : decode cMM_transition 144 = .ok (.aload_n 0, 1) := by decide +kernel
theorem dMM_transition_145 : decode cMM_transition 145 = .ok (.dup, 1) := by decide +kernel
theorem dMM_transition_146 : decode cMM_transition 146 = .ok (.getfield 104, 3) := by decide +kernel
theorem dMM_transition_149 : decode cMM_transition 149 = .ok (.iconst 1, 1) := by decide +kernel
theorem dMM_transition_150 : decode cMM_transition 150 = .ok (.iadd, 1) := by decide +kernel
theorem dMM_transition_151 : decode cMM_transition 151 = .ok (.putfield 104, 3) := by decide +kernel
theorem dMM_transition_154 : decode cMM_transition 154 = .ok (.aload_n 0, 1) := by decide +kernel
theorem dMM_transition_155 : decode cMM_transition 155 = .ok (.getfield 104, 3) := by decide +kernel
theorem dMM_transition_158 : decode cMM_transition 158 = .ok (.iconst 1, 1) := by decide +kernel
theorem dMM_transition_159 : decode cMM_transition 159 = .ok (.isub, 1) := by decide +kernel
theorem dMM_transition_160 : decode cMM_transition 160 = .ok (.ireturn, 1) := by decide +kernel
theorem dMM_guard_0 : decode cMM_guard 0 = .ok (.aload_n 0, 1) := by decide +kernel
theorem dMM_guard_1 : decode cMM_guard 1 = .ok (.getfield 97, 3) := by decide +kernel
theorem dMM_guard_4 : decode cMM_guard 4 = .ok (.ifCond .ne 24, 3) := by decide +kernel
theorem dMM_guard_7 : decode cMM_guard 7 = .ok (.iload_n 1, 1) := by decide +kernel
theorem dMM_guard_8 : decode cMM_guard 8 = .ok (.ifCond .lt 20, 3) := by decide +kernel
theorem dMM_guard_11 : decode cMM_guard 11 = .ok (.iload_n 1, 1) := by decide +kernel
theorem dMM_guard_12 : decode cMM_guard 12 = .ok (.aload_n 0, 1) := by decide +kernel
theorem dMM_guard_13 : decode cMM_guard 13 = .ok (.getfield 104, 3) := by decide +kernel
theorem dMM_guard_16 : decode cMM_guard 16 = .ok (.if_icmp .ge 12, 3) := by decide +kernel
theorem dMM_guard_19 : decode cMM_guard 19 = .ok (.iload_n 3, 1) := by decide +kernel
theorem dMM_guard_20 : decode cMM_guard 20 = .ok (.ifCond .lt 8, 3) := by decide +kernel
theorem dMM_guard_23 : decode cMM_guard 23 = .ok (.iload_n 3, 1) := by decide +kernel
theorem dMM_guard_24 : decode cMM_guard 24 = .ok (.iconst 3, 1) := by decide +kernel
theorem dMM_guard_25 : decode cMM_guard 25 = .ok (.if_icmp .le 5, 3) := by decide +kernel
theorem dMM_guard_28 : decode cMM_guard 28 = .ok (.iconst 0, 1) := by decide +kernel
theorem dMM_guard_29 : decode cMM_guard 29 = .ok (.ireturn, 1) := by decide +kernel
theorem dMM_guard_30 : decode cMM_guard 30 = .ok (.iload_n 3, 1) := by decide +kernel
theorem dMM_guard_31 : decode cMM_guard 31 = .ok (.iconst 3, 1) := by decide +kernel
theorem dMM_guard_32 : decode cMM_guard 32 = .ok (.if_icmp .ne 19, 3) := by decide +kernel
theorem dMM_guard_35 : decode cMM_guard 35 = .ok (.iload_n 2, 1) := by decide +kernel
theorem dMM_guard_36 : decode cMM_guard 36 = .ok (.ifCond .ne 24, 3) := by decide +kernel
theorem dMM_guard_39 : decode cMM_guard 39 = .ok (.aload_n 0, 1) := by decide +kernel
theorem dMM_guard_40 : decode cMM_guard 40 = .ok (.iload 4, 2) := by decide +kernel
theorem dMM_guard_42 : decode cMM_guard 42 = .ok (.invokevirtual 100, 3) := by decide +kernel
theorem dMM_guard_45 : decode cMM_guard 45 = .ok (.ifCond .ne 17, 3) := by decide +kernel
theorem dMM_guard_48 : decode cMM_guard 48 = .ok (.goto 12, 3) := by decide +kernel
theorem dMM_guard_51 : decode cMM_guard 51 = .ok (.iload_n 2, 1) := by decide +kernel
theorem dMM_guard_52 : decode cMM_guard 52 = .ok (.ifCond .lt 8, 3) := by decide +kernel
theorem dMM_guard_55 : decode cMM_guard 55 = .ok (.iload_n 2, 1) := by decide +kernel
theorem dMM_guard_56 : decode cMM_guard 56 = .ok (.iconst 3, 1) := by decide +kernel
theorem dMM_guard_57 : decode cMM_guard 57 = .ok (.if_icmp .le 5, 3) := by decide +kernel
theorem dMM_guard_60 : decode cMM_guard 60 = .ok (.iconst 0, 1) := by decide +kernel
theorem dMM_guard_61 : decode cMM_guard 61 = .ok (.ireturn, 1) := by decide +kernel
theorem dMM_guard_62 : decode cMM_guard 62 = .ok (.aload_n 0, 1) := by decide +kernel
theorem dMM_guard_63 : decode cMM_guard 63 = .ok (.getfield 28, 3) := by decide +kernel
theorem dMM_guard_66 : decode cMM_guard 66 = .ok (.iload_n 1, 1) := by decide +kernel
theorem dMM_guard_67 : decode cMM_guard 67 = .ok (.iconst 1, 1) := by decide +kernel
theorem dMM_guard_68 : decode cMM_guard 68 = .ok (.bastore, 1) := by decide +kernel
theorem dMM_guard_69 : decode cMM_guard 69 = .ok (.aload_n 0, 1) := by decide +kernel
theorem dMM_guard_70 : decode cMM_guard 70 = .ok (.getfield 32, 3) := by decide +kernel
theorem dMM_guard_73 : decode cMM_guard 73 = .ok (.iload_n 1, 1) := by decide +kernel
theorem dMM_guard_74 : decode cMM_guard 74 = .ok (.iload_n 2, 1) := by decide +kernel
theorem dMM_guard_75 : decode cMM_guard 75 = .ok (.iastore, 1) := by decide +kernel
theorem dMM_guard_76 : decode cMM_guard 76 = .ok (.aload_n 0, 1) := by decide +kernel
theorem dMM_guard_77 : decode cMM_guard 77 = .ok (.getfield 35, 3) := by decide +kernel
theorem dMM_guard_80 : decode cMM_guard 80 = .ok (.iload_n 1, 1) := by decide +kernel
theorem dMM_guard_81 : decode cMM_guard 81 = .ok (.iload_n 3, 1) := by decide +kernel
theorem dMM_guard_82 : decode cMM_guard 82 = .ok (.iastore, 1) := by decide +kernel
theorem dMM_guard_83 : decode cMM_guard 83 = .ok (.aload_n 0, 1) := by decide +kernel
theorem dMM_guard_84 : decode cMM_guard 84 = .ok (.getfield 38, 3) := by decide +kernel
theorem dMM_guard_87 : decode cMM_guard 87 = .ok (.iload_n 1, 1) := by decide +kernel
theorem dMM_guard_88 : decode cMM_guard 88 = .ok (.iload 4, 2) := by decide +kernel
theorem dMM_guard_90 : decode cMM_guard 90 = .ok (.iastore, 1) := by decide +kernel
theorem dMM_guard_91 : decode cMM_guard 91 = .ok (.iconst 1, 1) := by decide +kernel
theorem dMM_guard_92 : decode cMM_guard 92 = .ok (.ireturn, 1) := by decide +kernel
theorem dMM_action_0 : decode cMM_action 0 = .ok (.iload_n 1, 1) := by decide +kernel
theorem dMM_action_1 : decode cMM_action 1 = .ok (.ifCond .lt 11, 3) := by decide +kernel
theorem dMM_action_4 : decode cMM_action 4 = .ok (.iload_n 1, 1) := by decide +kernel
theorem dMM_action_5 : decode cMM_action 5 = .ok (.aload_n 0, 1) := by decide +kernel
theorem dMM_action_6 : decode cMM_action 6 = .ok (.getfield 104, 3) := by decide +kernel
theorem dMM_action_9 : decode cMM_action 9 = .ok (.if_icmp .lt 53, 3) := by decide +kernel
theorem dMM_action_12 : decode cMM_action 12 = .ok (.iload_n 1, 1) := by decide +kernel
theorem dMM_action_13 : decode cMM_action 13 = .ok (.bipush 100, 2) := by decide +kernel
theorem dMM_action_15 : decode cMM_action 15 = .ok (.if_icmp .le 21, 3) := by decide +kernel
theorem dMM_action_18 : decode cMM_action 18 = .ok (.iload_n 1, 1) := by decide +kernel
theorem dMM_action_19 : decode cMM_action 19 = .ok (.sipush 200, 3) := by decide +kernel
theorem dMM_action_22 : decode cMM_action 22 = .ok (.if_icmp .ge 14, 3) := by decide +kernel
theorem dMM_action_25 : decode cMM_action 25 = .ok (.aload_n 0, 1) := by decide +kernel
theorem dMM_action_26 : decode cMM_action 26 = .ok (.iload_n 1, 1) := by decide +kernel
theorem dMM_action_27 : decode cMM_action 27 = .ok (.bipush 100, 2) := by decide +kernel
theorem dMM_action_29 : decode cMM_action 29 = .ok (.isub, 1) := by decide +kernel
theorem dMM_action_30 : decode cMM_action 30 = .ok (.invokevirtual 100, 3) := by decide +kernel
theorem dMM_action_33 : decode cMM_action 33 = .ok (.ifCond .ne 29, 3) := by decide +kernel
theorem dMM_action_36 : decode cMM_action 36 = .ok (.iload_n 1, 1) := by decide +kernel
theorem dMM_action_37 : decode cMM_action 37 = .ok (.sipush 200, 3) := by decide +kernel
theorem dMM_action_40 : decode cMM_action 40 = .ok (.if_icmp .le 26, 3) := by decide +kernel
theorem dMM_action_43 : decode cMM_action 43 = .ok (.iload_n 1, 1) := by decide +kernel
theorem dMM_action_44 : decode cMM_action 44 = .ok (.sipush 300, 3) := by decide +kernel
theorem dMM_action_47 : decode cMM_action 47 = .ok (.if_icmp .ge 19, 3) := by decide +kernel
theorem dMM_action_50 : decode cMM_action 50 = .ok (.aload_n 0, 1) := by decide +kernel
theorem dMM_action_51 : decode cMM_action 51 = .ok (.iload_n 1, 1) := by decide +kernel
theorem dMM_action_52 : decode cMM_action 52 = .ok (.sipush 200, 3) := by decide +kernel
theorem dMM_action_55 : decode cMM_action 55 = .ok (.isub, 1) := by decide +kernel
theorem dMM_action_56 : decode cMM_action 56 = .ok (.invokevirtual 100, 3) := by decide +kernel
theorem dMM_action_59 : decode cMM_action 59 = .ok (.ifCond .eq 7, 3) := by decide +kernel
theorem dMM_action_62 : decode cMM_action 62 = .ok (.iconst 1, 1) := by decide +kernel
theorem dMM_action_63 : decode cMM_action 63 = .ok (.goto 4, 3) := by decide +kernel
theorem dMM_action_66 : decode cMM_action 66 = .ok (.iconst 0, 1) := by decide +kernel
theorem dMM_action_67 : decode cMM_action 67 = .ok (.istore 5, 2) := by decide +kernel
theorem dMM_action_69 : decode cMM_action 69 = .ok (.iload_n 2, 1) := by decide +kernel
theorem dMM_action_70 : decode cMM_action 70 = .ok (.ifCond .eq 8, 3) := by decide +kernel
theorem dMM_action_73 : decode cMM_action 73 = .ok (.iload_n 2, 1) := by decide +kernel
theorem dMM_action_74 : decode cMM_action 74 = .ok (.iconst 1, 1) := by decide +kernel
theorem dMM_action_75 : decode cMM_action 75 = .ok (.if_icmp .ne 20, 3) := by decide +kernel
theorem dMM_action_78 : decode cMM_action 78 = .ok (.iload_n 3, 1) := by decide +kernel
theorem dMM_action_79 : decode cMM_action 79 = .ok (.ifCond .lt 12, 3) := by decide +kernel
theorem dMM_action_82 : decode cMM_action 82 = .ok (.iload_n 3, 1) := by decide +kernel
theorem dMM_action_83 : decode cMM_action 83 = .ok (.iconst 3, 1) := by decide +kernel
theorem dMM_action_84 : decode cMM_action 84 = .ok (.if_icmp .gt 7, 3) := by decide +kernel
theorem dMM_action_87 : decode cMM_action 87 = .ok (.iconst 1, 1) := by decide +kernel
theorem dMM_action_88 : decode cMM_action 88 = .ok (.goto 44, 3) := by decide +kernel
theorem dMM_action_91 : decode cMM_action 91 = .ok (.iconst 0, 1) := by decide +kernel
theorem dMM_action_92 : decode cMM_action 92 = .ok (.goto 40, 3) := by decide +kernel
theorem dMM_action_95 : decode cMM_action 95 = .ok (.iload_n 3, 1) := by decide +kernel
theorem dMM_action_96 : decode cMM_action 96 = .ok (.iconst 1, 1) := by decide +kernel
theorem dMM_action_97 : decode cMM_action 97 = .ok (.if_icmp .lt 34, 3) := by decide +kernel
theorem dMM_action_100 : decode cMM_action 100 = .ok (.iload_n 3, 1) := by decide +kernel
theorem dMM_action_101 : decode cMM_action 101 = .ok (.bipush 20, 2) := by decide +kernel
theorem dMM_action_103 : decode cMM_action 103 = .ok (.if_icmp .gt 28, 3) := by decide +kernel
theorem dMM_action_106 : decode cMM_action 106 = .ok (.iload 4, 2) := by decide +kernel
theorem dMM_action_108 : decode cMM_action 108 = .ok (.ifCond .lt 23, 3) := by decide +kernel
theorem dMM_action_111 : decode cMM_action 111 = .ok (.iload 4, 2) := by decide +kernel
theorem dMM_action_113 : decode cMM_action 113 = .ok (.iload_n 2, 1) := by decide +kernel
theorem dMM_action_114 : decode cMM_action 114 = .ok (.iconst 2, 1) := by decide +kernel
theorem dMM_action_115 : decode cMM_action 115 = .ok (.if_icmp .ne 7, 3) := by decide +kernel
theorem dMM_action_118 : decode cMM_action 118 = .ok (.iconst 0, 1) := by decide +kernel
theorem dMM_action_119 : decode cMM_action 119 = .ok (.goto 5, 3) := by decide +kernel
theorem dMM_action_122 : decode cMM_action 122 = .ok (.bipush 50, 2) := by decide +kernel
theorem dMM_action_124 : decode cMM_action 124 = .ok (.if_icmp .gt 7, 3) := by decide +kernel
theorem dMM_action_127 : decode cMM_action 127 = .ok (.iconst 1, 1) := by decide +kernel
theorem dMM_action_128 : decode cMM_action 128 = .ok (.goto 4, 3) := by decide +kernel
theorem dMM_action_131 : decode cMM_action 131 = .ok (.iconst 0, 1) := by decide +kernel
theorem dMM_action_132 : decode cMM_action 132 = .ok (.istore 6, 2) := by decide +kernel
theorem dMM_action_134 : decode cMM_action 134 = .ok (.aload_n 0, 1) := by decide +kernel
theorem dMM_action_135 : decode cMM_action 135 = .ok (.getfield 97, 3) := by decide +kernel
theorem dMM_action_138 : decode cMM_action 138 = .ok (.ifCond .ne 31, 3) := by decide +kernel
theorem dMM_action_141 : decode cMM_action 141 = .ok (.iload 5, 2) := by decide +kernel
theorem dMM_action_143 : decode cMM_action 143 = .ok (.ifCond .eq 26, 3) := by decide +kernel
theorem dMM_action_146 : decode cMM_action 146 = .ok (.iload_n 2, 1) := by decide +kernel
theorem dMM_action_147 : decode cMM_action 147 = .ok (.ifCond .lt 22, 3) := by decide +kernel
theorem dMM_action_150 : decode cMM_action 150 = .ok (.iload_n 2, 1) := by decide +kernel
theorem dMM_action_151 : decode cMM_action 151 = .ok (.iconst 3, 1) := by decide +kernel
theorem dMM_action_152 : decode cMM_action 152 = .ok (.if_icmp .gt 17, 3) := by decide +kernel
theorem dMM_action_155 : decode cMM_action 155 = .ok (.iload 6, 2) := by decide +kernel
theorem dMM_action_157 : decode cMM_action 157 = .ok (.ifCond .eq 12, 3) := by decide +kernel
theorem dMM_action_160 : decode cMM_action 160 = .ok (.aload_n 0, 1) := by decide +kernel
theorem dMM_action_161 : decode cMM_action 161 = .ok (.getfield 107, 3) := by decide +kernel
theorem dMM_action_164 : decode cMM_action 164 = .ok (.bipush 32, 2) := by decide +kernel
theorem dMM_action_166 : decode cMM_action 166 = .ok (.if_icmp .ne 5, 3) := by decide +kernel
theorem dMM_action_169 : decode cMM_action 169 = .ok (.iconst 0, 1) := by decide +kernel
theorem dMM_action_170 : decode cMM_action 170 = .ok (.ireturn, 1) := by decide +kernel
theorem dMM_action_171 : decode cMM_action 171 = .ok (.aload_n 0, 1) := by decide +kernel
theorem dMM_action_172 : decode cMM_action 172 = .ok (.getfield 41, 3) := by decide +kernel
theorem dMM_action_175 : decode cMM_action 175 = .ok (.aload_n 0, 1) := by decide +kernel
theorem dMM_action_176 : decode cMM_action 176 = .ok (.getfield 107, 3) := by decide +kernel
theorem dMM_action_179 : decode cMM_action 179 = .ok (.iload_n 1, 1) := by decide +kernel
theorem dMM_action_180 : decode cMM_action 180 = .ok (.iastore, 1) := by decide +kernel
theorem dMM_action_181 : decode cMM_action 181 = .ok (.aload_n 0, 1) := by decide +kernel
theorem dMM_action_182 : decode cMM_action 182 = .ok (.getfield 44, 3) := by decide +kernel
theorem dMM_action_185 : decode cMM_action 185 = .ok (.aload_n 0, 1) := by decide +kernel
theorem dMM_action_186 : decode cMM_action 186 = .ok (.getfield 107, 3) := by decide +kernel
theorem dMM_action_189 : decode cMM_action 189 = .ok (.iload_n 2, 1) := by decide +kernel
theorem dMM_action_190 : decode cMM_action 190 = .ok (.iastore, 1) := by decide +kernel
theorem dMM_action_191 : decode cMM_action 191 = .ok (.aload_n 0, 1) := by decide +kernel
theorem dMM_action_192 : decode cMM_action 192 = .ok (.getfield 47, 3) := by decide +kernel
theorem dMM_action_195 : decode cMM_action 195 = .ok (.aload_n 0, 1) := by decide +kernel
theorem dMM_action_196 : decode cMM_action 196 = .ok (.getfield 107, 3) := by decide +kernel
theorem dMM_action_199 : decode cMM_action 199 = .ok (.iload_n 3, 1) := by decide +kernel
theorem dMM_action_200 : decode cMM_action 200 = .ok (.iastore, 1) := by decide +kernel
theorem dMM_action_201 : decode cMM_action 201 = .ok (.aload_n 0, 1) := by decide +kernel
theorem dMM_action_202 : decode cMM_action 202 = .ok (.getfield 50, 3) := by decide +kernel
theorem dMM_action_205 : decode cMM_action 205 = .ok (.aload_n 0, 1) := by decide +kernel
theorem dMM_action_206 : decode cMM_action 206 = .ok (.getfield 107, 3) := by decide +kernel
theorem dMM_action_209 : decode cMM_action 209 = .ok (.iload 4, 2) := by decide +kernel
theorem dMM_action_211 : decode cMM_action 211 = .ok (.iastore, 1) := by decide +kernel
theorem dMM_action_212 : decode cMM_action 212 = .ok (.aload_n 0, 1) := by decide +kernel
theorem dMM_action_213 : decode cMM_action 213 = .ok (.dup, 1) := by decide +kernel
theorem dMM_action_214 : decode cMM_action 214 = .ok (.getfield 107, 3) := by decide +kernel
theorem dMM_action_217 : decode cMM_action 217 = .ok (.iconst 1, 1) := by decide +kernel
theorem dMM_action_218 : decode cMM_action 218 = .ok (.iadd, 1) := by decide +kernel
theorem dMM_action_219 : decode cMM_action 219 = .ok (.putfield 107, 3) := by decide +kernel
theorem dMM_action_222 : decode cMM_action 222 = .ok (.iconst 1, 1) := by decide +kernel
theorem dMM_action_223 : decode cMM_action 223 = .ok (.ireturn, 1) := by decide +kernel
theorem dMM_failed_0 : decode cMM_failed 0 = .ok (.aload_n 0, 1) := by decide +kernel
theorem dMM_failed_1 : decode cMM_failed 1 = .ok (.getfield 97, 3) := by decide +kernel
theorem dMM_failed_4 : decode cMM_failed 4 = .ok (.iconst 2, 1) := by decide +kernel
theorem dMM_failed_5 : decode cMM_failed 5 = .ok (.if_icmp .le 7, 3) := by decide +kernel
theorem dMM_failed_8 : decode cMM_failed 8 = .ok (.iconst 1, 1) := by decide +kernel
theorem dMM_failed_9 : decode cMM_failed 9 = .ok (.goto 4, 3) := by decide +kernel
theorem dMM_failed_12 : decode cMM_failed 12 = .ok (.iconst 0, 1) := by decide +kernel
theorem dMM_failed_13 : decode cMM_failed 13 = .ok (.ireturn, 1) := by decide +kernel
theorem dMM_write_0 : decode cMM_write 0 = .ok (.aload_n 0, 1) := by decide +kernel
theorem dMM_write_1 : decode cMM_write 1 = .ok (.getfield 110, 3) := by decide +kernel
theorem dMM_write_4 : decode cMM_write 4 = .ok (.sipush 200, 3) := by decide +kernel
theorem dMM_write_7 : decode cMM_write 7 = .ok (.if_icmp .ne 11, 3) := by decide +kernel
theorem dMM_write_10 : decode cMM_write 10 = .ok (.aload_n 0, 1) := by decide +kernel
theorem dMM_write_11 : decode cMM_write 11 = .ok (.iconst 4, 1) := by decide +kernel
theorem dMM_write_12 : decode cMM_write 12 = .ok (.putfield 97, 3) := by decide +kernel
theorem dMM_write_15 : decode cMM_write 15 = .ok (.goto 23, 3) := by decide +kernel
theorem dMM_write_18 : decode cMM_write 18 = .ok (.aload_n 0, 1) := by decide +kernel
theorem dMM_write_19 : decode cMM_write 19 = .ok (.getfield 74, 3) := by decide +kernel
theorem dMM_write_22 : decode cMM_write 22 = .ok (.aload_n 0, 1) := by decide +kernel
theorem dMM_write_23 : decode cMM_write 23 = .ok (.getfield 110, 3) := by decide +kernel
theorem dMM_write_26 : decode cMM_write 26 = .ok (.iload_n 1, 1) := by decide +kernel
theorem dMM_write_27 : decode cMM_write 27 = .ok (.iastore, 1) := by decide +kernel
theorem dMM_write_28 : decode cMM_write 28 = .ok (.aload_n 0, 1) := by decide +kernel
theorem dMM_write_29 : decode cMM_write 29 = .ok (.dup, 1) := by decide +kernel
theorem dMM_write_30 : decode cMM_write 30 = .ok (.getfield 110, 3) := by decide +kernel
theorem dMM_write_33 : decode cMM_write 33 = .ok (.iconst 1, 1) := by decide +kernel
theorem dMM_write_34 : decode cMM_write 34 = .ok (.iadd, 1) := by decide +kernel
theorem dMM_write_35 : decode cMM_write 35 = .ok (.putfield 110, 3) := by decide +kernel
theorem dMM_write_38 : decode cMM_write 38 = .ok (.return_, 1) := by decide +kernel
theorem dMM_raise_0 : decode cMM_raise 0 = .ok (.aload_n 0, 1) := by decide +kernel
theorem dMM_raise_1 : decode cMM_raise 1 = .ok (.getfield 113, 3) := by decide +kernel
theorem dMM_raise_4 : decode cMM_raise 4 = .ok (.bipush 16, 2) := by decide +kernel
theorem dMM_raise_6 : decode cMM_raise 6 = .ok (.if_icmp .ne 11, 3) := by decide +kernel
theorem dMM_raise_9 : decode cMM_raise 9 = .ok (.aload_n 0, 1) := by decide +kernel
theorem dMM_raise_10 : decode cMM_raise 10 = .ok (.iconst 4, 1) := by decide +kernel
theorem dMM_raise_11 : decode cMM_raise 11 = .ok (.putfield 97, 3) := by decide +kernel
theorem dMM_raise_14 : decode cMM_raise 14 = .ok (.goto 23, 3) := by decide +kernel
theorem dMM_raise_17 : decode cMM_raise 17 = .ok (.aload_n 0, 1) := by decide +kernel
theorem dMM_raise_18 : decode cMM_raise 18 = .ok (.getfield 62, 3) := by decide +kernel
theorem dMM_raise_21 : decode cMM_raise 21 = .ok (.aload_n 0, 1) := by decide +kernel
theorem dMM_raise_22 : decode cMM_raise 22 = .ok (.getfield 113, 3) := by decide +kernel
theorem dMM_raise_25 : decode cMM_raise 25 = .ok (.iload_n 1, 1) := by decide +kernel
theorem dMM_raise_26 : decode cMM_raise 26 = .ok (.iastore, 1) := by decide +kernel
theorem dMM_raise_27 : decode cMM_raise 27 = .ok (.aload_n 0, 1) := by decide +kernel
theorem dMM_raise_28 : decode cMM_raise 28 = .ok (.dup, 1) := by decide +kernel
theorem dMM_raise_29 : decode cMM_raise 29 = .ok (.getfield 113, 3) := by decide +kernel
theorem dMM_raise_32 : decode cMM_raise 32 = .ok (.iconst 1, 1) := by decide +kernel
theorem dMM_raise_33 : decode cMM_raise 33 = .ok (.iadd, 1) := by decide +kernel
theorem dMM_raise_34 : decode cMM_raise 34 = .ok (.putfield 113, 3) := by decide +kernel
theorem dMM_raise_37 : decode cMM_raise 37 = .ok (.return_, 1) := by decide +kernel
theorem dMM_queue_0 : decode cMM_queue 0 = .ok (.aload_n 0, 1) := by decide +kernel
theorem dMM_queue_1 : decode cMM_queue 1 = .ok (.getfield 116, 3) := by decide +kernel
theorem dMM_queue_4 : decode cMM_queue 4 = .ok (.bipush 16, 2) := by decide +kernel
theorem dMM_queue_6 : decode cMM_queue 6 = .ok (.if_icmp .ne 5, 3) := by decide +kernel
theorem dMM_queue_9 : decode cMM_queue 9 = .ok (.iconst 0, 1) := by decide +kernel
theorem dMM_queue_10 : decode cMM_queue 10 = .ok (.ireturn, 1) := by decide +kernel
theorem dMM_queue_11 : decode cMM_queue 11 = .ok (.aload_n 0, 1) := by decide +kernel
theorem dMM_queue_12 : decode cMM_queue 12 = .ok (.getfield 65, 3) := by decide +kernel
theorem dMM_queue_15 : decode cMM_queue 15 = .ok (.aload_n 0, 1) := by decide +kernel
theorem dMM_queue_16 : decode cMM_queue 16 = .ok (.getfield 116, 3) := by decide +kernel
theorem dMM_queue_19 : decode cMM_queue 19 = .ok (.iload_n 1, 1) := by decide +kernel
theorem dMM_queue_20 : decode cMM_queue 20 = .ok (.iastore, 1) := by decide +kernel
theorem dMM_queue_21 : decode cMM_queue 21 = .ok (.aload_n 0, 1) := by decide +kernel
theorem dMM_queue_22 : decode cMM_queue 22 = .ok (.dup, 1) := by decide +kernel
theorem dMM_queue_23 : decode cMM_queue 23 = .ok (.getfield 116, 3) := by decide +kernel
theorem dMM_queue_26 : decode cMM_queue 26 = .ok (.iconst 1, 1) := by decide +kernel
theorem dMM_queue_27 : decode cMM_queue 27 = .ok (.iadd, 1) := by decide +kernel
theorem dMM_queue_28 : decode cMM_queue 28 = .ok (.putfield 116, 3) := by decide +kernel
theorem dMM_queue_31 : decode cMM_queue 31 = .ok (.iconst 1, 1) := by decide +kernel
theorem dMM_queue_32 : decode cMM_queue 32 = .ok (.ireturn, 1) := by decide +kernel
theorem dMM_send_0 : decode cMM_send 0 = .ok (.iload_n 2, 1) := by decide +kernel
theorem dMM_send_1 : decode cMM_send 1 = .ok (.ifCond .ne 26, 3) := by decide +kernel
theorem dMM_send_4 : decode cMM_send 4 = .ok (.aload_n 0, 1) := by decide +kernel
theorem dMM_send_5 : decode cMM_send 5 = .ok (.aload_n 0, 1) := by decide +kernel
theorem dMM_send_6 : decode cMM_send 6 = .ok (.iload_n 1, 1) := by decide +kernel
theorem dMM_send_7 : decode cMM_send 7 = .ok (.invokevirtual 119, 3) := by decide +kernel
theorem dMM_send_10 : decode cMM_send 10 = .ok (.ifCond .eq 10, 3) := by decide +kernel
theorem dMM_send_13 : decode cMM_send 13 = .ok (.aload_n 0, 1) := by decide +kernel
theorem dMM_send_14 : decode cMM_send 14 = .ok (.getfield 97, 3) := by decide +kernel
theorem dMM_send_17 : decode cMM_send 17 = .ok (.goto 4, 3) := by decide +kernel
theorem dMM_send_20 : decode cMM_send 20 = .ok (.iconst 4, 1) := by decide +kernel
theorem dMM_send_21 : decode cMM_send 21 = .ok (.putfield 97, 3) := by decide +kernel
theorem dMM_send_24 : decode cMM_send 24 = .ok (.goto 55, 3) := by decide +kernel
theorem dMM_send_27 : decode cMM_send 27 = .ok (.aload_n 0, 1) := by decide +kernel
theorem dMM_send_28 : decode cMM_send 28 = .ok (.getfield 122, 3) := by decide +kernel
theorem dMM_send_31 : decode cMM_send 31 = .ok (.bipush 12, 2) := by decide +kernel
theorem dMM_send_33 : decode cMM_send 33 = .ok (.if_icmp .ne 11, 3) := by decide +kernel
theorem dMM_send_36 : decode cMM_send 36 = .ok (.aload_n 0, 1) := by decide +kernel
theorem dMM_send_37 : decode cMM_send 37 = .ok (.iconst 4, 1) := by decide +kernel
theorem dMM_send_38 : decode cMM_send 38 = .ok (.putfield 97, 3) := by decide +kernel
theorem dMM_send_41 : decode cMM_send 41 = .ok (.goto 38, 3) := by decide +kernel
theorem dMM_send_44 : decode cMM_send 44 = .ok (.aload_n 0, 1) := by decide +kernel
theorem dMM_send_45 : decode cMM_send 45 = .ok (.getfield 68, 3) := by decide +kernel
theorem dMM_send_48 : decode cMM_send 48 = .ok (.aload_n 0, 1) := by decide +kernel
theorem dMM_send_49 : decode cMM_send 49 = .ok (.getfield 122, 3) := by decide +kernel
theorem dMM_send_52 : decode cMM_send 52 = .ok (.iload_n 1, 1) := by decide +kernel
theorem dMM_send_53 : decode cMM_send 53 = .ok (.iastore, 1) := by decide +kernel
theorem dMM_send_54 : decode cMM_send 54 = .ok (.aload_n 0, 1) := by decide +kernel
theorem dMM_send_55 : decode cMM_send 55 = .ok (.getfield 71, 3) := by decide +kernel
theorem dMM_send_58 : decode cMM_send 58 = .ok (.aload_n 0, 1) := by decide +kernel
theorem dMM_send_59 : decode cMM_send 59 = .ok (.getfield 122, 3) := by decide +kernel
theorem dMM_send_62 : decode cMM_send 62 = .ok (.aload_n 0, 1) := by decide +kernel
theorem dMM_send_63 : decode cMM_send 63 = .ok (.getfield 125, 3) := by decide +kernel
theorem dMM_send_66 : decode cMM_send 66 = .ok (.iload_n 2, 1) := by decide +kernel
theorem dMM_send_67 : decode cMM_send 67 = .ok (.iadd, 1) := by decide +kernel
theorem dMM_send_68 : decode cMM_send 68 = .ok (.iastore, 1) := by decide +kernel
theorem dMM_send_69 : decode cMM_send 69 = .ok (.aload_n 0, 1) := by decide +kernel
theorem dMM_send_70 : decode cMM_send 70 = .ok (.dup, 1) := by decide +kernel
theorem dMM_send_71 : decode cMM_send 71 = .ok (.getfield 122, 3) := by decide +kernel
theorem dMM_send_74 : decode cMM_send 74 = .ok (.iconst 1, 1) := by decide +kernel
theorem dMM_send_75 : decode cMM_send 75 = .ok (.iadd, 1) := by decide +kernel
theorem dMM_send_76 : decode cMM_send 76 = .ok (.putfield 122, 3) := by decide +kernel
theorem dMM_send_79 : decode cMM_send 79 = .ok (.return_, 1) := by decide +kernel
theorem dMM_act_0 : decode cMM_act 0 = .ok (.iconst 0, 1) := by decide +kernel
theorem dMM_act_1 : decode cMM_act 1 = .ok (.istore_n 2, 1) := by decide +kernel
theorem dMM_act_2 : decode cMM_act 2 = .ok (.iload_n 2, 1) := by decide +kernel
theorem dMM_act_3 : decode cMM_act 3 = .ok (.aload_n 0, 1) := by decide +kernel
theorem dMM_act_4 : decode cMM_act 4 = .ok (.getfield 107, 3) := by decide +kernel
theorem dMM_act_7 : decode cMM_act 7 = .ok (.if_icmp .ge 127, 3) := by decide +kernel
theorem dMM_act_10 : decode cMM_act 10 = .ok (.aload_n 0, 1) := by decide +kernel
theorem dMM_act_11 : decode cMM_act 11 = .ok (.invokevirtual 128, 3) := by decide +kernel
theorem dMM_act_14 : decode cMM_act 14 = .ok (.ifCond .ne 120, 3) := by decide +kernel
theorem dMM_act_17 : decode cMM_act 17 = .ok (.aload_n 0, 1) := by decide +kernel
theorem dMM_act_18 : decode cMM_act 18 = .ok (.getfield 41, 3) := by decide +kernel
theorem dMM_act_21 : decode cMM_act 21 = .ok (.iload_n 2, 1) := by decide +kernel
theorem dMM_act_22 : decode cMM_act 22 = .ok (.iaload, 1) := by decide +kernel
theorem dMM_act_23 : decode cMM_act 23 = .ok (.iload_n 1, 1) := by decide +kernel
theorem dMM_act_24 : decode cMM_act 24 = .ok (.if_icmp .ne 104, 3) := by decide +kernel
theorem dMM_act_27 : decode cMM_act 27 = .ok (.aload_n 0, 1) := by decide +kernel
theorem dMM_act_28 : decode cMM_act 28 = .ok (.getfield 44, 3) := by decide +kernel
theorem dMM_act_31 : decode cMM_act 31 = .ok (.iload_n 2, 1) := by decide +kernel
theorem dMM_act_32 : decode cMM_act 32 = .ok (.iaload, 1) := by decide +kernel
theorem dMM_act_33 : decode cMM_act 33 = .ok (.ifCond .ne 23, 3) := by decide +kernel
theorem dMM_act_36 : decode cMM_act 36 = .ok (.aload_n 0, 1) := by decide +kernel
theorem dMM_act_37 : decode cMM_act 37 = .ok (.getfield 59, 3) := by decide +kernel
theorem dMM_act_40 : decode cMM_act 40 = .ok (.aload_n 0, 1) := by decide +kernel
theorem dMM_act_41 : decode cMM_act 41 = .ok (.getfield 47, 3) := by decide +kernel
theorem dMM_act_44 : decode cMM_act 44 = .ok (.iload_n 2, 1) := by decide +kernel
theorem dMM_act_45 : decode cMM_act 45 = .ok (.iaload, 1) := by decide +kernel
theorem dMM_act_46 : decode cMM_act 46 = .ok (.aload_n 0, 1) := by decide +kernel
theorem dMM_act_47 : decode cMM_act 47 = .ok (.getfield 50, 3) := by decide +kernel
theorem dMM_act_50 : decode cMM_act 50 = .ok (.iload_n 2, 1) := by decide +kernel
theorem dMM_act_51 : decode cMM_act 51 = .ok (.iaload, 1) := by decide +kernel
theorem dMM_act_52 : decode cMM_act 52 = .ok (.iastore, 1) := by decide +kernel
theorem dMM_act_53 : decode cMM_act 53 = .ok (.goto 75, 3) := by decide +kernel
theorem dMM_act_56 : decode cMM_act 56 = .ok (.aload_n 0, 1) := by decide +kernel
theorem dMM_act_57 : decode cMM_act 57 = .ok (.getfield 44, 3) := by decide +kernel
theorem dMM_act_60 : decode cMM_act 60 = .ok (.iload_n 2, 1) := by decide +kernel
theorem dMM_act_61 : decode cMM_act 61 = .ok (.iaload, 1) := by decide +kernel
theorem dMM_act_62 : decode cMM_act 62 = .ok (.iconst 1, 1) := by decide +kernel
theorem dMM_act_63 : decode cMM_act 63 = .ok (.if_icmp .ne 26, 3) := by decide +kernel
theorem dMM_act_66 : decode cMM_act 66 = .ok (.aload_n 0, 1) := by decide +kernel
theorem dMM_act_67 : decode cMM_act 67 = .ok (.getfield 59, 3) := by decide +kernel
theorem dMM_act_70 : decode cMM_act 70 = .ok (.aload_n 0, 1) := by decide +kernel
theorem dMM_act_71 : decode cMM_act 71 = .ok (.getfield 47, 3) := by decide +kernel
theorem dMM_act_74 : decode cMM_act 74 = .ok (.iload_n 2, 1) := by decide +kernel
theorem dMM_act_75 : decode cMM_act 75 = .ok (.iaload, 1) := by decide +kernel
theorem dMM_act_76 : decode cMM_act 76 = .ok (.dup2, 1) := by decide +kernel
theorem dMM_act_77 : decode cMM_act 77 = .ok (.iaload, 1) := by decide +kernel
theorem dMM_act_78 : decode cMM_act 78 = .ok (.aload_n 0, 1) := by decide +kernel
theorem dMM_act_79 : decode cMM_act 79 = .ok (.getfield 50, 3) := by decide +kernel
theorem dMM_act_82 : decode cMM_act 82 = .ok (.iload_n 2, 1) := by decide +kernel
theorem dMM_act_83 : decode cMM_act 83 = .ok (.iaload, 1) := by decide +kernel
theorem dMM_act_84 : decode cMM_act 84 = .ok (.iadd, 1) := by decide +kernel
theorem dMM_act_85 : decode cMM_act 85 = .ok (.iastore, 1) := by decide +kernel
theorem dMM_act_86 : decode cMM_act 86 = .ok (.goto 42, 3) := by decide +kernel
theorem dMM_act_89 : decode cMM_act 89 = .ok (.aload_n 0, 1) := by decide +kernel
theorem dMM_act_90 : decode cMM_act 90 = .ok (.getfield 44, 3) := by decide +kernel
theorem dMM_act_93 : decode cMM_act 93 = .ok (.iload_n 2, 1) := by decide +kernel
theorem dMM_act_94 : decode cMM_act 94 = .ok (.iaload, 1) := by decide +kernel
theorem dMM_act_95 : decode cMM_act 95 = .ok (.iconst 2, 1) := by decide +kernel
theorem dMM_act_96 : decode cMM_act 96 = .ok (.if_icmp .ne 16, 3) := by decide +kernel
theorem dMM_act_99 : decode cMM_act 99 = .ok (.aload_n 0, 1) := by decide +kernel
theorem dMM_act_100 : decode cMM_act 100 = .ok (.aload_n 0, 1) := by decide +kernel
theorem dMM_act_101 : decode cMM_act 101 = .ok (.getfield 47, 3) := by decide +kernel
theorem dMM_act_104 : decode cMM_act 104 = .ok (.iload_n 2, 1) := by decide +kernel
theorem dMM_act_105 : decode cMM_act 105 = .ok (.iaload, 1) := by decide +kernel
theorem dMM_act_106 : decode cMM_act 106 = .ok (.invokevirtual 132, 3) := by decide +kernel
theorem dMM_act_109 : decode cMM_act 109 = .ok (.goto 19, 3) := by decide +kernel
theorem dMM_act_112 : decode cMM_act 112 = .ok (.aload_n 0, 1) := by decide +kernel
theorem dMM_act_113 : decode cMM_act 113 = .ok (.aload_n 0, 1) := by decide +kernel
theorem dMM_act_114 : decode cMM_act 114 = .ok (.getfield 47, 3) := by decide +kernel
theorem dMM_act_117 : decode cMM_act 117 = .ok (.iload_n 2, 1) := by decide +kernel
theorem dMM_act_118 : decode cMM_act 118 = .ok (.iaload, 1) := by decide +kernel
theorem dMM_act_119 : decode cMM_act 119 = .ok (.aload_n 0, 1) := by decide +kernel
theorem dMM_act_120 : decode cMM_act 120 = .ok (.getfield 50, 3) := by decide +kernel
theorem dMM_act_123 : decode cMM_act 123 = .ok (.iload_n 2, 1) := by decide +kernel
theorem dMM_act_124 : decode cMM_act 124 = .ok (.iaload, 1) := by decide +kernel
theorem dMM_act_125 : decode cMM_act 125 = .ok (.invokevirtual 136, 3) := by decide +kernel
theorem dMM_act_128 : decode cMM_act 128 = .ok (.iinc 2 1, 3) := by decide +kernel
theorem dMM_act_131 : decode cMM_act 131 = .ok (.goto (-129), 3) := by decide +kernel
theorem dMM_act_134 : decode cMM_act 134 = .ok (.return_, 1) := by decide +kernel
theorem dMM_holds_0 : decode cMM_holds 0 = .ok (.aload_n 0, 1) := by decide +kernel
theorem dMM_holds_1 : decode cMM_holds 1 = .ok (.getfield 28, 3) := by decide +kernel
theorem dMM_holds_4 : decode cMM_holds 4 = .ok (.iload_n 1, 1) := by decide +kernel
theorem dMM_holds_5 : decode cMM_holds 5 = .ok (.baload, 1) := by decide +kernel
theorem dMM_holds_6 : decode cMM_holds 6 = .ok (.ifCond .ne 5, 3) := by decide +kernel
theorem dMM_holds_9 : decode cMM_holds 9 = .ok (.iconst 1, 1) := by decide +kernel
theorem dMM_holds_10 : decode cMM_holds 10 = .ok (.ireturn, 1) := by decide +kernel
theorem dMM_holds_11 : decode cMM_holds 11 = .ok (.aload_n 0, 1) := by decide +kernel
theorem dMM_holds_12 : decode cMM_holds 12 = .ok (.getfield 35, 3) := by decide +kernel
theorem dMM_holds_15 : decode cMM_holds 15 = .ok (.iload_n 1, 1) := by decide +kernel
theorem dMM_holds_16 : decode cMM_holds 16 = .ok (.iaload, 1) := by decide +kernel
theorem dMM_holds_17 : decode cMM_holds 17 = .ok (.iconst 3, 1) := by decide +kernel
theorem dMM_holds_18 : decode cMM_holds 18 = .ok (.if_icmp .ne 15, 3) := by decide +kernel
theorem dMM_holds_21 : decode cMM_holds 21 = .ok (.aload_n 0, 1) := by decide +kernel
theorem dMM_holds_22 : decode cMM_holds 22 = .ok (.getfield 53, 3) := by decide +kernel
theorem dMM_holds_25 : decode cMM_holds 25 = .ok (.aload_n 0, 1) := by decide +kernel
theorem dMM_holds_26 : decode cMM_holds 26 = .ok (.getfield 38, 3) := by decide +kernel
theorem dMM_holds_29 : decode cMM_holds 29 = .ok (.iload_n 1, 1) := by decide +kernel
theorem dMM_holds_30 : decode cMM_holds 30 = .ok (.iaload, 1) := by decide +kernel
theorem dMM_holds_31 : decode cMM_holds 31 = .ok (.baload, 1) := by decide +kernel
theorem dMM_holds_32 : decode cMM_holds 32 = .ok (.ireturn, 1) := by decide +kernel
theorem dMM_holds_33 : decode cMM_holds 33 = .ok (.aload_n 0, 1) := by decide +kernel
theorem dMM_holds_34 : decode cMM_holds 34 = .ok (.getfield 59, 3) := by decide +kernel
theorem dMM_holds_37 : decode cMM_holds 37 = .ok (.aload_n 0, 1) := by decide +kernel
theorem dMM_holds_38 : decode cMM_holds 38 = .ok (.getfield 32, 3) := by decide +kernel
theorem dMM_holds_41 : decode cMM_holds 41 = .ok (.iload_n 1, 1) := by decide +kernel
theorem dMM_holds_42 : decode cMM_holds 42 = .ok (.iaload, 1) := by decide +kernel
theorem dMM_holds_43 : decode cMM_holds 43 = .ok (.iaload, 1) := by decide +kernel
theorem dMM_holds_44 : decode cMM_holds 44 = .ok (.istore_n 2, 1) := by decide +kernel
theorem dMM_holds_45 : decode cMM_holds 45 = .ok (.aload_n 0, 1) := by decide +kernel
theorem dMM_holds_46 : decode cMM_holds 46 = .ok (.getfield 35, 3) := by decide +kernel
theorem dMM_holds_49 : decode cMM_holds 49 = .ok (.iload_n 1, 1) := by decide +kernel
theorem dMM_holds_50 : decode cMM_holds 50 = .ok (.iaload, 1) := by decide +kernel
theorem dMM_holds_51 : decode cMM_holds 51 = .ok (.ifCond .ne 21, 3) := by decide +kernel
theorem dMM_holds_54 : decode cMM_holds 54 = .ok (.iload_n 2, 1) := by decide +kernel
theorem dMM_holds_55 : decode cMM_holds 55 = .ok (.aload_n 0, 1) := by decide +kernel
theorem dMM_holds_56 : decode cMM_holds 56 = .ok (.getfield 38, 3) := by decide +kernel
theorem dMM_holds_59 : decode cMM_holds 59 = .ok (.iload_n 1, 1) := by decide +kernel
theorem dMM_holds_60 : decode cMM_holds 60 = .ok (.iaload, 1) := by decide +kernel
theorem dMM_holds_61 : decode cMM_holds 61 = .ok (.if_icmp .ge 7, 3) := by decide +kernel
theorem dMM_holds_64 : decode cMM_holds 64 = .ok (.iconst 1, 1) := by decide +kernel
theorem dMM_holds_65 : decode cMM_holds 65 = .ok (.goto 50, 3) := by decide +kernel
theorem dMM_holds_68 : decode cMM_holds 68 = .ok (.iconst 0, 1) := by decide +kernel
theorem dMM_holds_69 : decode cMM_holds 69 = .ok (.goto 46, 3) := by decide +kernel
theorem dMM_holds_72 : decode cMM_holds 72 = .ok (.aload_n 0, 1) := by decide +kernel
theorem dMM_holds_73 : decode cMM_holds 73 = .ok (.getfield 35, 3) := by decide +kernel
theorem dMM_holds_76 : decode cMM_holds 76 = .ok (.iload_n 1, 1) := by decide +kernel
theorem dMM_holds_77 : decode cMM_holds 77 = .ok (.iaload, 1) := by decide +kernel
theorem dMM_holds_78 : decode cMM_holds 78 = .ok (.iconst 1, 1) := by decide +kernel
theorem dMM_holds_79 : decode cMM_holds 79 = .ok (.if_icmp .ne 21, 3) := by decide +kernel
theorem dMM_holds_82 : decode cMM_holds 82 = .ok (.iload_n 2, 1) := by decide +kernel
theorem dMM_holds_83 : decode cMM_holds 83 = .ok (.aload_n 0, 1) := by decide +kernel
theorem dMM_holds_84 : decode cMM_holds 84 = .ok (.getfield 38, 3) := by decide +kernel
theorem dMM_holds_87 : decode cMM_holds 87 = .ok (.iload_n 1, 1) := by decide +kernel
theorem dMM_holds_88 : decode cMM_holds 88 = .ok (.iaload, 1) := by decide +kernel
theorem dMM_holds_89 : decode cMM_holds 89 = .ok (.if_icmp .ne 7, 3) := by decide +kernel
theorem dMM_holds_92 : decode cMM_holds 92 = .ok (.iconst 1, 1) := by decide +kernel
theorem dMM_holds_93 : decode cMM_holds 93 = .ok (.goto 22, 3) := by decide +kernel
theorem dMM_holds_96 : decode cMM_holds 96 = .ok (.iconst 0, 1) := by decide +kernel
theorem dMM_holds_97 : decode cMM_holds 97 = .ok (.goto 18, 3) := by decide +kernel
theorem dMM_holds_100 : decode cMM_holds 100 = .ok (.iload_n 2, 1) := by decide +kernel
theorem dMM_holds_101 : decode cMM_holds 101 = .ok (.aload_n 0, 1) := by decide +kernel
theorem dMM_holds_102 : decode cMM_holds 102 = .ok (.getfield 38, 3) := by decide +kernel
theorem dMM_holds_105 : decode cMM_holds 105 = .ok (.iload_n 1, 1) := by decide +kernel
theorem dMM_holds_106 : decode cMM_holds 106 = .ok (.iaload, 1) := by decide +kernel
theorem dMM_holds_107 : decode cMM_holds 107 = .ok (.if_icmp .le 7, 3) := by decide +kernel
theorem dMM_holds_110 : decode cMM_holds 110 = .ok (.iconst 1, 1) := by decide +kernel
theorem dMM_holds_111 : decode cMM_holds 111 = .ok (.goto 4, 3) := by decide +kernel
theorem dMM_holds_114 : decode cMM_holds 114 = .ok (.iconst 0, 1) := by decide +kernel
theorem dMM_holds_115 : decode cMM_holds 115 = .ok (.ireturn, 1) := by decide +kernel
theorem dMM_waiter_0 : decode cMM_waiter 0 = .ok (.iconst 0, 1) := by decide +kernel
theorem dMM_waiter_1 : decode cMM_waiter 1 = .ok (.istore_n 3, 1) := by decide +kernel
theorem dMM_waiter_2 : decode cMM_waiter 2 = .ok (.iload_n 3, 1) := by decide +kernel
theorem dMM_waiter_3 : decode cMM_waiter 3 = .ok (.aload_n 0, 1) := by decide +kernel
theorem dMM_waiter_4 : decode cMM_waiter 4 = .ok (.getfield 104, 3) := by decide +kernel
theorem dMM_waiter_7 : decode cMM_waiter 7 = .ok (.if_icmp .ge 39, 3) := by decide +kernel
theorem dMM_waiter_10 : decode cMM_waiter 10 = .ok (.aload_n 0, 1) := by decide +kernel
theorem dMM_waiter_11 : decode cMM_waiter 11 = .ok (.getfield 19, 3) := by decide +kernel
theorem dMM_waiter_14 : decode cMM_waiter 14 = .ok (.iload_n 3, 1) := by decide +kernel
theorem dMM_waiter_15 : decode cMM_waiter 15 = .ok (.iaload, 1) := by decide +kernel
theorem dMM_waiter_16 : decode cMM_waiter 16 = .ok (.iload_n 1, 1) := by decide +kernel
theorem dMM_waiter_17 : decode cMM_waiter 17 = .ok (.if_icmp .ne 23, 3) := by decide +kernel
theorem dMM_waiter_20 : decode cMM_waiter 20 = .ok (.aload_n 0, 1) := by decide +kernel
theorem dMM_waiter_21 : decode cMM_waiter 21 = .ok (.getfield 22, 3) := by decide +kernel
theorem dMM_waiter_24 : decode cMM_waiter 24 = .ok (.iload_n 3, 1) := by decide +kernel
theorem dMM_waiter_25 : decode cMM_waiter 25 = .ok (.iaload, 1) := by decide +kernel
theorem dMM_waiter_26 : decode cMM_waiter 26 = .ok (.iload_n 2, 1) := by decide +kernel
theorem dMM_waiter_27 : decode cMM_waiter 27 = .ok (.if_icmp .ne 13, 3) := by decide +kernel
theorem dMM_waiter_30 : decode cMM_waiter 30 = .ok (.aload_n 0, 1) := by decide +kernel
theorem dMM_waiter_31 : decode cMM_waiter 31 = .ok (.iload_n 3, 1) := by decide +kernel
theorem dMM_waiter_32 : decode cMM_waiter 32 = .ok (.invokevirtual 140, 3) := by decide +kernel
theorem dMM_waiter_35 : decode cMM_waiter 35 = .ok (.ifCond .eq 5, 3) := by decide +kernel
theorem dMM_waiter_38 : decode cMM_waiter 38 = .ok (.iload_n 3, 1) := by decide +kernel
theorem dMM_waiter_39 : decode cMM_waiter 39 = .ok (.ireturn, 1) := by decide +kernel
theorem dMM_waiter_40 : decode cMM_waiter 40 = .ok (.iinc 3 1, 3) := by decide +kernel
theorem dMM_waiter_43 : decode cMM_waiter 43 = .ok (.goto (-41), 3) := by decide +kernel
theorem dMM_waiter_46 : decode cMM_waiter 46 = .ok (.iconst (-1), 1) := by decide +kernel
theorem dMM_waiter_47 : decode cMM_waiter 47 = .ok (.ireturn, 1) := by decide +kernel
theorem dMM_select_0 : decode cMM_select 0 = .ok (.aload_n 0, 1) := by decide +kernel
theorem dMM_select_1 : decode cMM_select 1 = .ok (.iconst 0, 1) := by decide +kernel
theorem dMM_select_2 : decode cMM_select 2 = .ok (.putfield 143, 3) := by decide +kernel
theorem dMM_select_5 : decode cMM_select 5 = .ok (.iconst 1, 1) := by decide +kernel
theorem dMM_select_6 : decode cMM_select 6 = .ok (.istore_n 2, 1) := by decide +kernel
theorem dMM_select_7 : decode cMM_select 7 = .ok (.iload_n 2, 1) := by decide +kernel
theorem dMM_select_8 : decode cMM_select 8 = .ok (.aload_n 0, 1) := by decide +kernel
theorem dMM_select_9 : decode cMM_select 9 = .ok (.getfield 89, 3) := by decide +kernel
theorem dMM_select_12 : decode cMM_select 12 = .ok (.if_icmp .gt 149, 3) := by decide +kernel
theorem dMM_select_15 : decode cMM_select 15 = .ok (.aload_n 0, 1) := by decide +kernel
theorem dMM_select_16 : decode cMM_select 16 = .ok (.getfield 53, 3) := by decide +kernel
theorem dMM_select_19 : decode cMM_select 19 = .ok (.iload_n 2, 1) := by decide +kernel
theorem dMM_select_20 : decode cMM_select 20 = .ok (.baload, 1) := by decide +kernel
theorem dMM_select_21 : decode cMM_select 21 = .ok (.ifCond .eq 134, 3) := by decide +kernel
theorem dMM_select_24 : decode cMM_select 24 = .ok (.aload_n 0, 1) := by decide +kernel
theorem dMM_select_25 : decode cMM_select 25 = .ok (.iload_n 2, 1) := by decide +kernel
theorem dMM_select_26 : decode cMM_select 26 = .ok (.iconst 1, 1) := by decide +kernel
theorem dMM_select_27 : decode cMM_select 27 = .ok (.invokevirtual 93, 3) := by decide +kernel
