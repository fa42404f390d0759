theorem dMM_select_30 : decode cMM_select 30 = .ok (.ifCond .ne 125, 3) := by decide +kernel
theorem dMM_select_33 : decode cMM_select 33 = .ok (.iload_n 2, 1) := by decide +kernel
theorem dMM_select_34 : decode cMM_select 34 = .ok (.istore_n 3, 1) := by decide +kernel
theorem dMM_select_35 : decode cMM_select 35 = .ok (.aload_n 0, 1) := by decide +kernel
theorem dMM_select_36 : decode cMM_select 36 = .ok (.iload_n 3, 1) := by decide +kernel
theorem dMM_select_37 : decode cMM_select 37 = .ok (.iload_n 1, 1) := by decide +kernel
theorem dMM_select_38 : decode cMM_select 38 = .ok (.invokevirtual 146, 3) := by decide +kernel
theorem dMM_select_41 : decode cMM_select 41 = .ok (.istore 4, 2) := by decide +kernel
theorem dMM_select_43 : decode cMM_select 43 = .ok (.iload 4, 2) := by decide +kernel
theorem dMM_select_45 : decode cMM_select 45 = .ok (.ifCond .ge 30, 3) := by decide +kernel
theorem dMM_select_48 : decode cMM_select 48 = .ok (.aload_n 0, 1) := by decide +kernel
theorem dMM_select_49 : decode cMM_select 49 = .ok (.getfield 7, 3) := by decide +kernel
theorem dMM_select_52 : decode cMM_select 52 = .ok (.iload_n 3, 1) := by decide +kernel
theorem dMM_select_53 : decode cMM_select 53 = .ok (.iaload, 1) := by decide +kernel
theorem dMM_select_54 : decode cMM_select 54 = .ok (.ifCond .eq 21, 3) := by decide +kernel
theorem dMM_select_57 : decode cMM_select 57 = .ok (.aload_n 0, 1) := by decide +kernel
theorem dMM_select_58 : decode cMM_select 58 = .ok (.getfield 7, 3) := by decide +kernel
theorem dMM_select_61 : decode cMM_select 61 = .ok (.iload_n 3, 1) := by decide +kernel
theorem dMM_select_62 : decode cMM_select 62 = .ok (.iaload, 1) := by decide +kernel
theorem dMM_select_63 : decode cMM_select 63 = .ok (.istore_n 3, 1) := by decide +kernel
theorem dMM_select_64 : decode cMM_select 64 = .ok (.aload_n 0, 1) := by decide +kernel
theorem dMM_select_65 : decode cMM_select 65 = .ok (.iload_n 3, 1) := by decide +kernel
theorem dMM_select_66 : decode cMM_select 66 = .ok (.iload_n 1, 1) := by decide +kernel
theorem dMM_select_67 : decode cMM_select 67 = .ok (.invokevirtual 146, 3) := by decide +kernel
theorem dMM_select_70 : decode cMM_select 70 = .ok (.istore 4, 2) := by decide +kernel
theorem dMM_select_72 : decode cMM_select 72 = .ok (.goto (-29), 3) := by decide +kernel
theorem dMM_select_75 : decode cMM_select 75 = .ok (.iload 4, 2) := by decide +kernel
theorem dMM_select_77 : decode cMM_select 77 = .ok (.ifCond .lt 7, 3) := by decide +kernel
theorem dMM_select_80 : decode cMM_select 80 = .ok (.iconst 1, 1) := by decide +kernel
theorem dMM_select_81 : decode cMM_select 81 = .ok (.goto 4, 3) := by decide +kernel
theorem dMM_select_84 : decode cMM_select 84 = .ok (.iconst 0, 1) := by decide +kernel
theorem dMM_select_85 : decode cMM_select 85 = .ok (.istore 5, 2) := by decide +kernel
theorem dMM_select_87 : decode cMM_select 87 = .ok (.iconst 0, 1) := by decide +kernel
theorem dMM_select_88 : decode cMM_select 88 = .ok (.istore 6, 2) := by decide +kernel
theorem dMM_select_90 : decode cMM_select 90 = .ok (.iload 6, 2) := by decide +kernel
theorem dMM_select_92 : decode cMM_select 92 = .ok (.aload_n 0, 1) := by decide +kernel
theorem dMM_select_93 : decode cMM_select 93 = .ok (.getfield 143, 3) := by decide +kernel
theorem dMM_select_96 : decode cMM_select 96 = .ok (.if_icmp .ge 33, 3) := by decide +kernel
theorem dMM_select_99 : decode cMM_select 99 = .ok (.iload 5, 2) := by decide +kernel
theorem dMM_select_101 : decode cMM_select 101 = .ok (.ifCond .eq 19, 3) := by decide +kernel
theorem dMM_select_104 : decode cMM_select 104 = .ok (.aload_n 0, 1) := by decide +kernel
theorem dMM_select_105 : decode cMM_select 105 = .ok (.getfield 77, 3) := by decide +kernel
theorem dMM_select_108 : decode cMM_select 108 = .ok (.iload 6, 2) := by decide +kernel
theorem dMM_select_110 : decode cMM_select 110 = .ok (.iaload, 1) := by decide +kernel
theorem dMM_select_111 : decode cMM_select 111 = .ok (.iload 4, 2) := by decide +kernel
theorem dMM_select_113 : decode cMM_select 113 = .ok (.if_icmp .eq 7, 3) := by decide +kernel
theorem dMM_select_116 : decode cMM_select 116 = .ok (.iconst 1, 1) := by decide +kernel
theorem dMM_select_117 : decode cMM_select 117 = .ok (.goto 4, 3) := by decide +kernel
theorem dMM_select_120 : decode cMM_select 120 = .ok (.iconst 0, 1) := by decide +kernel
theorem dMM_select_121 : decode cMM_select 121 = .ok (.istore 5, 2) := by decide +kernel
theorem dMM_select_123 : decode cMM_select 123 = .ok (.iinc 6 1, 3) := by decide +kernel
theorem dMM_select_126 : decode cMM_select 126 = .ok (.goto (-36), 3) := by decide +kernel
theorem dMM_select_129 : decode cMM_select 129 = .ok (.iload 5, 2) := by decide +kernel
theorem dMM_select_131 : decode cMM_select 131 = .ok (.ifCond .eq 24, 3) := by decide +kernel
theorem dMM_select_134 : decode cMM_select 134 = .ok (.aload_n 0, 1) := by decide +kernel
theorem dMM_select_135 : decode cMM_select 135 = .ok (.getfield 77, 3) := by decide +kernel
theorem dMM_select_138 : decode cMM_select 138 = .ok (.aload_n 0, 1) := by decide +kernel
theorem dMM_select_139 : decode cMM_select 139 = .ok (.getfield 143, 3) := by decide +kernel
theorem dMM_select_142 : decode cMM_select 142 = .ok (.iload 4, 2) := by decide +kernel
theorem dMM_select_144 : decode cMM_select 144 = .ok (.iastore, 1) := by decide +kernel
theorem dMM_select_145 : decode cMM_select 145 = .ok (.aload_n 0, 1) := by decide +kernel
theorem dMM_select_146 : decode cMM_select 146 = .ok (.dup, 1) := by decide +kernel
theorem dMM_select_147 : decode cMM_select 147 = .ok (.getfield 143, 3) := by decide +kernel
theorem dMM_select_150 : decode cMM_select 150 = .ok (.iconst 1, 1) := by decide +kernel
theorem dMM_select_151 : decode cMM_select 151 = .ok (.iadd, 1) := by decide +kernel
theorem dMM_select_152 : decode cMM_select 152 = .ok (.putfield 143, 3) := by decide +kernel
theorem dMM_select_155 : decode cMM_select 155 = .ok (.iinc 2 1, 3) := by decide +kernel
theorem dMM_select_158 : decode cMM_select 158 = .ok (.goto (-151), 3) := by decide +kernel
theorem dMM_select_161 : decode cMM_select 161 = .ok (.return_, 1) := by decide +kernel
theorem dMM_domain_0 : decode cMM_domain 0 = .ok (.aload_n 0, 1) := by decide +kernel
theorem dMM_domain_1 : decode cMM_domain 1 = .ok (.getfield 7, 3) := by decide +kernel
theorem dMM_domain_4 : decode cMM_domain 4 = .ok (.aload_n 0, 1) := by decide +kernel
theorem dMM_domain_5 : decode cMM_domain 5 = .ok (.getfield 19, 3) := by decide +kernel
theorem dMM_domain_8 : decode cMM_domain 8 = .ok (.iload_n 1, 1) := by decide +kernel
theorem dMM_domain_9 : decode cMM_domain 9 = .ok (.iaload, 1) := by decide +kernel
theorem dMM_domain_10 : decode cMM_domain 10 = .ok (.iaload, 1) := by decide +kernel
theorem dMM_domain_11 : decode cMM_domain 11 = .ok (.istore_n 2, 1) := by decide +kernel
theorem dMM_domain_12 : decode cMM_domain 12 = .ok (.iload_n 2, 1) := by decide +kernel
theorem dMM_domain_13 : decode cMM_domain 13 = .ok (.ifCond .eq 35, 3) := by decide +kernel
theorem dMM_domain_16 : decode cMM_domain 16 = .ok (.aload_n 0, 1) := by decide +kernel
theorem dMM_domain_17 : decode cMM_domain 17 = .ok (.iload_n 2, 1) := by decide +kernel
theorem dMM_domain_18 : decode cMM_domain 18 = .ok (.invokevirtual 150, 3) := by decide +kernel
theorem dMM_domain_21 : decode cMM_domain 21 = .ok (.ifCond .eq 17, 3) := by decide +kernel
theorem dMM_domain_24 : decode cMM_domain 24 = .ok (.aload_n 0, 1) := by decide +kernel
theorem dMM_domain_25 : decode cMM_domain 25 = .ok (.aload_n 0, 1) := by decide +kernel
theorem dMM_domain_26 : decode cMM_domain 26 = .ok (.getfield 25, 3) := by decide +kernel
theorem dMM_domain_29 : decode cMM_domain 29 = .ok (.iload_n 1, 1) := by decide +kernel
theorem dMM_domain_30 : decode cMM_domain 30 = .ok (.iaload, 1) := by decide +kernel
theorem dMM_domain_31 : decode cMM_domain 31 = .ok (.iload_n 2, 1) := by decide +kernel
theorem dMM_domain_32 : decode cMM_domain 32 = .ok (.invokevirtual 153, 3) := by decide +kernel
theorem dMM_domain_35 : decode cMM_domain 35 = .ok (.ifCond .ne 13, 3) := by decide +kernel
theorem dMM_domain_38 : decode cMM_domain 38 = .ok (.aload_n 0, 1) := by decide +kernel
theorem dMM_domain_39 : decode cMM_domain 39 = .ok (.getfield 7, 3) := by decide +kernel
theorem dMM_domain_42 : decode cMM_domain 42 = .ok (.iload_n 2, 1) := by decide +kernel
theorem dMM_domain_43 : decode cMM_domain 43 = .ok (.iaload, 1) := by decide +kernel
theorem dMM_domain_44 : decode cMM_domain 44 = .ok (.istore_n 2, 1) := by decide +kernel
theorem dMM_domain_45 : decode cMM_domain 45 = .ok (.goto (-33), 3) := by decide +kernel
theorem dMM_domain_48 : decode cMM_domain 48 = .ok (.iload_n 2, 1) := by decide +kernel
theorem dMM_domain_49 : decode cMM_domain 49 = .ok (.ireturn, 1) := by decide +kernel
theorem dMM_leaves_0 : decode cMM_leaves 0 = .ok (.aload_n 0, 1) := by decide +kernel
theorem dMM_leaves_1 : decode cMM_leaves 1 = .ok (.getfield 25, 3) := by decide +kernel
theorem dMM_leaves_4 : decode cMM_leaves 4 = .ok (.iload_n 1, 1) := by decide +kernel
theorem dMM_leaves_5 : decode cMM_leaves 5 = .ok (.iaload, 1) := by decide +kernel
theorem dMM_leaves_6 : decode cMM_leaves 6 = .ok (.iconst (-1), 1) := by decide +kernel
theorem dMM_leaves_7 : decode cMM_leaves 7 = .ok (.if_icmp .eq 29, 3) := by decide +kernel
theorem dMM_leaves_10 : decode cMM_leaves 10 = .ok (.aload_n 0, 1) := by decide +kernel
theorem dMM_leaves_11 : decode cMM_leaves 11 = .ok (.getfield 53, 3) := by decide +kernel
theorem dMM_leaves_14 : decode cMM_leaves 14 = .ok (.iload_n 2, 1) := by decide +kernel
theorem dMM_leaves_15 : decode cMM_leaves 15 = .ok (.baload, 1) := by decide +kernel
theorem dMM_leaves_16 : decode cMM_leaves 16 = .ok (.ifCond .eq 20, 3) := by decide +kernel
theorem dMM_leaves_19 : decode cMM_leaves 19 = .ok (.aload_n 0, 1) := by decide +kernel
theorem dMM_leaves_20 : decode cMM_leaves 20 = .ok (.iload_n 2, 1) := by decide +kernel
theorem dMM_leaves_21 : decode cMM_leaves 21 = .ok (.aload_n 0, 1) := by decide +kernel
theorem dMM_leaves_22 : decode cMM_leaves 22 = .ok (.iload_n 1, 1) := by decide +kernel
theorem dMM_leaves_23 : decode cMM_leaves 23 = .ok (.invokevirtual 157, 3) := by decide +kernel
theorem dMM_leaves_26 : decode cMM_leaves 26 = .ok (.invokevirtual 153, 3) := by decide +kernel
theorem dMM_leaves_29 : decode cMM_leaves 29 = .ok (.ifCond .eq 7, 3) := by decide +kernel
theorem dMM_leaves_32 : decode cMM_leaves 32 = .ok (.iconst 1, 1) := by decide +kernel
theorem dMM_leaves_33 : decode cMM_leaves 33 = .ok (.goto 4, 3) := by decide +kernel
theorem dMM_leaves_36 : decode cMM_leaves 36 = .ok (.iconst 0, 1) := by decide +kernel
theorem dMM_leaves_37 : decode cMM_leaves 37 = .ok (.ireturn, 1) := by decide +kernel
theorem dMM_clash_0 : decode cMM_clash 0 = .ok (.iconst 1, 1) := by decide +kernel
theorem dMM_clash_1 : decode cMM_clash 1 = .ok (.istore_n 3, 1) := by decide +kernel
theorem dMM_clash_2 : decode cMM_clash 2 = .ok (.iload_n 3, 1) := by decide +kernel
theorem dMM_clash_3 : decode cMM_clash 3 = .ok (.aload_n 0, 1) := by decide +kernel
theorem dMM_clash_4 : decode cMM_clash 4 = .ok (.getfield 89, 3) := by decide +kernel
theorem dMM_clash_7 : decode cMM_clash 7 = .ok (.if_icmp .gt 29, 3) := by decide +kernel
theorem dMM_clash_10 : decode cMM_clash 10 = .ok (.aload_n 0, 1) := by decide +kernel
theorem dMM_clash_11 : decode cMM_clash 11 = .ok (.iload_n 1, 1) := by decide +kernel
theorem dMM_clash_12 : decode cMM_clash 12 = .ok (.iload_n 3, 1) := by decide +kernel
theorem dMM_clash_13 : decode cMM_clash 13 = .ok (.invokevirtual 161, 3) := by decide +kernel
theorem dMM_clash_16 : decode cMM_clash 16 = .ok (.ifCond .eq 14, 3) := by decide +kernel
theorem dMM_clash_19 : decode cMM_clash 19 = .ok (.aload_n 0, 1) := by decide +kernel
theorem dMM_clash_20 : decode cMM_clash 20 = .ok (.iload_n 2, 1) := by decide +kernel
theorem dMM_clash_21 : decode cMM_clash 21 = .ok (.iload_n 3, 1) := by decide +kernel
theorem dMM_clash_22 : decode cMM_clash 22 = .ok (.invokevirtual 161, 3) := by decide +kernel
theorem dMM_clash_25 : decode cMM_clash 25 = .ok (.ifCond .eq 5, 3) := by decide +kernel
theorem dMM_clash_28 : decode cMM_clash 28 = .ok (.iconst 1, 1) := by decide +kernel
theorem dMM_clash_29 : decode cMM_clash 29 = .ok (.ireturn, 1) := by decide +kernel
theorem dMM_clash_30 : decode cMM_clash 30 = .ok (.iinc 3 1, 3) := by decide +kernel
theorem dMM_clash_33 : decode cMM_clash 33 = .ok (.goto (-31), 3) := by decide +kernel
theorem dMM_clash_36 : decode cMM_clash 36 = .ok (.iconst 0, 1) := by decide +kernel
theorem dMM_clash_37 : decode cMM_clash 37 = .ok (.ireturn, 1) := by decide +kernel
theorem dMM_settle_0 : decode cMM_settle 0 = .ok (.aload_n 0, 1) := by decide +kernel
theorem dMM_settle_1 : decode cMM_settle 1 = .ok (.iconst 0, 1) := by decide +kernel
theorem dMM_settle_2 : decode cMM_settle 2 = .ok (.putfield 164, 3) := by decide +kernel
theorem dMM_settle_5 : decode cMM_settle 5 = .ok (.iconst 0, 1) := by decide +kernel
theorem dMM_settle_6 : decode cMM_settle 6 = .ok (.istore_n 1, 1) := by decide +kernel
theorem dMM_settle_7 : decode cMM_settle 7 = .ok (.iload_n 1, 1) := by decide +kernel
theorem dMM_settle_8 : decode cMM_settle 8 = .ok (.aload_n 0, 1) := by decide +kernel
theorem dMM_settle_9 : decode cMM_settle 9 = .ok (.getfield 143, 3) := by decide +kernel
theorem dMM_settle_12 : decode cMM_settle 12 = .ok (.if_icmp .ge 159, 3) := by decide +kernel
theorem dMM_settle_15 : decode cMM_settle 15 = .ok (.aload_n 0, 1) := by decide +kernel
theorem dMM_settle_16 : decode cMM_settle 16 = .ok (.getfield 77, 3) := by decide +kernel
theorem dMM_settle_19 : decode cMM_settle 19 = .ok (.iload_n 1, 1) := by decide +kernel
theorem dMM_settle_20 : decode cMM_settle 20 = .ok (.iaload, 1) := by decide +kernel
theorem dMM_settle_21 : decode cMM_settle 21 = .ok (.istore_n 2, 1) := by decide +kernel
theorem dMM_settle_22 : decode cMM_settle 22 = .ok (.iconst 1, 1) := by decide +kernel
theorem dMM_settle_23 : decode cMM_settle 23 = .ok (.istore_n 3, 1) := by decide +kernel
theorem dMM_settle_24 : decode cMM_settle 24 = .ok (.iconst 0, 1) := by decide +kernel
theorem dMM_settle_25 : decode cMM_settle 25 = .ok (.istore 4, 2) := by decide +kernel
theorem dMM_settle_27 : decode cMM_settle 27 = .ok (.iload 4, 2) := by decide +kernel
theorem dMM_settle_29 : decode cMM_settle 29 = .ok (.aload_n 0, 1) := by decide +kernel
theorem dMM_settle_30 : decode cMM_settle 30 = .ok (.getfield 164, 3) := by decide +kernel
theorem dMM_settle_33 : decode cMM_settle 33 = .ok (.if_icmp .ge 59, 3) := by decide +kernel
theorem dMM_settle_36 : decode cMM_settle 36 = .ok (.iload_n 3, 1) := by decide +kernel
theorem dMM_settle_37 : decode cMM_settle 37 = .ok (.ifCond .eq 47, 3) := by decide +kernel
theorem dMM_settle_40 : decode cMM_settle 40 = .ok (.aload_n 0, 1) := by decide +kernel
theorem dMM_settle_41 : decode cMM_settle 41 = .ok (.iload_n 2, 1) := by decide +kernel
theorem dMM_settle_42 : decode cMM_settle 42 = .ok (.aload_n 0, 1) := by decide +kernel
theorem dMM_settle_43 : decode cMM_settle 43 = .ok (.getfield 80, 3) := by decide +kernel
theorem dMM_settle_46 : decode cMM_settle 46 = .ok (.iload 4, 2) := by decide +kernel
theorem dMM_settle_48 : decode cMM_settle 48 = .ok (.iaload, 1) := by decide +kernel
theorem dMM_settle_49 : decode cMM_settle 49 = .ok (.invokevirtual 167, 3) := by decide +kernel
theorem dMM_settle_52 : decode cMM_settle 52 = .ok (.ifCond .eq 28, 3) := by decide +kernel
theorem dMM_settle_55 : decode cMM_settle 55 = .ok (.aload_n 0, 1) := by decide +kernel
theorem dMM_settle_56 : decode cMM_settle 56 = .ok (.aload_n 0, 1) := by decide +kernel
theorem dMM_settle_57 : decode cMM_settle 57 = .ok (.getfield 19, 3) := by decide +kernel
theorem dMM_settle_60 : decode cMM_settle 60 = .ok (.iload_n 2, 1) := by decide +kernel
theorem dMM_settle_61 : decode cMM_settle 61 = .ok (.iaload, 1) := by decide +kernel
theorem dMM_settle_62 : decode cMM_settle 62 = .ok (.aload_n 0, 1) := by decide +kernel
theorem dMM_settle_63 : decode cMM_settle 63 = .ok (.getfield 19, 3) := by decide +kernel
theorem dMM_settle_66 : decode cMM_settle 66 = .ok (.aload_n 0, 1) := by decide +kernel
theorem dMM_settle_67 : decode cMM_settle 67 = .ok (.getfield 80, 3) := by decide +kernel
theorem dMM_settle_70 : decode cMM_settle 70 = .ok (.iload 4, 2) := by decide +kernel
theorem dMM_settle_72 : decode cMM_settle 72 = .ok (.iaload, 1) := by decide +kernel
theorem dMM_settle_73 : decode cMM_settle 73 = .ok (.iaload, 1) := by decide +kernel
theorem dMM_settle_74 : decode cMM_settle 74 = .ok (.invokevirtual 153, 3) := by decide +kernel
theorem dMM_settle_77 : decode cMM_settle 77 = .ok (.ifCond .eq 7, 3) := by decide +kernel
theorem dMM_settle_80 : decode cMM_settle 80 = .ok (.iconst 1, 1) := by decide +kernel
theorem dMM_settle_81 : decode cMM_settle 81 = .ok (.goto 4, 3) := by decide +kernel
theorem dMM_settle_84 : decode cMM_settle 84 = .ok (.iconst 0, 1) := by decide +kernel
theorem dMM_settle_85 : decode cMM_settle 85 = .ok (.istore_n 3, 1) := by decide +kernel
theorem dMM_settle_86 : decode cMM_settle 86 = .ok (.iinc 4 1, 3) := by decide +kernel
theorem dMM_settle_89 : decode cMM_settle 89 = .ok (.goto (-62), 3) := by decide +kernel
theorem dMM_settle_92 : decode cMM_settle 92 = .ok (.iload_n 3, 1) := by decide +kernel
theorem dMM_settle_93 : decode cMM_settle 93 = .ok (.ifCond .eq 72, 3) := by decide +kernel
theorem dMM_settle_96 : decode cMM_settle 96 = .ok (.iconst 0, 1) := by decide +kernel
theorem dMM_settle_97 : decode cMM_settle 97 = .ok (.istore 4, 2) := by decide +kernel
theorem dMM_settle_99 : decode cMM_settle 99 = .ok (.iconst 0, 1) := by decide +kernel
theorem dMM_settle_100 : decode cMM_settle 100 = .ok (.istore 5, 2) := by decide +kernel
theorem dMM_settle_102 : decode cMM_settle 102 = .ok (.iload 5, 2) := by decide +kernel
theorem dMM_settle_104 : decode cMM_settle 104 = .ok (.aload_n 0, 1) := by decide +kernel
theorem dMM_settle_105 : decode cMM_settle 105 = .ok (.getfield 164, 3) := by decide +kernel
theorem dMM_settle_108 : decode cMM_settle 108 = .ok (.if_icmp .ge 41, 3) := by decide +kernel
theorem dMM_settle_111 : decode cMM_settle 111 = .ok (.aload_n 0, 1) := by decide +kernel
theorem dMM_settle_112 : decode cMM_settle 112 = .ok (.iload_n 2, 1) := by decide +kernel
theorem dMM_settle_113 : decode cMM_settle 113 = .ok (.aload_n 0, 1) := by decide +kernel
theorem dMM_settle_114 : decode cMM_settle 114 = .ok (.getfield 80, 3) := by decide +kernel
theorem dMM_settle_117 : decode cMM_settle 117 = .ok (.iload 5, 2) := by decide +kernel
theorem dMM_settle_119 : decode cMM_settle 119 = .ok (.iaload, 1) := by decide +kernel
theorem dMM_settle_120 : decode cMM_settle 120 = .ok (.invokevirtual 167, 3) := by decide +kernel
theorem dMM_settle_123 : decode cMM_settle 123 = .ok (.ifCond .ne 20, 3) := by decide +kernel
theorem dMM_settle_126 : decode cMM_settle 126 = .ok (.aload_n 0, 1) := by decide +kernel
theorem dMM_settle_127 : decode cMM_settle 127 = .ok (.getfield 80, 3) := by decide +kernel
theorem dMM_settle_130 : decode cMM_settle 130 = .ok (.iload 4, 2) := by decide +kernel
theorem dMM_settle_132 : decode cMM_settle 132 = .ok (.aload_n 0, 1) := by decide +kernel
theorem dMM_settle_133 : decode cMM_settle 133 = .ok (.getfield 80, 3) := by decide +kernel
theorem dMM_settle_136 : decode cMM_settle 136 = .ok (.iload 5, 2) := by decide +kernel
theorem dMM_settle_138 : decode cMM_settle 138 = .ok (.iaload, 1) := by decide +kernel
theorem dMM_settle_139 : decode cMM_settle 139 = .ok (.iastore, 1) := by decide +kernel
theorem dMM_settle_140 : decode cMM_settle 140 = .ok (.iinc 4 1, 3) := by decide +kernel
theorem dMM_settle_143 : decode cMM_settle 143 = .ok (.iinc 5 1, 3) := by decide +kernel
theorem dMM_settle_146 : decode cMM_settle 146 = .ok (.goto (-44), 3) := by decide +kernel
theorem dMM_settle_149 : decode cMM_settle 149 = .ok (.aload_n 0, 1) := by decide +kernel
theorem dMM_settle_150 : decode cMM_settle 150 = .ok (.getfield 80, 3) := by decide +kernel
theorem dMM_settle_153 : decode cMM_settle 153 = .ok (.iload 4, 2) := by decide +kernel
theorem dMM_settle_155 : decode cMM_settle 155 = .ok (.iload_n 2, 1) := by decide +kernel
theorem dMM_settle_156 : decode cMM_settle 156 = .ok (.iastore, 1) := by decide +kernel
theorem dMM_settle_157 : decode cMM_settle 157 = .ok (.aload_n 0, 1) := by decide +kernel
theorem dMM_settle_158 : decode cMM_settle 158 = .ok (.iload 4, 2) := by decide +kernel
theorem dMM_settle_160 : decode cMM_settle 160 = .ok (.iconst 1, 1) := by decide +kernel
theorem dMM_settle_161 : decode cMM_settle 161 = .ok (.iadd, 1) := by decide +kernel
theorem dMM_settle_162 : decode cMM_settle 162 = .ok (.putfield 164, 3) := by decide +kernel
theorem dMM_settle_165 : decode cMM_settle 165 = .ok (.iinc 1 1, 3) := by decide +kernel
theorem dMM_settle_168 : decode cMM_settle 168 = .ok (.goto (-161), 3) := by decide +kernel
theorem dMM_settle_171 : decode cMM_settle 171 = .ok (.return_, 1) := by decide +kernel
theorem dMM_remember_0 : decode cMM_remember 0 = .ok (.iconst 1, 1) := by decide +kernel
theorem dMM_remember_1 : decode cMM_remember 1 = .ok (.istore_n 1, 1) := by decide +kernel
theorem dMM_remember_2 : decode cMM_remember 2 = .ok (.iload_n 1, 1) := by decide +kernel
theorem dMM_remember_3 : decode cMM_remember 3 = .ok (.aload_n 0, 1) := by decide +kernel
theorem dMM_remember_4 : decode cMM_remember 4 = .ok (.getfield 89, 3) := by decide +kernel
theorem dMM_remember_7 : decode cMM_remember 7 = .ok (.if_icmp .gt 147, 3) := by decide +kernel
theorem dMM_remember_10 : decode cMM_remember 10 = .ok (.aload_n 0, 1) := by decide +kernel
theorem dMM_remember_11 : decode cMM_remember 11 = .ok (.getfield 13, 3) := by decide +kernel
theorem dMM_remember_14 : decode cMM_remember 14 = .ok (.iload_n 1, 1) := by decide +kernel
theorem dMM_remember_15 : decode cMM_remember 15 = .ok (.iaload, 1) := by decide +kernel
theorem dMM_remember_16 : decode cMM_remember 16 = .ok (.iconst 4, 1) := by decide +kernel
theorem dMM_remember_17 : decode cMM_remember 17 = .ok (.if_icmp .lt 131, 3) := by decide +kernel
theorem dMM_remember_20 : decode cMM_remember 20 = .ok (.aload_n 0, 1) := by decide +kernel
theorem dMM_remember_21 : decode cMM_remember 21 = .ok (.getfield 83, 3) := by decide +kernel
theorem dMM_remember_24 : decode cMM_remember 24 = .ok (.aload_n 0, 1) := by decide +kernel
theorem dMM_remember_25 : decode cMM_remember 25 = .ok (.getfield 7, 3) := by decide +kernel
theorem dMM_remember_28 : decode cMM_remember 28 = .ok (.iload_n 1, 1) := by decide +kernel
theorem dMM_remember_29 : decode cMM_remember 29 = .ok (.iaload, 1) := by decide +kernel
theorem dMM_remember_30 : decode cMM_remember 30 = .ok (.baload, 1) := by decide +kernel
theorem dMM_remember_31 : decode cMM_remember 31 = .ok (.ifCond .eq 117, 3) := by decide +kernel
theorem dMM_remember_34 : decode cMM_remember 34 = .ok (.aload_n 0, 1) := by decide +kernel
theorem dMM_remember_35 : decode cMM_remember 35 = .ok (.getfield 56, 3) := by decide +kernel
theorem dMM_remember_38 : decode cMM_remember 38 = .ok (.iload_n 1, 1) := by decide +kernel
theorem dMM_remember_39 : decode cMM_remember 39 = .ok (.iconst 0, 1) := by decide +kernel
theorem dMM_remember_40 : decode cMM_remember 40 = .ok (.iastore, 1) := by decide +kernel
theorem dMM_remember_41 : decode cMM_remember 41 = .ok (.iconst 1, 1) := by decide +kernel
theorem dMM_remember_42 : decode cMM_remember 42 = .ok (.istore_n 2, 1) := by decide +kernel
theorem dMM_remember_43 : decode cMM_remember 43 = .ok (.iload_n 2, 1) := by decide +kernel
theorem dMM_remember_44 : decode cMM_remember 44 = .ok (.aload_n 0, 1) := by decide +kernel
theorem dMM_remember_45 : decode cMM_remember 45 = .ok (.getfield 89, 3) := by decide +kernel
theorem dMM_remember_48 : decode cMM_remember 48 = .ok (.if_icmp .gt 100, 3) := by decide +kernel
theorem dMM_remember_51 : decode cMM_remember 51 = .ok (.aload_n 0, 1) := by decide +kernel
theorem dMM_remember_52 : decode cMM_remember 52 = .ok (.getfield 13, 3) := by decide +kernel
theorem dMM_remember_55 : decode cMM_remember 55 = .ok (.iload_n 1, 1) := by decide +kernel
theorem dMM_remember_56 : decode cMM_remember 56 = .ok (.iaload, 1) := by decide +kernel
theorem dMM_remember_57 : decode cMM_remember 57 = .ok (.iconst 4, 1) := by decide +kernel
theorem dMM_remember_58 : decode cMM_remember 58 = .ok (.if_icmp .ne 26, 3) := by decide +kernel
theorem dMM_remember_61 : decode cMM_remember 61 = .ok (.aload_n 0, 1) := by decide +kernel
theorem dMM_remember_62 : decode cMM_remember 62 = .ok (.getfield 7, 3) := by decide +kernel
theorem dMM_remember_65 : decode cMM_remember 65 = .ok (.iload_n 2, 1) := by decide +kernel
theorem dMM_remember_66 : decode cMM_remember 66 = .ok (.iaload, 1) := by decide +kernel
theorem dMM_remember_67 : decode cMM_remember 67 = .ok (.aload_n 0, 1) := by decide +kernel
theorem dMM_remember_68 : decode cMM_remember 68 = .ok (.getfield 7, 3) := by decide +kernel
theorem dMM_remember_71 : decode cMM_remember 71 = .ok (.iload_n 1, 1) := by decide +kernel
theorem dMM_remember_72 : decode cMM_remember 72 = .ok (.iaload, 1) := by decide +kernel
theorem dMM_remember_73 : decode cMM_remember 73 = .ok (.if_icmp .ne 7, 3) := by decide +kernel
theorem dMM_remember_76 : decode cMM_remember 76 = .ok (.iconst 1, 1) := by decide +kernel
theorem dMM_remember_77 : decode cMM_remember 77 = .ok (.goto 35, 3) := by decide +kernel
theorem dMM_remember_80 : decode cMM_remember 80 = .ok (.iconst 0, 1) := by decide +kernel
theorem dMM_remember_81 : decode cMM_remember 81 = .ok (.goto 31, 3) := by decide +kernel
theorem dMM_remember_84 : decode cMM_remember 84 = .ok (.aload_n 0, 1) := by decide +kernel
theorem dMM_remember_85 : decode cMM_remember 85 = .ok (.iload_n 2, 1) := by decide +kernel
theorem dMM_remember_86 : decode cMM_remember 86 = .ok (.aload_n 0, 1) := by decide +kernel
theorem dMM_remember_87 : decode cMM_remember 87 = .ok (.getfield 7, 3) := by decide +kernel
theorem dMM_remember_90 : decode cMM_remember 90 = .ok (.iload_n 1, 1) := by decide +kernel
theorem dMM_remember_91 : decode cMM_remember 91 = .ok (.iaload, 1) := by decide +kernel
theorem dMM_remember_92 : decode cMM_remember 92 = .ok (.invokevirtual 153, 3) := by decide +kernel
theorem dMM_remember_95 : decode cMM_remember 95 = .ok (.ifCond .eq 16, 3) := by decide +kernel
theorem dMM_remember_98 : decode cMM_remember 98 = .ok (.aload_n 0, 1) := by decide +kernel
theorem dMM_remember_99 : decode cMM_remember 99 = .ok (.iload_n 2, 1) := by decide +kernel
theorem dMM_remember_100 : decode cMM_remember 100 = .ok (.iconst 1, 1) := by decide +kernel
theorem dMM_remember_101 : decode cMM_remember 101 = .ok (.invokevirtual 93, 3) := by decide +kernel
theorem dMM_remember_104 : decode cMM_remember 104 = .ok (.ifCond .ne 7, 3) := by decide +kernel
theorem dMM_remember_107 : decode cMM_remember 107 = .ok (.iconst 1, 1) := by decide +kernel
theorem dMM_remember_108 : decode cMM_remember 108 = .ok (.goto 4, 3) := by decide +kernel
theorem dMM_remember_111 : decode cMM_remember 111 = .ok (.iconst 0, 1) := by decide +kernel
theorem dMM_remember_112 : decode cMM_remember 112 = .ok (.istore_n 3, 1) := by decide +kernel
theorem dMM_remember_113 : decode cMM_remember 113 = .ok (.aload_n 0, 1) := by decide +kernel
theorem dMM_remember_114 : decode cMM_remember 114 = .ok (.getfield 56, 3) := by decide +kernel
theorem dMM_remember_117 : decode cMM_remember 117 = .ok (.iload_n 1, 1) := by decide +kernel
theorem dMM_remember_118 : decode cMM_remember 118 = .ok (.dup2, 1) := by decide +kernel
theorem dMM_remember_119 : decode cMM_remember 119 = .ok (.iaload, 1) := by decide +kernel
theorem dMM_remember_120 : decode cMM_remember 120 = .ok (.aload_n 0, 1) := by decide +kernel
theorem dMM_remember_121 : decode cMM_remember 121 = .ok (.getfield 53, 3) := by decide +kernel
theorem dMM_remember_124 : decode cMM_remember 124 = .ok (.iload_n 2, 1) := by decide +kernel
theorem dMM_remember_125 : decode cMM_remember 125 = .ok (.baload, 1) := by decide +kernel
theorem dMM_remember_126 : decode cMM_remember 126 = .ok (.ifCond .eq 13, 3) := by decide +kernel
theorem dMM_remember_129 : decode cMM_remember 129 = .ok (.iload_n 3, 1) := by decide +kernel
theorem dMM_remember_130 : decode cMM_remember 130 = .ok (.ifCond .eq 9, 3) := by decide +kernel
theorem dMM_remember_133 : decode cMM_remember 133 = .ok (.iconst 1, 1) := by decide +kernel
theorem dMM_remember_134 : decode cMM_remember 134 = .ok (.iload_n 2, 1) := by decide +kernel
theorem dMM_remember_135 : decode cMM_remember 135 = .ok (.ishl, 1) := by decide +kernel
theorem dMM_remember_136 : decode cMM_remember 136 = .ok (.goto 4, 3) := by decide +kernel
theorem dMM_remember_139 : decode cMM_remember 139 = .ok (.iconst 0, 1) := by decide +kernel
theorem dMM_remember_140 : decode cMM_remember 140 = .ok (.ior, 1) := by decide +kernel
theorem dMM_remember_141 : decode cMM_remember 141 = .ok (.iastore, 1) := by decide +kernel
theorem dMM_remember_142 : decode cMM_remember 142 = .ok (.iinc 2 1, 3) := by decide +kernel
theorem dMM_remember_145 : decode cMM_remember 145 = .ok (.goto (-102), 3) := by decide +kernel
theorem dMM_remember_148 : decode cMM_remember 148 = .ok (.iinc 1 1, 3) := by decide +kernel
theorem dMM_remember_151 : decode cMM_remember 151 = .ok (.goto (-149), 3) := by decide +kernel
theorem dMM_remember_154 : decode cMM_remember 154 = .ok (.return_, 1) := by decide +kernel
theorem dMM_leaveAll_0 : decode cMM_leaveAll 0 = .ok (.iconst 1, 1) := by decide +kernel
theorem dMM_leaveAll_1 : decode cMM_leaveAll 1 = .ok (.istore_n 1, 1) := by decide +kernel
theorem dMM_leaveAll_2 : decode cMM_leaveAll 2 = .ok (.iload_n 1, 1) := by decide +kernel
theorem dMM_leaveAll_3 : decode cMM_leaveAll 3 = .ok (.aload_n 0, 1) := by decide +kernel
theorem dMM_leaveAll_4 : decode cMM_leaveAll 4 = .ok (.getfield 89, 3) := by decide +kernel
theorem dMM_leaveAll_7 : decode cMM_leaveAll 7 = .ok (.if_icmp .gt 66, 3) := by decide +kernel
theorem dMM_leaveAll_10 : decode cMM_leaveAll 10 = .ok (.aload_n 0, 1) := by decide +kernel
theorem dMM_leaveAll_11 : decode cMM_leaveAll 11 = .ok (.getfield 83, 3) := by decide +kernel
theorem dMM_leaveAll_14 : decode cMM_leaveAll 14 = .ok (.iload_n 1, 1) := by decide +kernel
theorem dMM_leaveAll_15 : decode cMM_leaveAll 15 = .ok (.iconst 0, 1) := by decide +kernel
theorem dMM_leaveAll_16 : decode cMM_leaveAll 16 = .ok (.bastore, 1) := by decide +kernel
theorem dMM_leaveAll_17 : decode cMM_leaveAll 17 = .ok (.iconst 0, 1) := by decide +kernel
theorem dMM_leaveAll_18 : decode cMM_leaveAll 18 = .ok (.istore_n 2, 1) := by decide +kernel
theorem dMM_leaveAll_19 : decode cMM_leaveAll 19 = .ok (.iload_n 2, 1) := by decide +kernel
theorem dMM_leaveAll_20 : decode cMM_leaveAll 20 = .ok (.aload_n 0, 1) := by decide +kernel
theorem dMM_leaveAll_21 : decode cMM_leaveAll 21 = .ok (.getfield 164, 3) := by decide +kernel
theorem dMM_leaveAll_24 : decode cMM_leaveAll 24 = .ok (.if_icmp .ge 43, 3) := by decide +kernel
theorem dMM_leaveAll_27 : decode cMM_leaveAll 27 = .ok (.aload_n 0, 1) := by decide +kernel
theorem dMM_leaveAll_28 : decode cMM_leaveAll 28 = .ok (.getfield 83, 3) := by decide +kernel
theorem dMM_leaveAll_31 : decode cMM_leaveAll 31 = .ok (.iload_n 1, 1) := by decide +kernel
theorem dMM_leaveAll_32 : decode cMM_leaveAll 32 = .ok (.aload_n 0, 1) := by decide +kernel
theorem dMM_leaveAll_33 : decode cMM_leaveAll 33 = .ok (.getfield 83, 3) := by decide +kernel
theorem dMM_leaveAll_36 : decode cMM_leaveAll 36 = .ok (.iload_n 1, 1) := by decide +kernel
theorem dMM_leaveAll_37 : decode cMM_leaveAll 37 = .ok (.baload, 1) := by decide +kernel
theorem dMM_leaveAll_38 : decode cMM_leaveAll 38 = .ok (.ifCond .ne 17, 3) := by decide +kernel
theorem dMM_leaveAll_41 : decode cMM_leaveAll 41 = .ok (.aload_n 0, 1) := by decide +kernel
theorem dMM_leaveAll_42 : decode cMM_leaveAll 42 = .ok (.aload_n 0, 1) := by decide +kernel
theorem dMM_leaveAll_43 : decode cMM_leaveAll 43 = .ok (.getfield 80, 3) := by decide +kernel
theorem dMM_leaveAll_46 : decode cMM_leaveAll 46 = .ok (.iload_n 2, 1) := by decide +kernel
theorem dMM_leaveAll_47 : decode cMM_leaveAll 47 = .ok (.iaload, 1) := by decide +kernel
theorem dMM_leaveAll_48 : decode cMM_leaveAll 48 = .ok (.iload_n 1, 1) := by decide +kernel
theorem dMM_leaveAll_49 : decode cMM_leaveAll 49 = .ok (.invokevirtual 161, 3) := by decide +kernel
theorem dMM_leaveAll_52 : decode cMM_leaveAll 52 = .ok (.ifCond .eq 7, 3) := by decide +kernel
theorem dMM_leaveAll_55 : decode cMM_leaveAll 55 = .ok (.iconst 1, 1) := by decide +kernel
theorem dMM_leaveAll_56 : decode cMM_leaveAll 56 = .ok (.goto 4, 3) := by decide +kernel
theorem dMM_leaveAll_59 : decode cMM_leaveAll 59 = .ok (.iconst 0, 1) := by decide +kernel
theorem dMM_leaveAll_60 : decode cMM_leaveAll 60 = .ok (.bastore, 1) := by decide +kernel
theorem dMM_leaveAll_61 : decode cMM_leaveAll 61 = .ok (.iinc 2 1, 3) := by decide +kernel
theorem dMM_leaveAll_64 : decode cMM_leaveAll 64 = .ok (.goto (-45), 3) := by decide +kernel
theorem dMM_leaveAll_67 : decode cMM_leaveAll 67 = .ok (.iinc 1 1, 3) := by decide +kernel
theorem dMM_leaveAll_70 : decode cMM_leaveAll 70 = .ok (.goto (-68), 3) := by decide +kernel
theorem dMM_leaveAll_73 : decode cMM_leaveAll 73 = .ok (.aload_n 0, 1) := by decide +kernel
theorem dMM_leaveAll_74 : decode cMM_leaveAll 74 = .ok (.invokevirtual 170, 3) := by decide +kernel
theorem dMM_leaveAll_77 : decode cMM_leaveAll 77 = .ok (.aload_n 0, 1) := by decide +kernel
theorem dMM_leaveAll_78 : decode cMM_leaveAll 78 = .ok (.getfield 89, 3) := by decide +kernel
theorem dMM_leaveAll_81 : decode cMM_leaveAll 81 = .ok (.istore_n 1, 1) := by decide +kernel
theorem dMM_leaveAll_82 : decode cMM_leaveAll 82 = .ok (.iload_n 1, 1) := by decide +kernel
theorem dMM_leaveAll_83 : decode cMM_leaveAll 83 = .ok (.iconst 1, 1) := by decide +kernel
theorem dMM_leaveAll_84 : decode cMM_leaveAll 84 = .ok (.if_icmp .lt 64, 3) := by decide +kernel
theorem dMM_leaveAll_87 : decode cMM_leaveAll 87 = .ok (.aload_n 0, 1) := by decide +kernel
theorem dMM_leaveAll_88 : decode cMM_leaveAll 88 = .ok (.invokevirtual 128, 3) := by decide +kernel
theorem dMM_leaveAll_91 : decode cMM_leaveAll 91 = .ok (.ifCond .ne 57, 3) := by decide +kernel
theorem dMM_leaveAll_94 : decode cMM_leaveAll 94 = .ok (.aload_n 0, 1) := by decide +kernel
theorem dMM_leaveAll_95 : decode cMM_leaveAll 95 = .ok (.getfield 83, 3) := by decide +kernel
theorem dMM_leaveAll_98 : decode cMM_leaveAll 98 = .ok (.iload_n 1, 1) := by decide +kernel
theorem dMM_leaveAll_99 : decode cMM_leaveAll 99 = .ok (.baload, 1) := by decide +kernel
theorem dMM_leaveAll_100 : decode cMM_leaveAll 100 = .ok (.ifCond .eq 42, 3) := by decide +kernel
theorem dMM_leaveAll_103 : decode cMM_leaveAll 103 = .ok (.aload_n 0, 1) := by decide +kernel
theorem dMM_leaveAll_104 : decode cMM_leaveAll 104 = .ok (.sipush 2000, 3) := by decide +kernel
theorem dMM_leaveAll_107 : decode cMM_leaveAll 107 = .ok (.iload_n 1, 1) := by decide +kernel
theorem dMM_leaveAll_108 : decode cMM_leaveAll 108 = .ok (.iadd, 1) := by decide +kernel
theorem dMM_leaveAll_109 : decode cMM_leaveAll 109 = .ok (.invokevirtual 173, 3) := by decide +kernel
theorem dMM_leaveAll_112 : decode cMM_leaveAll 112 = .ok (.aload_n 0, 1) := by decide +kernel
theorem dMM_leaveAll_113 : decode cMM_leaveAll 113 = .ok (.invokevirtual 128, 3) := by decide +kernel
theorem dMM_leaveAll_116 : decode cMM_leaveAll 116 = .ok (.ifCond .ne 12, 3) := by decide +kernel
theorem dMM_leaveAll_119 : decode cMM_leaveAll 119 = .ok (.aload_n 0, 1) := by decide +kernel
theorem dMM_leaveAll_120 : decode cMM_leaveAll 120 = .ok (.sipush 200, 3) := by decide +kernel
theorem dMM_leaveAll_123 : decode cMM_leaveAll 123 = .ok (.iload_n 1, 1) := by decide +kernel
theorem dMM_leaveAll_124 : decode cMM_leaveAll 124 = .ok (.iadd, 1) := by decide +kernel
theorem dMM_leaveAll_125 : decode cMM_leaveAll 125 = .ok (.invokevirtual 176, 3) := by decide +kernel
theorem dMM_leaveAll_128 : decode cMM_leaveAll 128 = .ok (.aload_n 0, 1) := by decide +kernel
theorem dMM_leaveAll_129 : decode cMM_leaveAll 129 = .ok (.invokevirtual 128, 3) := by decide +kernel
theorem dMM_leaveAll_132 : decode cMM_leaveAll 132 = .ok (.ifCond .ne 10, 3) := by decide +kernel
theorem dMM_leaveAll_135 : decode cMM_leaveAll 135 = .ok (.aload_n 0, 1) := by decide +kernel
theorem dMM_leaveAll_136 : decode cMM_leaveAll 136 = .ok (.getfield 53, 3) := by decide +kernel
theorem dMM_leaveAll_139 : decode cMM_leaveAll 139 = .ok (.iload_n 1, 1) := by decide +kernel
theorem dMM_leaveAll_140 : decode cMM_leaveAll 140 = .ok (.iconst 0, 1) := by decide +kernel
theorem dMM_leaveAll_141 : decode cMM_leaveAll 141 = .ok (.bastore, 1) := by decide +kernel
theorem dMM_leaveAll_142 : decode cMM_leaveAll 142 = .ok (.iinc 1 (-1), 3) := by decide +kernel
theorem dMM_leaveAll_145 : decode cMM_leaveAll 145 = .ok (.goto (-63), 3) := by decide +kernel
theorem dMM_leaveAll_148 : decode cMM_leaveAll 148 = .ok (.return_, 1) := by decide +kernel
theorem dMM_want_0 : decode cMM_want 0 = .ok (.iload_n 1, 1) := by decide +kernel
theorem dMM_want_1 : decode cMM_want 1 = .ok (.istore_n 3, 1) := by decide +kernel
theorem dMM_want_2 : decode cMM_want 2 = .ok (.iload_n 3, 1) := by decide +kernel
theorem dMM_want_3 : decode cMM_want 3 = .ok (.iload_n 2, 1) := by decide +kernel
theorem dMM_want_4 : decode cMM_want 4 = .ok (.if_icmp .eq 24, 3) := by decide +kernel
theorem dMM_want_7 : decode cMM_want 7 = .ok (.iload_n 3, 1) := by decide +kernel
theorem dMM_want_8 : decode cMM_want 8 = .ok (.ifCond .eq 20, 3) := by decide +kernel
theorem dMM_want_11 : decode cMM_want 11 = .ok (.aload_n 0, 1) := by decide +kernel
theorem dMM_want_12 : decode cMM_want 12 = .ok (.getfield 86, 3) := by decide +kernel
theorem dMM_want_15 : decode cMM_want 15 = .ok (.iload_n 3, 1) := by decide +kernel
theorem dMM_want_16 : decode cMM_want 16 = .ok (.iconst 1, 1) := by decide +kernel
theorem dMM_want_17 : decode cMM_want 17 = .ok (.bastore, 1) := by decide +kernel
theorem dMM_want_18 : decode cMM_want 18 = .ok (.aload_n 0, 1) := by decide +kernel
theorem dMM_want_19 : decode cMM_want 19 = .ok (.getfield 7, 3) := by decide +kernel
theorem dMM_want_22 : decode cMM_want 22 = .ok (.iload_n 3, 1) := by decide +kernel
theorem dMM_want_23 : decode cMM_want 23 = .ok (.iaload, 1) := by decide +kernel
theorem dMM_want_24 : decode cMM_want 24 = .ok (.istore_n 3, 1) := by decide +kernel
theorem dMM_want_25 : decode cMM_want 25 = .ok (.goto (-23), 3) := by decide +kernel
theorem dMM_want_28 : decode cMM_want 28 = .ok (.return_, 1) := by decide +kernel
theorem dMM_aim_0 : decode cMM_aim 0 = .ok (.aload_n 0, 1) := by decide +kernel
theorem dMM_aim_1 : decode cMM_aim 1 = .ok (.getfield 25, 3) := by decide +kernel
theorem dMM_aim_4 : decode cMM_aim 4 = .ok (.iload_n 1, 1) := by decide +kernel
theorem dMM_aim_5 : decode cMM_aim 5 = .ok (.iaload, 1) := by decide +kernel
theorem dMM_aim_6 : decode cMM_aim 6 = .ok (.istore_n 2, 1) := by decide +kernel
theorem dMM_aim_7 : decode cMM_aim 7 = .ok (.aload_n 0, 1) := by decide +kernel
theorem dMM_aim_8 : decode cMM_aim 8 = .ok (.iload_n 1, 1) := by decide +kernel
theorem dMM_aim_9 : decode cMM_aim 9 = .ok (.invokevirtual 157, 3) := by decide +kernel
theorem dMM_aim_12 : decode cMM_aim 12 = .ok (.istore_n 3, 1) := by decide +kernel
theorem dMM_aim_13 : decode cMM_aim 13 = .ok (.aload_n 0, 1) := by decide +kernel
theorem dMM_aim_14 : decode cMM_aim 14 = .ok (.getfield 13, 3) := by decide +kernel
theorem dMM_aim_17 : decode cMM_aim 17 = .ok (.iload_n 2, 1) := by decide +kernel
theorem dMM_aim_18 : decode cMM_aim 18 = .ok (.iaload, 1) := by decide +kernel
theorem dMM_aim_19 : decode cMM_aim 19 = .ok (.iconst 3, 1) := by decide +kernel
theorem dMM_aim_20 : decode cMM_aim 20 = .ok (.if_icmp .gt 12, 3) := by decide +kernel
theorem dMM_aim_23 : decode cMM_aim 23 = .ok (.aload_n 0, 1) := by decide +kernel
theorem dMM_aim_24 : decode cMM_aim 24 = .ok (.iload_n 2, 1) := by decide +kernel
theorem dMM_aim_25 : decode cMM_aim 25 = .ok (.iload_n 3, 1) := by decide +kernel
theorem dMM_aim_26 : decode cMM_aim 26 = .ok (.invokevirtual 179, 3) := by decide +kernel
theorem dMM_aim_29 : decode cMM_aim 29 = .ok (.goto 90, 3) := by decide +kernel
theorem dMM_aim_32 : decode cMM_aim 32 = .ok (.aload_n 0, 1) := by decide +kernel
theorem dMM_aim_33 : decode cMM_aim 33 = .ok (.getfield 56, 3) := by decide +kernel
theorem dMM_aim_36 : decode cMM_aim 36 = .ok (.iload_n 2, 1) := by decide +kernel
theorem dMM_aim_37 : decode cMM_aim 37 = .ok (.iaload, 1) := by decide +kernel
theorem dMM_aim_38 : decode cMM_aim 38 = .ok (.ifCond .ne 41, 3) := by decide +kernel
theorem dMM_aim_41 : decode cMM_aim 41 = .ok (.aload_n 0, 1) := by decide +kernel
theorem dMM_aim_42 : decode cMM_aim 42 = .ok (.getfield 7, 3) := by decide +kernel
theorem dMM_aim_45 : decode cMM_aim 45 = .ok (.iload_n 2, 1) := by decide +kernel
theorem dMM_aim_46 : decode cMM_aim 46 = .ok (.iaload, 1) := by decide +kernel
theorem dMM_aim_47 : decode cMM_aim 47 = .ok (.istore 4, 2) := by decide +kernel
theorem dMM_aim_49 : decode cMM_aim 49 = .ok (.aload_n 0, 1) := by decide +kernel
theorem dMM_aim_50 : decode cMM_aim 50 = .ok (.aload_n 0, 1) := by decide +kernel
theorem dMM_aim_51 : decode cMM_aim 51 = .ok (.getfield 13, 3) := by decide +kernel
theorem dMM_aim_54 : decode cMM_aim 54 = .ok (.iload 4, 2) := by decide +kernel
theorem dMM_aim_56 : decode cMM_aim 56 = .ok (.iaload, 1) := by decide +kernel
theorem dMM_aim_57 : decode cMM_aim 57 = .ok (.iconst 2, 1) := by decide +kernel
theorem dMM_aim_58 : decode cMM_aim 58 = .ok (.if_icmp .ne 8, 3) := by decide +kernel
theorem dMM_aim_61 : decode cMM_aim 61 = .ok (.iload 4, 2) := by decide +kernel
theorem dMM_aim_63 : decode cMM_aim 63 = .ok (.goto 9, 3) := by decide +kernel
theorem dMM_aim_66 : decode cMM_aim 66 = .ok (.aload_n 0, 1) := by decide +kernel
theorem dMM_aim_67 : decode cMM_aim 67 = .ok (.iload 4, 2) := by decide +kernel
theorem dMM_aim_69 : decode cMM_aim 69 = .ok (.invokevirtual 182, 3) := by decide +kernel
theorem dMM_aim_72 : decode cMM_aim 72 = .ok (.iload_n 3, 1) := by decide +kernel
theorem dMM_aim_73 : decode cMM_aim 73 = .ok (.invokevirtual 179, 3) := by decide +kernel
theorem dMM_aim_76 : decode cMM_aim 76 = .ok (.goto 43, 3) := by decide +kernel
theorem dMM_aim_79 : decode cMM_aim 79 = .ok (.iconst 1, 1) := by decide +kernel
theorem dMM_aim_80 : decode cMM_aim 80 = .ok (.istore 4, 2) := by decide +kernel
theorem dMM_aim_82 : decode cMM_aim 82 = .ok (.iload 4, 2) := by decide +kernel
theorem dMM_aim_84 : decode cMM_aim 84 = .ok (.aload_n 0, 1) := by decide +kernel
theorem dMM_aim_85 : decode cMM_aim 85 = .ok (.getfield 89, 3) := by decide +kernel
theorem dMM_aim_88 : decode cMM_aim 88 = .ok (.if_icmp .gt 31, 3) := by decide +kernel
theorem dMM_aim_91 : decode cMM_aim 91 = .ok (.aload_n 0, 1) := by decide +kernel
theorem dMM_aim_92 : decode cMM_aim 92 = .ok (.getfield 56, 3) := by decide +kernel
theorem dMM_aim_95 : decode cMM_aim 95 = .ok (.iload_n 2, 1) := by decide +kernel
theorem dMM_aim_96 : decode cMM_aim 96 = .ok (.iaload, 1) := by decide +kernel
theorem dMM_aim_97 : decode cMM_aim 97 = .ok (.iload 4, 2) := by decide +kernel
theorem dMM_aim_99 : decode cMM_aim 99 = .ok (.ishr, 1) := by decide +kernel
theorem dMM_aim_100 : decode cMM_aim 100 = .ok (.iconst 1, 1) := by decide +kernel
theorem dMM_aim_101 : decode cMM_aim 101 = .ok (.iand, 1) := by decide +kernel
theorem dMM_aim_102 : decode cMM_aim 102 = .ok (.iconst 1, 1) := by decide +kernel
theorem dMM_aim_103 : decode cMM_aim 103 = .ok (.if_icmp .ne 10, 3) := by decide +kernel
theorem dMM_aim_106 : decode cMM_aim 106 = .ok (.aload_n 0, 1) := by decide +kernel
theorem dMM_aim_107 : decode cMM_aim 107 = .ok (.iload 4, 2) := by decide +kernel
theorem dMM_aim_109 : decode cMM_aim 109 = .ok (.iload_n 3, 1) := by decide +kernel
theorem dMM_aim_110 : decode cMM_aim 110 = .ok (.invokevirtual 179, 3) := by decide +kernel
theorem dMM_aim_113 : decode cMM_aim 113 = .ok (.iinc 4 1, 3) := by decide +kernel
theorem dMM_aim_116 : decode cMM_aim 116 = .ok (.goto (-34), 3) := by decide +kernel
theorem dMM_aim_119 : decode cMM_aim 119 = .ok (.return_, 1) := by decide +kernel
theorem dMM_fill_0 : decode cMM_fill 0 = .ok (.iconst 1, 1) := by decide +kernel
theorem dMM_fill_1 : decode cMM_fill 1 = .ok (.istore_n 1, 1) := by decide +kernel
theorem dMM_fill_2 : decode cMM_fill 2 = .ok (.iload_n 1, 1) := by decide +kernel
theorem dMM_fill_3 : decode cMM_fill 3 = .ok (.ifCond .eq 170, 3) := by decide +kernel
theorem dMM_fill_6 : decode cMM_fill 6 = .ok (.iconst 0, 1) := by decide +kernel
theorem dMM_fill_7 : decode cMM_fill 7 = .ok (.istore_n 1, 1) := by decide +kernel
theorem dMM_fill_8 : decode cMM_fill 8 = .ok (.iconst 1, 1) := by decide +kernel
theorem dMM_fill_9 : decode cMM_fill 9 = .ok (.istore_n 2, 1) := by decide +kernel
theorem dMM_fill_10 : decode cMM_fill 10 = .ok (.iload_n 2, 1) := by decide +kernel
theorem dMM_fill_11 : decode cMM_fill 11 = .ok (.aload_n 0, 1) := by decide +kernel
theorem dMM_fill_12 : decode cMM_fill 12 = .ok (.getfield 89, 3) := by decide +kernel
theorem dMM_fill_15 : decode cMM_fill 15 = .ok (.if_icmp .gt 155, 3) := by decide +kernel
theorem dMM_fill_18 : decode cMM_fill 18 = .ok (.iconst 0, 1) := by decide +kernel
theorem dMM_fill_19 : decode cMM_fill 19 = .ok (.istore_n 3, 1) := by decide +kernel
theorem dMM_fill_20 : decode cMM_fill 20 = .ok (.iconst 1, 1) := by decide +kernel
theorem dMM_fill_21 : decode cMM_fill 21 = .ok (.istore 4, 2) := by decide +kernel
theorem dMM_fill_23 : decode cMM_fill 23 = .ok (.iload 4, 2) := by decide +kernel
theorem dMM_fill_25 : decode cMM_fill 25 = .ok (.aload_n 0, 1) := by decide +kernel
theorem dMM_fill_26 : decode cMM_fill 26 = .ok (.getfield 89, 3) := by decide +kernel
theorem dMM_fill_29 : decode cMM_fill 29 = .ok (.if_icmp .gt 101, 3) := by decide +kernel
theorem dMM_fill_32 : decode cMM_fill 32 = .ok (.iload_n 3, 1) := by decide +kernel
theorem dMM_fill_33 : decode cMM_fill 33 = .ok (.ifCond .ne 24, 3) := by decide +kernel
theorem dMM_fill_36 : decode cMM_fill 36 = .ok (.aload_n 0, 1) := by decide +kernel
theorem dMM_fill_37 : decode cMM_fill 37 = .ok (.getfield 7, 3) := by decide +kernel
theorem dMM_fill_40 : decode cMM_fill 40 = .ok (.iload 4, 2) := by decide +kernel
theorem dMM_fill_42 : decode cMM_fill 42 = .ok (.iaload, 1) := by decide +kernel
theorem dMM_fill_43 : decode cMM_fill 43 = .ok (.iload_n 2, 1) := by decide +kernel
theorem dMM_fill_44 : decode cMM_fill 44 = .ok (.if_icmp .ne 17, 3) := by decide +kernel
theorem dMM_fill_47 : decode cMM_fill 47 = .ok (.aload_n 0, 1) := by decide +kernel
theorem dMM_fill_48 : decode cMM_fill 48 = .ok (.getfield 86, 3) := by decide +kernel
theorem dMM_fill_51 : decode cMM_fill 51 = .ok (.iload 4, 2) := by decide +kernel
theorem dMM_fill_53 : decode cMM_fill 53 = .ok (.baload, 1) := by decide +kernel
theorem dMM_fill_54 : decode cMM_fill 54 = .ok (.ifCond .eq 7, 3) := by decide +kernel
theorem dMM_fill_57 : decode cMM_fill 57 = .ok (.iconst 1, 1) := by decide +kernel
theorem dMM_fill_58 : decode cMM_fill 58 = .ok (.goto 4, 3) := by decide +kernel
theorem dMM_fill_61 : decode cMM_fill 61 = .ok (.iconst 0, 1) := by decide +kernel
theorem dMM_fill_62 : decode cMM_fill 62 = .ok (.istore_n 3, 1) := by decide +kernel
theorem dMM_fill_63 : decode cMM_fill 63 = .ok (.aload_n 0, 1) := by decide +kernel
theorem dMM_fill_64 : decode cMM_fill 64 = .ok (.getfield 86, 3) := by decide +kernel
theorem dMM_fill_67 : decode cMM_fill 67 = .ok (.iload_n 2, 1) := by decide +kernel
theorem dMM_fill_68 : decode cMM_fill 68 = .ok (.baload, 1) := by decide +kernel
theorem dMM_fill_69 : decode cMM_fill 69 = .ok (.ifCond .eq 55, 3) := by decide +kernel
theorem dMM_fill_72 : decode cMM_fill 72 = .ok (.aload_n 0, 1) := by decide +kernel
theorem dMM_fill_73 : decode cMM_fill 73 = .ok (.getfield 13, 3) := by decide +kernel
theorem dMM_fill_76 : decode cMM_fill 76 = .ok (.iload_n 2, 1) := by decide +kernel
theorem dMM_fill_77 : decode cMM_fill 77 = .ok (.iaload, 1) := by decide +kernel
theorem dMM_fill_78 : decode cMM_fill 78 = .ok (.iconst 2, 1) := by decide +kernel
theorem dMM_fill_79 : decode cMM_fill 79 = .ok (.if_icmp .ne 45, 3) := by decide +kernel
theorem dMM_fill_82 : decode cMM_fill 82 = .ok (.aload_n 0, 1) := by decide +kernel
theorem dMM_fill_83 : decode cMM_fill 83 = .ok (.getfield 7, 3) := by decide +kernel
theorem dMM_fill_86 : decode cMM_fill 86 = .ok (.iload 4, 2) := by decide +kernel
theorem dMM_fill_88 : decode cMM_fill 88 = .ok (.iaload, 1) := by decide +kernel
theorem dMM_fill_89 : decode cMM_fill 89 = .ok (.iload_n 2, 1) := by decide +kernel
theorem dMM_fill_90 : decode cMM_fill 90 = .ok (.if_icmp .ne 34, 3) := by decide +kernel
theorem dMM_fill_93 : decode cMM_fill 93 = .ok (.aload_n 0, 1) := by decide +kernel
theorem dMM_fill_94 : decode cMM_fill 94 = .ok (.getfield 13, 3) := by decide +kernel
theorem dMM_fill_97 : decode cMM_fill 97 = .ok (.iload 4, 2) := by decide +kernel
theorem dMM_fill_99 : decode cMM_fill 99 = .ok (.iaload, 1) := by decide +kernel
theorem dMM_fill_100 : decode cMM_fill 100 = .ok (.iconst 3, 1) := by decide +kernel
theorem dMM_fill_101 : decode cMM_fill 101 = .ok (.if_icmp .gt 23, 3) := by decide +kernel
theorem dMM_fill_104 : decode cMM_fill 104 = .ok (.aload_n 0, 1) := by decide +kernel
theorem dMM_fill_105 : decode cMM_fill 105 = .ok (.getfield 86, 3) := by decide +kernel
theorem dMM_fill_108 : decode cMM_fill 108 = .ok (.iload 4, 2) := by decide +kernel
theorem dMM_fill_110 : decode cMM_fill 110 = .ok (.baload, 1) := by decide +kernel
theorem dMM_fill_111 : decode cMM_fill 111 = .ok (.ifCond .ne 13, 3) := by decide +kernel
theorem dMM_fill_114 : decode cMM_fill 114 = .ok (.aload_n 0, 1) := by decide +kernel
theorem dMM_fill_115 : decode cMM_fill 115 = .ok (.getfield 86, 3) := by decide +kernel
theorem dMM_fill_118 : decode cMM_fill 118 = .ok (.iload 4, 2) := by decide +kernel
theorem dMM_fill_120 : decode cMM_fill 120 = .ok (.iconst 1, 1) := by decide +kernel
theorem dMM_fill_121 : decode cMM_fill 121 = .ok (.bastore, 1) := by decide +kernel
theorem dMM_fill_122 : decode cMM_fill 122 = .ok (.iconst 1, 1) := by decide +kernel
theorem dMM_fill_123 : decode cMM_fill 123 = .ok (.istore_n 1, 1) := by decide +kernel
theorem dMM_fill_124 : decode cMM_fill 124 = .ok (.iinc 4 1, 3) := by decide +kernel
theorem dMM_fill_127 : decode cMM_fill 127 = .ok (.goto (-104), 3) := by decide +kernel
theorem dMM_fill_130 : decode cMM_fill 130 = .ok (.aload_n 0, 1) := by decide +kernel
theorem dMM_fill_131 : decode cMM_fill 131 = .ok (.getfield 86, 3) := by decide +kernel
theorem dMM_fill_134 : decode cMM_fill 134 = .ok (.iload_n 2, 1) := by decide +kernel
theorem dMM_fill_135 : decode cMM_fill 135 = .ok (.baload, 1) := by decide +kernel
theorem dMM_fill_136 : decode cMM_fill 136 = .ok (.ifCond .eq 28, 3) := by decide +kernel
theorem dMM_fill_139 : decode cMM_fill 139 = .ok (.aload_n 0, 1) := by decide +kernel
theorem dMM_fill_140 : decode cMM_fill 140 = .ok (.iload_n 2, 1) := by decide +kernel
theorem dMM_fill_141 : decode cMM_fill 141 = .ok (.invokevirtual 150, 3) := by decide +kernel
theorem dMM_fill_144 : decode cMM_fill 144 = .ok (.ifCond .eq 20, 3) := by decide +kernel
theorem dMM_fill_147 : decode cMM_fill 147 = .ok (.iload_n 3, 1) := by decide +kernel
theorem dMM_fill_148 : decode cMM_fill 148 = .ok (.ifCond .ne 16, 3) := by decide +kernel
theorem dMM_fill_151 : decode cMM_fill 151 = .ok (.aload_n 0, 1) := by decide +kernel
theorem dMM_fill_152 : decode cMM_fill 152 = .ok (.getfield 86, 3) := by decide +kernel
theorem dMM_fill_155 : decode cMM_fill 155 = .ok (.aload_n 0, 1) := by decide +kernel
theorem dMM_fill_156 : decode cMM_fill 156 = .ok (.iload_n 2, 1) := by decide +kernel
theorem dMM_fill_157 : decode cMM_fill 157 = .ok (.invokevirtual 182, 3) := by decide +kernel
theorem dMM_fill_160 : decode cMM_fill 160 = .ok (.iconst 1, 1) := by decide +kernel
theorem dMM_fill_161 : decode cMM_fill 161 = .ok (.bastore, 1) := by decide +kernel
theorem dMM_fill_162 : decode cMM_fill 162 = .ok (.iconst 1, 1) := by decide +kernel
theorem dMM_fill_163 : decode cMM_fill 163 = .ok (.istore_n 1, 1) := by decide +kernel
theorem dMM_fill_164 : decode cMM_fill 164 = .ok (.iinc 2 1, 3) := by decide +kernel
theorem dMM_fill_167 : decode cMM_fill 167 = .ok (.goto (-157), 3) := by decide +kernel
theorem dMM_fill_170 : decode cMM_fill 170 = .ok (.goto (-168), 3) := by decide +kernel
theorem dMM_fill_173 : decode cMM_fill 173 = .ok (.return_, 1) := by decide +kernel
theorem dMM_done_0 : decode cMM_done 0 = .ok (.iconst 1, 1) := by decide +kernel
theorem dMM_done_1 : decode cMM_done 1 = .ok (.istore_n 2, 1) := by decide +kernel
theorem dMM_done_2 : decode cMM_done 2 = .ok (.iload_n 2, 1) := by decide +kernel
theorem dMM_done_3 : decode cMM_done 3 = .ok (.aload_n 0, 1) := by decide +kernel
theorem dMM_done_4 : decode cMM_done 4 = .ok (.getfield 89, 3) := by decide +kernel
theorem dMM_done_7 : decode cMM_done 7 = .ok (.if_icmp .gt 40, 3) := by decide +kernel
theorem dMM_done_10 : decode cMM_done 10 = .ok (.aload_n 0, 1) := by decide +kernel
theorem dMM_done_11 : decode cMM_done 11 = .ok (.getfield 7, 3) := by decide +kernel
theorem dMM_done_14 : decode cMM_done 14 = .ok (.iload_n 2, 1) := by decide +kernel
theorem dMM_done_15 : decode cMM_done 15 = .ok (.iaload, 1) := by decide +kernel
theorem dMM_done_16 : decode cMM_done 16 = .ok (.iload_n 1, 1) := by decide +kernel
theorem dMM_done_17 : decode cMM_done 17 = .ok (.if_icmp .ne 24, 3) := by decide +kernel
theorem dMM_done_20 : decode cMM_done 20 = .ok (.aload_n 0, 1) := by decide +kernel
theorem dMM_done_21 : decode cMM_done 21 = .ok (.getfield 13, 3) := by decide +kernel
theorem dMM_done_24 : decode cMM_done 24 = .ok (.iload_n 2, 1) := by decide +kernel
theorem dMM_done_25 : decode cMM_done 25 = .ok (.iaload, 1) := by decide +kernel
theorem dMM_done_26 : decode cMM_done 26 = .ok (.iconst 3, 1) := by decide +kernel
theorem dMM_done_27 : decode cMM_done 27 = .ok (.if_icmp .ne 14, 3) := by decide +kernel
theorem dMM_done_30 : decode cMM_done 30 = .ok (.aload_n 0, 1) := by decide +kernel
theorem dMM_done_31 : decode cMM_done 31 = .ok (.getfield 53, 3) := by decide +kernel
theorem dMM_done_34 : decode cMM_done 34 = .ok (.iload_n 2, 1) := by decide +kernel
theorem dMM_done_35 : decode cMM_done 35 = .ok (.baload, 1) := by decide +kernel
theorem dMM_done_36 : decode cMM_done 36 = .ok (.ifCond .eq 5, 3) := by decide +kernel
theorem dMM_done_39 : decode cMM_done 39 = .ok (.iconst 1, 1) := by decide +kernel
theorem dMM_done_40 : decode cMM_done 40 = .ok (.ireturn, 1) := by decide +kernel
theorem dMM_done_41 : decode cMM_done 41 = .ok (.iinc 2 1, 3) := by decide +kernel
theorem dMM_done_44 : decode cMM_done 44 = .ok (.goto (-42), 3) := by decide +kernel
theorem dMM_done_47 : decode cMM_done 47 = .ok (.iconst 0, 1) := by decide +kernel
theorem dMM_done_48 : decode cMM_done 48 = .ok (.ireturn, 1) := by decide +kernel
theorem dMM_finish_0 : decode cMM_finish 0 = .ok (.aload_n 0, 1) := by decide +kernel
theorem dMM_finish_1 : decode cMM_finish 1 = .ok (.getfield 7, 3) := by decide +kernel
theorem dMM_finish_4 : decode cMM_finish 4 = .ok (.iload_n 1, 1) := by decide +kernel
theorem dMM_finish_5 : decode cMM_finish 5 = .ok (.iaload, 1) := by decide +kernel
theorem dMM_finish_6 : decode cMM_finish 6 = .ok (.istore_n 2, 1) := by decide +kernel
theorem dMM_finish_7 : decode cMM_finish 7 = .ok (.iload_n 2, 1) := by decide +kernel
theorem dMM_finish_8 : decode cMM_finish 8 = .ok (.ifCond .ne 9, 3) := by decide +kernel
theorem dMM_finish_11 : decode cMM_finish 11 = .ok (.aload_n 0, 1) := by decide +kernel
theorem dMM_finish_12 : decode cMM_finish 12 = .ok (.iconst 1, 1) := by decide +kernel
theorem dMM_finish_13 : decode cMM_finish 13 = .ok (.putfield 185, 3) := by decide +kernel
theorem dMM_finish_16 : decode cMM_finish 16 = .ok (.return_, 1) := by decide +kernel
theorem dMM_finish_17 : decode cMM_finish 17 = .ok (.aload_n 0, 1) := by decide +kernel
theorem dMM_finish_18 : decode cMM_finish 18 = .ok (.bipush 100, 2) := by decide +kernel
theorem dMM_finish_20 : decode cMM_finish 20 = .ok (.iload_n 2, 1) := by decide +kernel
theorem dMM_finish_21 : decode cMM_finish 21 = .ok (.iadd, 1) := by decide +kernel
theorem dMM_finish_22 : decode cMM_finish 22 = .ok (.invokevirtual 132, 3) := by decide +kernel
theorem dMM_finish_25 : decode cMM_finish 25 = .ok (.aload_n 0, 1) := by decide +kernel
theorem dMM_finish_26 : decode cMM_finish 26 = .ok (.getfield 7, 3) := by decide +kernel
theorem dMM_finish_29 : decode cMM_finish 29 = .ok (.iload_n 2, 1) := by decide +kernel
theorem dMM_finish_30 : decode cMM_finish 30 = .ok (.iaload, 1) := by decide +kernel
theorem dMM_finish_31 : decode cMM_finish 31 = .ok (.istore_n 3, 1) := by decide +kernel
theorem dMM_finish_32 : decode cMM_finish 32 = .ok (.aload_n 0, 1) := by decide +kernel
theorem dMM_finish_33 : decode cMM_finish 33 = .ok (.getfield 13, 3) := by decide +kernel
theorem dMM_finish_36 : decode cMM_finish 36 = .ok (.iload_n 3, 1) := by decide +kernel
theorem dMM_finish_37 : decode cMM_finish 37 = .ok (.iaload, 1) := by decide +kernel
theorem dMM_finish_38 : decode cMM_finish 38 = .ok (.iconst 2, 1) := by decide +kernel
theorem dMM_finish_39 : decode cMM_finish 39 = .ok (.if_icmp .ne 7, 3) := by decide +kernel
theorem dMM_finish_42 : decode cMM_finish 42 = .ok (.iconst 1, 1) := by decide +kernel
theorem dMM_finish_43 : decode cMM_finish 43 = .ok (.goto 4, 3) := by decide +kernel
theorem dMM_finish_46 : decode cMM_finish 46 = .ok (.iconst 0, 1) := by decide +kernel
theorem dMM_finish_47 : decode cMM_finish 47 = .ok (.istore 4, 2) := by decide +kernel
theorem dMM_finish_49 : decode cMM_finish 49 = .ok (.iconst 1, 1) := by decide +kernel
theorem dMM_finish_50 : decode cMM_finish 50 = .ok (.istore 5, 2) := by decide +kernel
theorem dMM_finish_52 : decode cMM_finish 52 = .ok (.iload 5, 2) := by decide +kernel
theorem dMM_finish_54 : decode cMM_finish 54 = .ok (.aload_n 0, 1) := by decide +kernel
theorem dMM_finish_55 : decode cMM_finish 55 = .ok (.getfield 89, 3) := by decide +kernel
theorem dMM_finish_58 : decode cMM_finish 58 = .ok (.if_icmp .gt 52, 3) := by decide +kernel
theorem dMM_finish_61 : decode cMM_finish 61 = .ok (.iload 4, 2) := by decide +kernel
theorem dMM_finish_63 : decode cMM_finish 63 = .ok (.ifCond .eq 38, 3) := by decide +kernel
theorem dMM_finish_66 : decode cMM_finish 66 = .ok (.aload_n 0, 1) := by decide +kernel
theorem dMM_finish_67 : decode cMM_finish 67 = .ok (.getfield 7, 3) := by decide +kernel
theorem dMM_finish_70 : decode cMM_finish 70 = .ok (.iload 5, 2) := by decide +kernel
theorem dMM_finish_72 : decode cMM_finish 72 = .ok (.iaload, 1) := by decide +kernel
theorem dMM_finish_73 : decode cMM_finish 73 = .ok (.iload_n 3, 1) := by decide +kernel
theorem dMM_finish_74 : decode cMM_finish 74 = .ok (.if_icmp .ne 23, 3) := by decide +kernel
theorem dMM_finish_77 : decode cMM_finish 77 = .ok (.aload_n 0, 1) := by decide +kernel
theorem dMM_finish_78 : decode cMM_finish 78 = .ok (.getfield 13, 3) := by decide +kernel
theorem dMM_finish_81 : decode cMM_finish 81 = .ok (.iload 5, 2) := by decide +kernel
theorem dMM_finish_83 : decode cMM_finish 83 = .ok (.iaload, 1) := by decide +kernel
theorem dMM_finish_84 : decode cMM_finish 84 = .ok (.iconst 3, 1) := by decide +kernel
theorem dMM_finish_85 : decode cMM_finish 85 = .ok (.if_icmp .gt 12, 3) := by decide +kernel
theorem dMM_finish_88 : decode cMM_finish 88 = .ok (.aload_n 0, 1) := by decide +kernel
theorem dMM_finish_89 : decode cMM_finish 89 = .ok (.iload 5, 2) := by decide +kernel
theorem dMM_finish_91 : decode cMM_finish 91 = .ok (.invokevirtual 189, 3) := by decide +kernel
theorem dMM_finish_94 : decode cMM_finish 94 = .ok (.ifCond .eq 7, 3) := by decide +kernel
theorem dMM_finish_97 : decode cMM_finish 97 = .ok (.iconst 1, 1) := by decide +kernel
theorem dMM_finish_98 : decode cMM_finish 98 = .ok (.goto 4, 3) := by decide +kernel
theorem dMM_finish_101 : decode cMM_finish 101 = .ok (.iconst 0, 1) := by decide +kernel
theorem dMM_finish_102 : decode cMM_finish 102 = .ok (.istore 4, 2) := by decide +kernel
theorem dMM_finish_104 : decode cMM_finish 104 = .ok (.iinc 5 1, 3) := by decide +kernel
theorem dMM_finish_107 : decode cMM_finish 107 = .ok (.goto (-55), 3) := by decide +kernel
theorem dMM_finish_110 : decode cMM_finish 110 = .ok (.iload 4, 2) := by decide +kernel
theorem dMM_finish_112 : decode cMM_finish 112 = .ok (.ifCond .eq 18, 3) := by decide +kernel
theorem dMM_finish_115 : decode cMM_finish 115 = .ok (.aload_n 0, 1) := by decide +kernel
theorem dMM_finish_116 : decode cMM_finish 116 = .ok (.invokevirtual 128, 3) := by decide +kernel
theorem dMM_finish_119 : decode cMM_finish 119 = .ok (.ifCond .ne 11, 3) := by decide +kernel
theorem dMM_finish_122 : decode cMM_finish 122 = .ok (.aload_n 0, 1) := by decide +kernel
theorem dMM_finish_123 : decode cMM_finish 123 = .ok (.bipush 100, 2) := by decide +kernel
theorem dMM_finish_125 : decode cMM_finish 125 = .ok (.iload_n 3, 1) := by decide +kernel
theorem dMM_finish_126 : decode cMM_finish 126 = .ok (.iadd, 1) := by decide +kernel
theorem dMM_finish_127 : decode cMM_finish 127 = .ok (.invokevirtual 132, 3) := by decide +kernel
theorem dMM_finish_130 : decode cMM_finish 130 = .ok (.return_, 1) := by decide +kernel
theorem dMM_enterAll_0 : decode cMM_enterAll 0 = .ok (.aload_n 0, 1) := by decide +kernel
theorem dMM_enterAll_1 : decode cMM_enterAll 1 = .ok (.invokevirtual 192, 3) := by decide +kernel
theorem dMM_enterAll_4 : decode cMM_enterAll 4 = .ok (.iconst 1, 1) := by decide +kernel
theorem dMM_enterAll_5 : decode cMM_enterAll 5 = .ok (.istore_n 1, 1) := by decide +kernel
theorem dMM_enterAll_6 : decode cMM_enterAll 6 = .ok (.iload_n 1, 1) := by decide +kernel
