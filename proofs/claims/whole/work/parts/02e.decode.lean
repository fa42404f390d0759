theorem dLN_put_8 : decode cLN_put 8 = .ok (.arraylength, 1) := by decide +kernel
theorem dLN_put_9 : decode cLN_put 9 = .ok (.if_icmp .ne 5, 3) := by decide +kernel
theorem dLN_put_12 : decode cLN_put 12 = .ok (.iconst 0, 1) := by decide +kernel
theorem dLN_put_13 : decode cLN_put 13 = .ok (.ireturn, 1) := by decide +kernel
theorem dLN_put_14 : decode cLN_put 14 = .ok (.aload_n 0, 1) := by decide +kernel
theorem dLN_put_15 : decode cLN_put 15 = .ok (.getfield 9, 3) := by decide +kernel
theorem dLN_put_18 : decode cLN_put 18 = .ok (.aload_n 0, 1) := by decide +kernel
theorem dLN_put_19 : decode cLN_put 19 = .ok (.getfield 15, 3) := by decide +kernel
theorem dLN_put_22 : decode cLN_put 22 = .ok (.iload_n 1, 1) := by decide +kernel
theorem dLN_put_23 : decode cLN_put 23 = .ok (.iastore, 1) := by decide +kernel
theorem dLN_put_24 : decode cLN_put 24 = .ok (.aload_n 0, 1) := by decide +kernel
theorem dLN_put_25 : decode cLN_put 25 = .ok (.dup, 1) := by decide +kernel
theorem dLN_put_26 : decode cLN_put 26 = .ok (.getfield 15, 3) := by decide +kernel
theorem dLN_put_29 : decode cLN_put 29 = .ok (.iconst 1, 1) := by decide +kernel
theorem dLN_put_30 : decode cLN_put 30 = .ok (.iadd, 1) := by decide +kernel
theorem dLN_put_31 : decode cLN_put 31 = .ok (.putfield 15, 3) := by decide +kernel
theorem dLN_put_34 : decode cLN_put 34 = .ok (.iconst 1, 1) := by decide +kernel
theorem dLN_put_35 : decode cLN_put 35 = .ok (.ireturn, 1) := by decide +kernel
theorem dLN_at_0 : decode cLN_at 0 = .ok (.iload_n 1, 1) := by decide +kernel
theorem dLN_at_1 : decode cLN_at 1 = .ok (.ifCond .lt 20, 3) := by decide +kernel
theorem dLN_at_4 : decode cLN_at 4 = .ok (.iload_n 1, 1) := by decide +kernel
theorem dLN_at_5 : decode cLN_at 5 = .ok (.aload_n 0, 1) := by decide +kernel
theorem dLN_at_6 : decode cLN_at 6 = .ok (.getfield 15, 3) := by decide +kernel
theorem dLN_at_9 : decode cLN_at 9 = .ok (.if_icmp .ge 12, 3) := by decide +kernel
theorem dLN_at_12 : decode cLN_at 12 = .ok (.aload_n 0, 1) := by decide +kernel
theorem dLN_at_13 : decode cLN_at 13 = .ok (.getfield 9, 3) := by decide +kernel
theorem dLN_at_16 : decode cLN_at 16 = .ok (.iload_n 1, 1) := by decide +kernel
theorem dLN_at_17 : decode cLN_at 17 = .ok (.iaload, 1) := by decide +kernel
theorem dLN_at_18 : decode cLN_at 18 = .ok (.goto 4, 3) := by decide +kernel
theorem dLN_at_21 : decode cLN_at 21 = .ok (.iconst (-1), 1) := by decide +kernel
theorem dLN_at_22 : decode cLN_at 22 = .ok (.ireturn, 1) := by decide +kernel
theorem dLN_takeFirst_0 : decode cLN_takeFirst 0 = .ok (.aload_n 0, 1) := by decide +kernel
theorem dLN_takeFirst_1 : decode cLN_takeFirst 1 = .ok (.getfield 15, 3) := by decide +kernel
theorem dLN_takeFirst_4 : decode cLN_takeFirst 4 = .ok (.ifCond .ne 5, 3) := by decide +kernel
theorem dLN_takeFirst_7 : decode cLN_takeFirst 7 = .ok (.iconst (-1), 1) := by decide +kernel
theorem dLN_takeFirst_8 : decode cLN_takeFirst 8 = .ok (.ireturn, 1) := by decide +kernel
theorem dLN_takeFirst_9 : decode cLN_takeFirst 9 = .ok (.aload_n 0, 1) := by decide +kernel
theorem dLN_takeFirst_10 : decode cLN_takeFirst 10 = .ok (.getfield 9, 3) := by decide +kernel
theorem dLN_takeFirst_13 : decode cLN_takeFirst 13 = .ok (.iconst 0, 1) := by decide +kernel
theorem dLN_takeFirst_14 : decode cLN_takeFirst 14 = .ok (.iaload, 1) := by decide +kernel
theorem dLN_takeFirst_15 : decode cLN_takeFirst 15 = .ok (.istore_n 1, 1) := by decide +kernel
theorem dLN_takeFirst_16 : decode cLN_takeFirst 16 = .ok (.aload_n 0, 1) := by decide +kernel
theorem dLN_takeFirst_17 : decode cLN_takeFirst 17 = .ok (.dup, 1) := by decide +kernel
theorem dLN_takeFirst_18 : decode cLN_takeFirst 18 = .ok (.getfield 15, 3) := by decide +kernel
theorem dLN_takeFirst_21 : decode cLN_takeFirst 21 = .ok (.iconst 1, 1) := by decide +kernel
theorem dLN_takeFirst_22 : decode cLN_takeFirst 22 = .ok (.isub, 1) := by decide +kernel
theorem dLN_takeFirst_23 : decode cLN_takeFirst 23 = .ok (.putfield 15, 3) := by decide +kernel
theorem dLN_takeFirst_26 : decode cLN_takeFirst 26 = .ok (.iconst 0, 1) := by decide +kernel
theorem dLN_takeFirst_27 : decode cLN_takeFirst 27 = .ok (.istore_n 2, 1) := by decide +kernel
theorem dLN_takeFirst_28 : decode cLN_takeFirst 28 = .ok (.iload_n 2, 1) := by decide +kernel
theorem dLN_takeFirst_29 : decode cLN_takeFirst 29 = .ok (.aload_n 0, 1) := by decide +kernel
theorem dLN_takeFirst_30 : decode cLN_takeFirst 30 = .ok (.getfield 15, 3) := by decide +kernel
theorem dLN_takeFirst_33 : decode cLN_takeFirst 33 = .ok (.if_icmp .ge 23, 3) := by decide +kernel
theorem dLN_takeFirst_36 : decode cLN_takeFirst 36 = .ok (.aload_n 0, 1) := by decide +kernel
theorem dLN_takeFirst_37 : decode cLN_takeFirst 37 = .ok (.getfield 9, 3) := by decide +kernel
theorem dLN_takeFirst_40 : decode cLN_takeFirst 40 = .ok (.iload_n 2, 1) := by decide +kernel
theorem dLN_takeFirst_41 : decode cLN_takeFirst 41 = .ok (.aload_n 0, 1) := by decide +kernel
theorem dLN_takeFirst_42 : decode cLN_takeFirst 42 = .ok (.getfield 9, 3) := by decide +kernel
theorem dLN_takeFirst_45 : decode cLN_takeFirst 45 = .ok (.iload_n 2, 1) := by decide +kernel
theorem dLN_takeFirst_46 : decode cLN_takeFirst 46 = .ok (.iconst 1, 1) := by decide +kernel
theorem dLN_takeFirst_47 : decode cLN_takeFirst 47 = .ok (.iadd, 1) := by decide +kernel
theorem dLN_takeFirst_48 : decode cLN_takeFirst 48 = .ok (.iaload, 1) := by decide +kernel
theorem dLN_takeFirst_49 : decode cLN_takeFirst 49 = .ok (.iastore, 1) := by decide +kernel
theorem dLN_takeFirst_50 : decode cLN_takeFirst 50 = .ok (.iinc 2 1, 3) := by decide +kernel
theorem dLN_takeFirst_53 : decode cLN_takeFirst 53 = .ok (.goto (-25), 3) := by decide +kernel
theorem dLN_takeFirst_56 : decode cLN_takeFirst 56 = .ok (.iload_n 1, 1) := by decide +kernel
theorem dLN_takeFirst_57 : decode cLN_takeFirst 57 = .ok (.ireturn, 1) := by decide +kernel
theorem dLN_clear_0 : decode cLN_clear 0 = .ok (.aload_n 0, 1) := by decide +kernel
theorem dLN_clear_1 : decode cLN_clear 1 = .ok (.iconst 0, 1) := by decide +kernel
theorem dLN_clear_2 : decode cLN_clear 2 = .ok (.putfield 15, 3) := by decide +kernel
theorem dLN_clear_5 : decode cLN_clear 5 = .ok (.return_, 1) := by decide +kernel
theorem dRU_init_0 : decode cRU_init 0 = .ok (.aload_n 0, 1) := by decide +kernel
theorem dRU_init_1 : decode cRU_init 1 = .ok (.invokespecial 3, 3) := by decide +kernel
theorem dRU_init_4 : decode cRU_init 4 = .ok (.aload_n 0, 1) := by decide +kernel
theorem dRU_init_5 : decode cRU_init 5 = .ok (.new 9, 3) := by decide +kernel
theorem dRU_init_8 : decode cRU_init 8 = .ok (.dup, 1) := by decide +kernel
theorem dRU_init_9 : decode cRU_init 9 = .ok (.invokespecial 11, 3) := by decide +kernel
theorem dRU_init_12 : decode cRU_init 12 = .ok (.putfield 12, 3) := by decide +kernel
theorem dRU_init_15 : decode cRU_init 15 = .ok (.aload_n 0, 1) := by decide +kernel
theorem dRU_init_16 : decode cRU_init 16 = .ok (.new 18, 3) := by decide +kernel
theorem dRU_init_19 : decode cRU_init 19 = .ok (.dup, 1) := by decide +kernel
theorem dRU_init_20 : decode cRU_init 20 = .ok (.bipush 16, 2) := by decide +kernel
theorem dRU_init_22 : decode cRU_init 22 = .ok (.invokespecial 20, 3) := by decide +kernel
theorem dRU_init_25 : decode cRU_init 25 = .ok (.putfield 23, 3) := by decide +kernel
theorem dRU_init_28 : decode cRU_init 28 = .ok (.aload_n 0, 1) := by decide +kernel
theorem dRU_init_29 : decode cRU_init 29 = .ok (.new 18, 3) := by decide +kernel
theorem dRU_init_32 : decode cRU_init 32 = .ok (.dup, 1) := by decide +kernel
theorem dRU_init_33 : decode cRU_init 33 = .ok (.bipush 16, 2) := by decide +kernel
theorem dRU_init_35 : decode cRU_init 35 = .ok (.invokespecial 20, 3) := by decide +kernel
theorem dRU_init_38 : decode cRU_init 38 = .ok (.putfield 27, 3) := by decide +kernel
theorem dRU_init_41 : decode cRU_init 41 = .ok (.aload_n 0, 1) := by decide +kernel
theorem dRU_init_42 : decode cRU_init 42 = .ok (.new 18, 3) := by decide +kernel
theorem dRU_init_45 : decode cRU_init 45 = .ok (.dup, 1) := by decide +kernel
theorem dRU_init_46 : decode cRU_init 46 = .ok (.sipush 200, 3) := by decide +kernel
theorem dRU_init_49 : decode cRU_init 49 = .ok (.invokespecial 20, 3) := by decide +kernel
theorem dRU_init_52 : decode cRU_init 52 = .ok (.putfield 30, 3) := by decide +kernel
theorem dRU_init_55 : decode cRU_init 55 = .ok (.aload_n 0, 1) := by decide +kernel
theorem dRU_init_56 : decode cRU_init 56 = .ok (.new 33, 3) := by decide +kernel
theorem dRU_init_59 : decode cRU_init 59 = .ok (.dup, 1) := by decide +kernel
theorem dRU_init_60 : decode cRU_init 60 = .ok (.invokespecial 35, 3) := by decide +kernel
theorem dRU_init_63 : decode cRU_init 63 = .ok (.putfield 36, 3) := by decide +kernel
theorem dRU_init_66 : decode cRU_init 66 = .ok (.aload_n 0, 1) := by decide +kernel
theorem dRU_init_67 : decode cRU_init 67 = .ok (.bipush 16, 2) := by decide +kernel
theorem dRU_init_69 : decode cRU_init 69 = .ok (.newarray .int, 2) := by decide +kernel
theorem dRU_init_71 : decode cRU_init 71 = .ok (.putfield 40, 3) := by decide +kernel
theorem dRU_init_74 : decode cRU_init 74 = .ok (.aload_n 0, 1) := by decide +kernel
theorem dRU_init_75 : decode cRU_init 75 = .ok (.iconst 0, 1) := by decide +kernel
theorem dRU_init_76 : decode cRU_init 76 = .ok (.putfield 44, 3) := by decide +kernel
theorem dRU_init_79 : decode cRU_init 79 = .ok (.aload_n 0, 1) := by decide +kernel
theorem dRU_init_80 : decode cRU_init 80 = .ok (.aload_n 1, 1) := by decide +kernel
theorem dRU_init_81 : decode cRU_init 81 = .ok (.putfield 48, 3) := by decide +kernel
theorem dRU_init_84 : decode cRU_init 84 = .ok (.aload_n 0, 1) := by decide +kernel
theorem dRU_init_85 : decode cRU_init 85 = .ok (.aload_n 2, 1) := by decide +kernel
theorem dRU_init_86 : decode cRU_init 86 = .ok (.putfield 52, 3) := by decide +kernel
theorem dRU_init_89 : decode cRU_init 89 = .ok (.aload_n 0, 1) := by decide +kernel
theorem dRU_init_90 : decode cRU_init 90 = .ok (.aload_n 3, 1) := by decide +kernel
theorem dRU_init_91 : decode cRU_init 91 = .ok (.putfield 56, 3) := by decide +kernel
theorem dRU_init_94 : decode cRU_init 94 = .ok (.aload_n 0, 1) := by decide +kernel
theorem dRU_init_95 : decode cRU_init 95 = .ok (.new 60, 3) := by decide +kernel
theorem dRU_init_98 : decode cRU_init 98 = .ok (.dup, 1) := by decide +kernel
theorem dRU_init_99 : decode cRU_init 99 = .ok (.aload_n 1, 1) := by decide +kernel
theorem dRU_init_100 : decode cRU_init 100 = .ok (.aload_n 2, 1) := by decide +kernel
theorem dRU_init_101 : decode cRU_init 101 = .ok (.aload_n 0, 1) := by decide +kernel
theorem dRU_init_102 : decode cRU_init 102 = .ok (.getfield 12, 3) := by decide +kernel
theorem dRU_init_105 : decode cRU_init 105 = .ok (.invokespecial 62, 3) := by decide +kernel
theorem dRU_init_108 : decode cRU_init 108 = .ok (.putfield 65, 3) := by decide +kernel
theorem dRU_init_111 : decode cRU_init 111 = .ok (.return_, 1) := by decide +kernel
theorem dRU_isGoingOn_0 : decode cRU_isGoingOn 0 = .ok (.aload_n 0, 1) := by decide +kernel
theorem dRU_isGoingOn_1 : decode cRU_isGoingOn 1 = .ok (.getfield 44, 3) := by decide +kernel
theorem dRU_isGoingOn_4 : decode cRU_isGoingOn 4 = .ok (.iconst 1, 1) := by decide +kernel
theorem dRU_isGoingOn_5 : decode cRU_isGoingOn 5 = .ok (.if_icmp .ne 7, 3) := by decide +kernel
theorem dRU_isGoingOn_8 : decode cRU_isGoingOn 8 = .ok (.iconst 1, 1) := by decide +kernel
theorem dRU_isGoingOn_9 : decode cRU_isGoingOn 9 = .ok (.goto 4, 3) := by decide +kernel
theorem dRU_isGoingOn_12 : decode cRU_isGoingOn 12 = .ok (.iconst 0, 1) := by decide +kernel
theorem dRU_isGoingOn_13 : decode cRU_isGoingOn 13 = .ok (.ireturn, 1) := by decide +kernel
theorem dRU_open_0 : decode cRU_open 0 = .ok (.aload_n 0, 1) := by decide +kernel
theorem dRU_open_1 : decode cRU_open 1 = .ok (.getfield 12, 3) := by decide +kernel
theorem dRU_open_4 : decode cRU_open 4 = .ok (.invokevirtual 69, 3) := by decide +kernel
theorem dRU_open_7 : decode cRU_open 7 = .ok (.aload_n 0, 1) := by decide +kernel
theorem dRU_open_8 : decode cRU_open 8 = .ok (.getfield 23, 3) := by decide +kernel
theorem dRU_open_11 : decode cRU_open 11 = .ok (.invokevirtual 72, 3) := by decide +kernel
theorem dRU_open_14 : decode cRU_open 14 = .ok (.aload_n 0, 1) := by decide +kernel
theorem dRU_open_15 : decode cRU_open 15 = .ok (.getfield 27, 3) := by decide +kernel
theorem dRU_open_18 : decode cRU_open 18 = .ok (.invokevirtual 72, 3) := by decide +kernel
theorem dRU_open_21 : decode cRU_open 21 = .ok (.aload_n 0, 1) := by decide +kernel
theorem dRU_open_22 : decode cRU_open 22 = .ok (.getfield 30, 3) := by decide +kernel
theorem dRU_open_25 : decode cRU_open 25 = .ok (.invokevirtual 72, 3) := by decide +kernel
theorem dRU_open_28 : decode cRU_open 28 = .ok (.aload_n 0, 1) := by decide +kernel
theorem dRU_open_29 : decode cRU_open 29 = .ok (.getfield 36, 3) := by decide +kernel
theorem dRU_open_32 : decode cRU_open 32 = .ok (.iconst 0, 1) := by decide +kernel
theorem dRU_open_33 : decode cRU_open 33 = .ok (.putfield 73, 3) := by decide +kernel
theorem dRU_open_36 : decode cRU_open 36 = .ok (.aload_n 0, 1) := by decide +kernel
theorem dRU_open_37 : decode cRU_open 37 = .ok (.getfield 40, 3) := by decide +kernel
theorem dRU_open_40 : decode cRU_open 40 = .ok (.iconst 0, 1) := by decide +kernel
theorem dRU_open_41 : decode cRU_open 41 = .ok (.invokestatic 76, 3) := by decide +kernel
theorem dRU_open_44 : decode cRU_open 44 = .ok (.aload_n 0, 1) := by decide +kernel
theorem dRU_open_45 : decode cRU_open 45 = .ok (.iconst 0, 1) := by decide +kernel
theorem dRU_open_46 : decode cRU_open 46 = .ok (.putfield 82, 3) := by decide +kernel
theorem dRU_open_49 : decode cRU_open 49 = .ok (.aload_n 0, 1) := by decide +kernel
theorem dRU_open_50 : decode cRU_open 50 = .ok (.iconst 0, 1) := by decide +kernel
theorem dRU_open_51 : decode cRU_open 51 = .ok (.putfield 85, 3) := by decide +kernel
theorem dRU_open_54 : decode cRU_open 54 = .ok (.aload_n 0, 1) := by decide +kernel
theorem dRU_open_55 : decode cRU_open 55 = .ok (.iconst 0, 1) := by decide +kernel
theorem dRU_open_56 : decode cRU_open 56 = .ok (.putfield 88, 3) := by decide +kernel
theorem dRU_open_59 : decode cRU_open 59 = .ok (.aload_n 0, 1) := by decide +kernel
theorem dRU_open_60 : decode cRU_open 60 = .ok (.iconst 1, 1) := by decide +kernel
theorem dRU_open_61 : decode cRU_open 61 = .ok (.putfield 44, 3) := by decide +kernel
theorem dRU_open_64 : decode cRU_open 64 = .ok (.aload_n 0, 1) := by decide +kernel
theorem dRU_open_65 : decode cRU_open 65 = .ok (.aload_n 0, 1) := by decide +kernel
theorem dRU_open_66 : decode cRU_open 66 = .ok (.getfield 48, 3) := by decide +kernel
theorem dRU_open_69 : decode cRU_open 69 = .ok (.iconst 1, 1) := by decide +kernel
theorem dRU_open_70 : decode cRU_open 70 = .ok (.aload_n 0, 1) := by decide +kernel
theorem dRU_open_71 : decode cRU_open 71 = .ok (.getfield 48, 3) := by decide +kernel
theorem dRU_open_74 : decode cRU_open 74 = .ok (.getfield 92, 3) := by decide +kernel
theorem dRU_open_77 : decode cRU_open 77 = .ok (.iconst 0, 1) := by decide +kernel
theorem dRU_open_78 : decode cRU_open 78 = .ok (.iaload, 1) := by decide +kernel
theorem dRU_open_79 : decode cRU_open 79 = .ok (.ishl, 1) := by decide +kernel
theorem dRU_open_80 : decode cRU_open 80 = .ok (.invokevirtual 97, 3) := by decide +kernel
theorem dRU_open_83 : decode cRU_open 83 = .ok (.invokevirtual 101, 3) := by decide +kernel
theorem dRU_open_86 : decode cRU_open 86 = .ok (.aload_n 0, 1) := by decide +kernel
theorem dRU_open_87 : decode cRU_open 87 = .ok (.invokevirtual 104, 3) := by decide +kernel
theorem dRU_open_90 : decode cRU_open 90 = .ok (.return_, 1) := by decide +kernel
theorem dRU_takeExternalEvent_0 : decode cRU_takeExternalEvent 0 = .ok (.aload_n 0, 1) := by decide +kernel
theorem dRU_takeExternalEvent_1 : decode cRU_takeExternalEvent 1 = .ok (.getfield 30, 3) := by decide +kernel
theorem dRU_takeExternalEvent_4 : decode cRU_takeExternalEvent 4 = .ok (.invokevirtual 72, 3) := by decide +kernel
theorem dRU_takeExternalEvent_7 : decode cRU_takeExternalEvent 7 = .ok (.aload_n 0, 1) := by decide +kernel
theorem dRU_takeExternalEvent_8 : decode cRU_takeExternalEvent 8 = .ok (.iconst 0, 1) := by decide +kernel
theorem dRU_takeExternalEvent_9 : decode cRU_takeExternalEvent 9 = .ok (.putfield 85, 3) := by decide +kernel
theorem dRU_takeExternalEvent_12 : decode cRU_takeExternalEvent 12 = .ok (.aload_n 0, 1) := by decide +kernel
theorem dRU_takeExternalEvent_13 : decode cRU_takeExternalEvent 13 = .ok (.getfield 65, 3) := by decide +kernel
theorem dRU_takeExternalEvent_16 : decode cRU_takeExternalEvent 16 = .ok (.aload_n 0, 1) := by decide +kernel
theorem dRU_takeExternalEvent_17 : decode cRU_takeExternalEvent 17 = .ok (.getfield 27, 3) := by decide +kernel
theorem dRU_takeExternalEvent_20 : decode cRU_takeExternalEvent 20 = .ok (.invokevirtual 107, 3) := by decide +kernel
theorem dRU_takeExternalEvent_23 : decode cRU_takeExternalEvent 23 = .ok (.invokevirtual 111, 3) := by decide +kernel
theorem dRU_takeExternalEvent_26 : decode cRU_takeExternalEvent 26 = .ok (.ifCond .eq 7, 3) := by decide +kernel
theorem dRU_takeExternalEvent_29 : decode cRU_takeExternalEvent 29 = .ok (.aload_n 0, 1) := by decide +kernel
theorem dRU_takeExternalEvent_30 : decode cRU_takeExternalEvent 30 = .ok (.invokevirtual 115, 3) := by decide +kernel
theorem dRU_takeExternalEvent_33 : decode cRU_takeExternalEvent 33 = .ok (.return_, 1) := by decide +kernel
theorem dRU_macrostep_0 : decode cRU_macrostep 0 = .ok (.iconst 0, 1) := by decide +kernel
theorem dRU_macrostep_1 : decode cRU_macrostep 1 = .ok (.istore_n 1, 1) := by decide +kernel
theorem dRU_macrostep_2 : decode cRU_macrostep 2 = .ok (.iload_n 1, 1) := by decide +kernel
theorem dRU_macrostep_3 : decode cRU_macrostep 3 = .ok (.bipush 30, 2) := by decide +kernel
theorem dRU_macrostep_5 : decode cRU_macrostep 5 = .ok (.if_icmp .gt 28, 3) := by decide +kernel
theorem dRU_macrostep_8 : decode cRU_macrostep 8 = .ok (.aload_n 0, 1) := by decide +kernel
theorem dRU_macrostep_9 : decode cRU_macrostep 9 = .ok (.invokevirtual 118, 3) := by decide +kernel
theorem dRU_macrostep_12 : decode cRU_macrostep 12 = .ok (.ifCond .eq 10, 3) := by decide +kernel
theorem dRU_macrostep_15 : decode cRU_macrostep 15 = .ok (.aload_n 0, 1) := by decide +kernel
theorem dRU_macrostep_16 : decode cRU_macrostep 16 = .ok (.invokevirtual 122, 3) := by decide +kernel
theorem dRU_macrostep_19 : decode cRU_macrostep 19 = .ok (.ifCond .ne 4, 3) := by decide +kernel
theorem dRU_macrostep_22 : decode cRU_macrostep 22 = .ok (.return_, 1) := by decide +kernel
theorem dRU_macrostep_23 : decode cRU_macrostep 23 = .ok (.aload_n 0, 1) := by decide +kernel
theorem dRU_macrostep_24 : decode cRU_macrostep 24 = .ok (.invokevirtual 115, 3) := by decide +kernel
theorem dRU_macrostep_27 : decode cRU_macrostep 27 = .ok (.iinc 1 1, 3) := by decide +kernel
theorem dRU_macrostep_30 : decode cRU_macrostep 30 = .ok (.goto (-28), 3) := by decide +kernel
theorem dRU_macrostep_33 : decode cRU_macrostep 33 = .ok (.return_, 1) := by decide +kernel
theorem dRU_chooseNext_0 : decode cRU_chooseNext 0 = .ok (.aload_n 0, 1) := by decide +kernel
theorem dRU_chooseNext_1 : decode cRU_chooseNext 1 = .ok (.getfield 65, 3) := by decide +kernel
theorem dRU_chooseNext_4 : decode cRU_chooseNext 4 = .ok (.iconst 0, 1) := by decide +kernel
theorem dRU_chooseNext_5 : decode cRU_chooseNext 5 = .ok (.invokevirtual 111, 3) := by decide +kernel
theorem dRU_chooseNext_8 : decode cRU_chooseNext 8 = .ok (.ifCond .eq 5, 3) := by decide +kernel
theorem dRU_chooseNext_11 : decode cRU_chooseNext 11 = .ok (.iconst 1, 1) := by decide +kernel
theorem dRU_chooseNext_12 : decode cRU_chooseNext 12 = .ok (.ireturn, 1) := by decide +kernel
theorem dRU_chooseNext_13 : decode cRU_chooseNext 13 = .ok (.aload_n 0, 1) := by decide +kernel
theorem dRU_chooseNext_14 : decode cRU_chooseNext 14 = .ok (.getfield 23, 3) := by decide +kernel
theorem dRU_chooseNext_17 : decode cRU_chooseNext 17 = .ok (.getfield 125, 3) := by decide +kernel
theorem dRU_chooseNext_20 : decode cRU_chooseNext 20 = .ok (.istore_n 1, 1) := by decide +kernel
theorem dRU_chooseNext_21 : decode cRU_chooseNext 21 = .ok (.iload_n 1, 1) := by decide +kernel
theorem dRU_chooseNext_22 : decode cRU_chooseNext 22 = .ok (.ifCond .le 28, 3) := by decide +kernel
theorem dRU_chooseNext_25 : decode cRU_chooseNext 25 = .ok (.aload_n 0, 1) := by decide +kernel
theorem dRU_chooseNext_26 : decode cRU_chooseNext 26 = .ok (.getfield 65, 3) := by decide +kernel
theorem dRU_chooseNext_29 : decode cRU_chooseNext 29 = .ok (.aload_n 0, 1) := by decide +kernel
theorem dRU_chooseNext_30 : decode cRU_chooseNext 30 = .ok (.getfield 23, 3) := by decide +kernel
theorem dRU_chooseNext_33 : decode cRU_chooseNext 33 = .ok (.invokevirtual 107, 3) := by decide +kernel
theorem dRU_chooseNext_36 : decode cRU_chooseNext 36 = .ok (.invokevirtual 111, 3) := by decide +kernel
theorem dRU_chooseNext_39 : decode cRU_chooseNext 39 = .ok (.ifCond .eq 5, 3) := by decide +kernel
theorem dRU_chooseNext_42 : decode cRU_chooseNext 42 = .ok (.iconst 1, 1) := by decide +kernel
theorem dRU_chooseNext_43 : decode cRU_chooseNext 43 = .ok (.ireturn, 1) := by decide +kernel
theorem dRU_chooseNext_44 : decode cRU_chooseNext 44 = .ok (.iinc 1 (-1), 3) := by decide +kernel
theorem dRU_chooseNext_47 : decode cRU_chooseNext 47 = .ok (.goto (-26), 3) := by decide +kernel
theorem dRU_chooseNext_50 : decode cRU_chooseNext 50 = .ok (.iconst 0, 1) := by decide +kernel
theorem dRU_chooseNext_51 : decode cRU_chooseNext 51 = .ok (.ireturn, 1) := by decide +kernel
theorem dRU_microstep_0 : decode cRU_microstep 0 = .ok (.aload_n 0, 1) := by decide +kernel
theorem dRU_microstep_1 : decode cRU_microstep 1 = .ok (.getfield 85, 3) := by decide +kernel
theorem dRU_microstep_4 : decode cRU_microstep 4 = .ok (.bipush 30, 2) := by decide +kernel
theorem dRU_microstep_6 : decode cRU_microstep 6 = .ok (.if_icmp .ne 9, 3) := by decide +kernel
theorem dRU_microstep_9 : decode cRU_microstep 9 = .ok (.aload_n 0, 1) := by decide +kernel
theorem dRU_microstep_10 : decode cRU_microstep 10 = .ok (.iconst 3, 1) := by decide +kernel
theorem dRU_microstep_11 : decode cRU_microstep 11 = .ok (.putfield 44, 3) := by decide +kernel
theorem dRU_microstep_14 : decode cRU_microstep 14 = .ok (.return_, 1) := by decide +kernel
theorem dRU_microstep_15 : decode cRU_microstep 15 = .ok (.aload_n 0, 1) := by decide +kernel
theorem dRU_microstep_16 : decode cRU_microstep 16 = .ok (.dup, 1) := by decide +kernel
theorem dRU_microstep_17 : decode cRU_microstep 17 = .ok (.getfield 85, 3) := by decide +kernel
theorem dRU_microstep_20 : decode cRU_microstep 20 = .ok (.iconst 1, 1) := by decide +kernel
theorem dRU_microstep_21 : decode cRU_microstep 21 = .ok (.iadd, 1) := by decide +kernel
theorem dRU_microstep_22 : decode cRU_microstep 22 = .ok (.putfield 85, 3) := by decide +kernel
theorem dRU_microstep_25 : decode cRU_microstep 25 = .ok (.aload_n 0, 1) := by decide +kernel
theorem dRU_microstep_26 : decode cRU_microstep 26 = .ok (.getfield 65, 3) := by decide +kernel
theorem dRU_microstep_29 : decode cRU_microstep 29 = .ok (.invokevirtual 126, 3) := by decide +kernel
theorem dRU_microstep_32 : decode cRU_microstep 32 = .ok (.istore_n 1, 1) := by decide +kernel
theorem dRU_microstep_33 : decode cRU_microstep 33 = .ok (.aload_n 0, 1) := by decide +kernel
theorem dRU_microstep_34 : decode cRU_microstep 34 = .ok (.iload_n 1, 1) := by decide +kernel
theorem dRU_microstep_35 : decode cRU_microstep 35 = .ok (.invokevirtual 129, 3) := by decide +kernel
theorem dRU_microstep_38 : decode cRU_microstep 38 = .ok (.aload_n 0, 1) := by decide +kernel
theorem dRU_microstep_39 : decode cRU_microstep 39 = .ok (.iload_n 1, 1) := by decide +kernel
theorem dRU_microstep_40 : decode cRU_microstep 40 = .ok (.invokevirtual 132, 3) := by decide +kernel
theorem dRU_microstep_43 : decode cRU_microstep 43 = .ok (.aload_n 0, 1) := by decide +kernel
theorem dRU_microstep_44 : decode cRU_microstep 44 = .ok (.invokevirtual 135, 3) := by decide +kernel
theorem dRU_microstep_47 : decode cRU_microstep 47 = .ok (.aload_n 0, 1) := by decide +kernel
theorem dRU_microstep_48 : decode cRU_microstep 48 = .ok (.aload_n 0, 1) := by decide +kernel
theorem dRU_microstep_49 : decode cRU_microstep 49 = .ok (.invokevirtual 138, 3) := by decide +kernel
theorem dRU_microstep_52 : decode cRU_microstep 52 = .ok (.invokevirtual 101, 3) := by decide +kernel
theorem dRU_microstep_55 : decode cRU_microstep 55 = .ok (.aload_n 0, 1) := by decide +kernel
theorem dRU_microstep_56 : decode cRU_microstep 56 = .ok (.invokevirtual 104, 3) := by decide +kernel
theorem dRU_microstep_59 : decode cRU_microstep 59 = .ok (.return_, 1) := by decide +kernel
theorem dRU_finishIfEnded_0 : decode cRU_finishIfEnded 0 = .ok (.aload_n 0, 1) := by decide +kernel
theorem dRU_finishIfEnded_1 : decode cRU_finishIfEnded 1 = .ok (.invokevirtual 118, 3) := by decide +kernel
theorem dRU_finishIfEnded_4 : decode cRU_finishIfEnded 4 = .ok (.ifCond .eq 15, 3) := by decide +kernel
theorem dRU_finishIfEnded_7 : decode cRU_finishIfEnded 7 = .ok (.aload_n 0, 1) := by decide +kernel
theorem dRU_finishIfEnded_8 : decode cRU_finishIfEnded 8 = .ok (.getfield 88, 3) := by decide +kernel
theorem dRU_finishIfEnded_11 : decode cRU_finishIfEnded 11 = .ok (.ifCond .eq 8, 3) := by decide +kernel
theorem dRU_finishIfEnded_14 : decode cRU_finishIfEnded 14 = .ok (.aload_n 0, 1) := by decide +kernel
theorem dRU_finishIfEnded_15 : decode cRU_finishIfEnded 15 = .ok (.iconst 2, 1) := by decide +kernel
theorem dRU_finishIfEnded_16 : decode cRU_finishIfEnded 16 = .ok (.putfield 44, 3) := by decide +kernel
theorem dRU_finishIfEnded_19 : decode cRU_finishIfEnded 19 = .ok (.return_, 1) := by decide +kernel
theorem dRU_rememberBefore_0 : decode cRU_rememberBefore 0 = .ok (.iconst 1, 1) := by decide +kernel
theorem dRU_rememberBefore_1 : decode cRU_rememberBefore 1 = .ok (.istore_n 2, 1) := by decide +kernel
theorem dRU_rememberBefore_2 : decode cRU_rememberBefore 2 = .ok (.iload_n 2, 1) := by decide +kernel
theorem dRU_rememberBefore_3 : decode cRU_rememberBefore 3 = .ok (.aload_n 0, 1) := by decide +kernel
theorem dRU_rememberBefore_4 : decode cRU_rememberBefore 4 = .ok (.getfield 48, 3) := by decide +kernel
theorem dRU_rememberBefore_7 : decode cRU_rememberBefore 7 = .ok (.getfield 141, 3) := by decide +kernel
theorem dRU_rememberBefore_10 : decode cRU_rememberBefore 10 = .ok (.if_icmp .gt 118, 3) := by decide +kernel
theorem dRU_rememberBefore_13 : decode cRU_rememberBefore 13 = .ok (.aload_n 0, 1) := by decide +kernel
theorem dRU_rememberBefore_14 : decode cRU_rememberBefore 14 = .ok (.getfield 48, 3) := by decide +kernel
theorem dRU_rememberBefore_17 : decode cRU_rememberBefore 17 = .ok (.iload_n 2, 1) := by decide +kernel
theorem dRU_rememberBefore_18 : decode cRU_rememberBefore 18 = .ok (.invokevirtual 142, 3) := by decide +kernel
theorem dRU_rememberBefore_21 : decode cRU_rememberBefore 21 = .ok (.ifCond .eq 101, 3) := by decide +kernel
theorem dRU_rememberBefore_24 : decode cRU_rememberBefore 24 = .ok (.aload_n 0, 1) := by decide +kernel
theorem dRU_rememberBefore_25 : decode cRU_rememberBefore 25 = .ok (.getfield 48, 3) := by decide +kernel
theorem dRU_rememberBefore_28 : decode cRU_rememberBefore 28 = .ok (.getfield 145, 3) := by decide +kernel
theorem dRU_rememberBefore_31 : decode cRU_rememberBefore 31 = .ok (.iload_n 2, 1) := by decide +kernel
theorem dRU_rememberBefore_32 : decode cRU_rememberBefore 32 = .ok (.iaload, 1) := by decide +kernel
theorem dRU_rememberBefore_33 : decode cRU_rememberBefore 33 = .ok (.iload_n 1, 1) := by decide +kernel
theorem dRU_rememberBefore_34 : decode cRU_rememberBefore 34 = .ok (.invokestatic 148, 3) := by decide +kernel
theorem dRU_rememberBefore_37 : decode cRU_rememberBefore 37 = .ok (.ifCond .ne 6, 3) := by decide +kernel
theorem dRU_rememberBefore_40 : decode cRU_rememberBefore 40 = .ok (.goto 82, 3) := by decide +kernel
theorem dRU_rememberBefore_43 : decode cRU_rememberBefore 43 = .ok (.aload_n 0, 1) := by decide +kernel
theorem dRU_rememberBefore_44 : decode cRU_rememberBefore 44 = .ok (.getfield 48, 3) := by decide +kernel
theorem dRU_rememberBefore_47 : decode cRU_rememberBefore 47 = .ok (.getfield 145, 3) := by decide +kernel
theorem dRU_rememberBefore_50 : decode cRU_rememberBefore 50 = .ok (.iload_n 2, 1) := by decide +kernel
theorem dRU_rememberBefore_51 : decode cRU_rememberBefore 51 = .ok (.iaload, 1) := by decide +kernel
theorem dRU_rememberBefore_52 : decode cRU_rememberBefore 52 = .ok (.istore_n 3, 1) := by decide +kernel
theorem dRU_rememberBefore_53 : decode cRU_rememberBefore 53 = .ok (.aload_n 0, 1) := by decide +kernel
theorem dRU_rememberBefore_54 : decode cRU_rememberBefore 54 = .ok (.getfield 48, 3) := by decide +kernel
theorem dRU_rememberBefore_57 : decode cRU_rememberBefore 57 = .ok (.getfield 152, 3) := by decide +kernel
theorem dRU_rememberBefore_60 : decode cRU_rememberBefore 60 = .ok (.iload_n 2, 1) := by decide +kernel
theorem dRU_rememberBefore_61 : decode cRU_rememberBefore 61 = .ok (.iaload, 1) := by decide +kernel
theorem dRU_rememberBefore_62 : decode cRU_rememberBefore 62 = .ok (.iconst 4, 1) := by decide +kernel
theorem dRU_rememberBefore_63 : decode cRU_rememberBefore 63 = .ok (.if_icmp .ne 29, 3) := by decide +kernel
theorem dRU_rememberBefore_66 : decode cRU_rememberBefore 66 = .ok (.aload_n 0, 1) := by decide +kernel
theorem dRU_rememberBefore_67 : decode cRU_rememberBefore 67 = .ok (.getfield 40, 3) := by decide +kernel
theorem dRU_rememberBefore_70 : decode cRU_rememberBefore 70 = .ok (.iload_n 2, 1) := by decide +kernel
theorem dRU_rememberBefore_71 : decode cRU_rememberBefore 71 = .ok (.aload_n 0, 1) := by decide +kernel
theorem dRU_rememberBefore_72 : decode cRU_rememberBefore 72 = .ok (.getfield 12, 3) := by decide +kernel
theorem dRU_rememberBefore_75 : decode cRU_rememberBefore 75 = .ok (.getfield 155, 3) := by decide +kernel
theorem dRU_rememberBefore_78 : decode cRU_rememberBefore 78 = .ok (.aload_n 0, 1) := by decide +kernel
theorem dRU_rememberBefore_79 : decode cRU_rememberBefore 79 = .ok (.getfield 48, 3) := by decide +kernel
theorem dRU_rememberBefore_82 : decode cRU_rememberBefore 82 = .ok (.getfield 158, 3) := by decide +kernel
theorem dRU_rememberBefore_85 : decode cRU_rememberBefore 85 = .ok (.iload_n 3, 1) := by decide +kernel
theorem dRU_rememberBefore_86 : decode cRU_rememberBefore 86 = .ok (.iaload, 1) := by decide +kernel
theorem dRU_rememberBefore_87 : decode cRU_rememberBefore 87 = .ok (.iand, 1) := by decide +kernel
theorem dRU_rememberBefore_88 : decode cRU_rememberBefore 88 = .ok (.iastore, 1) := by decide +kernel
theorem dRU_rememberBefore_89 : decode cRU_rememberBefore 89 = .ok (.goto 33, 3) := by decide +kernel
theorem dRU_rememberBefore_92 : decode cRU_rememberBefore 92 = .ok (.aload_n 0, 1) := by decide +kernel
theorem dRU_rememberBefore_93 : decode cRU_rememberBefore 93 = .ok (.getfield 40, 3) := by decide +kernel
theorem dRU_rememberBefore_96 : decode cRU_rememberBefore 96 = .ok (.iload_n 2, 1) := by decide +kernel
theorem dRU_rememberBefore_97 : decode cRU_rememberBefore 97 = .ok (.aload_n 0, 1) := by decide +kernel
theorem dRU_rememberBefore_98 : decode cRU_rememberBefore 98 = .ok (.getfield 48, 3) := by decide +kernel
theorem dRU_rememberBefore_101 : decode cRU_rememberBefore 101 = .ok (.aload_n 0, 1) := by decide +kernel
theorem dRU_rememberBefore_102 : decode cRU_rememberBefore 102 = .ok (.getfield 12, 3) := by decide +kernel
theorem dRU_rememberBefore_105 : decode cRU_rememberBefore 105 = .ok (.getfield 155, 3) := by decide +kernel
theorem dRU_rememberBefore_108 : decode cRU_rememberBefore 108 = .ok (.aload_n 0, 1) := by decide +kernel
theorem dRU_rememberBefore_109 : decode cRU_rememberBefore 109 = .ok (.getfield 48, 3) := by decide +kernel
theorem dRU_rememberBefore_112 : decode cRU_rememberBefore 112 = .ok (.getfield 161, 3) := by decide +kernel
theorem dRU_rememberBefore_115 : decode cRU_rememberBefore 115 = .ok (.iload_n 3, 1) := by decide +kernel
theorem dRU_rememberBefore_116 : decode cRU_rememberBefore 116 = .ok (.iaload, 1) := by decide +kernel
theorem dRU_rememberBefore_117 : decode cRU_rememberBefore 117 = .ok (.iand, 1) := by decide +kernel
theorem dRU_rememberBefore_118 : decode cRU_rememberBefore 118 = .ok (.invokevirtual 164, 3) := by decide +kernel
theorem dRU_rememberBefore_121 : decode cRU_rememberBefore 121 = .ok (.iastore, 1) := by decide +kernel
theorem dRU_rememberBefore_122 : decode cRU_rememberBefore 122 = .ok (.iinc 2 1, 3) := by decide +kernel
theorem dRU_rememberBefore_125 : decode cRU_rememberBefore 125 = .ok (.goto (-123), 3) := by decide +kernel
theorem dRU_rememberBefore_128 : decode cRU_rememberBefore 128 = .ok (.return_, 1) := by decide +kernel
theorem dRU_leave_0 : decode cRU_leave 0 = .ok (.bipush 15, 2) := by decide +kernel
theorem dRU_leave_2 : decode cRU_leave 2 = .ok (.istore_n 2, 1) := by decide +kernel
theorem dRU_leave_3 : decode cRU_leave 3 = .ok (.iload_n 2, 1) := by decide +kernel
theorem dRU_leave_4 : decode cRU_leave 4 = .ok (.iconst 1, 1) := by decide +kernel
theorem dRU_leave_5 : decode cRU_leave 5 = .ok (.if_icmp .lt 60, 3) := by decide +kernel
theorem dRU_leave_8 : decode cRU_leave 8 = .ok (.iload_n 2, 1) := by decide +kernel
theorem dRU_leave_9 : decode cRU_leave 9 = .ok (.iload_n 1, 1) := by decide +kernel
theorem dRU_leave_10 : decode cRU_leave 10 = .ok (.invokestatic 148, 3) := by decide +kernel
theorem dRU_leave_13 : decode cRU_leave 13 = .ok (.ifCond .eq 46, 3) := by decide +kernel
theorem dRU_leave_16 : decode cRU_leave 16 = .ok (.aload_n 0, 1) := by decide +kernel
theorem dRU_leave_17 : decode cRU_leave 17 = .ok (.sipush 2000, 3) := by decide +kernel
theorem dRU_leave_20 : decode cRU_leave 20 = .ok (.iload_n 2, 1) := by decide +kernel
theorem dRU_leave_21 : decode cRU_leave 21 = .ok (.iadd, 1) := by decide +kernel
theorem dRU_leave_22 : decode cRU_leave 22 = .ok (.invokevirtual 167, 3) := by decide +kernel
theorem dRU_leave_25 : decode cRU_leave 25 = .ok (.aload_n 0, 1) := by decide +kernel
theorem dRU_leave_26 : decode cRU_leave 26 = .ok (.sipush 200, 3) := by decide +kernel
theorem dRU_leave_29 : decode cRU_leave 29 = .ok (.iload_n 2, 1) := by decide +kernel
theorem dRU_leave_30 : decode cRU_leave 30 = .ok (.iadd, 1) := by decide +kernel
theorem dRU_leave_31 : decode cRU_leave 31 = .ok (.invokevirtual 170, 3) := by decide +kernel
theorem dRU_leave_34 : decode cRU_leave 34 = .ok (.aload_n 0, 1) := by decide +kernel
theorem dRU_leave_35 : decode cRU_leave 35 = .ok (.invokevirtual 118, 3) := by decide +kernel
theorem dRU_leave_38 : decode cRU_leave 38 = .ok (.ifCond .ne 4, 3) := by decide +kernel
theorem dRU_leave_41 : decode cRU_leave 41 = .ok (.return_, 1) := by decide +kernel
theorem dRU_leave_42 : decode cRU_leave 42 = .ok (.aload_n 0, 1) := by decide +kernel
theorem dRU_leave_43 : decode cRU_leave 43 = .ok (.getfield 12, 3) := by decide +kernel
theorem dRU_leave_46 : decode cRU_leave 46 = .ok (.dup, 1) := by decide +kernel
theorem dRU_leave_47 : decode cRU_leave 47 = .ok (.getfield 155, 3) := by decide +kernel
theorem dRU_leave_50 : decode cRU_leave 50 = .ok (.iconst 1, 1) := by decide +kernel
theorem dRU_leave_51 : decode cRU_leave 51 = .ok (.iload_n 2, 1) := by decide +kernel
theorem dRU_leave_52 : decode cRU_leave 52 = .ok (.ishl, 1) := by decide +kernel
theorem dRU_leave_53 : decode cRU_leave 53 = .ok (.iconst (-1), 1) := by decide +kernel
theorem dRU_leave_54 : decode cRU_leave 54 = .ok (.ixor, 1) := by decide +kernel
theorem dRU_leave_55 : decode cRU_leave 55 = .ok (.iand, 1) := by decide +kernel
theorem dRU_leave_56 : decode cRU_leave 56 = .ok (.putfield 155, 3) := by decide +kernel
theorem dRU_leave_59 : decode cRU_leave 59 = .ok (.iinc 2 (-1), 3) := by decide +kernel
theorem dRU_leave_62 : decode cRU_leave 62 = .ok (.goto (-59), 3) := by decide +kernel
theorem dRU_leave_65 : decode cRU_leave 65 = .ok (.return_, 1) := by decide +kernel
theorem dRU_takeTransitions_0 : decode cRU_takeTransitions 0 = .ok (.iconst 0, 1) := by decide +kernel
theorem dRU_takeTransitions_1 : decode cRU_takeTransitions 1 = .ok (.istore_n 1, 1) := by decide +kernel
theorem dRU_takeTransitions_2 : decode cRU_takeTransitions 2 = .ok (.iload_n 1, 1) := by decide +kernel
theorem dRU_takeTransitions_3 : decode cRU_takeTransitions 3 = .ok (.aload_n 0, 1) := by decide +kernel
theorem dRU_takeTransitions_4 : decode cRU_takeTransitions 4 = .ok (.getfield 65, 3) := by decide +kernel
theorem dRU_takeTransitions_7 : decode cRU_takeTransitions 7 = .ok (.getfield 173, 3) := by decide +kernel
theorem dRU_takeTransitions_10 : decode cRU_takeTransitions 10 = .ok (.if_icmp .ge 39, 3) := by decide +kernel
theorem dRU_takeTransitions_13 : decode cRU_takeTransitions 13 = .ok (.aload_n 0, 1) := by decide +kernel
theorem dRU_takeTransitions_14 : decode cRU_takeTransitions 14 = .ok (.sipush 3000, 3) := by decide +kernel
theorem dRU_takeTransitions_17 : decode cRU_takeTransitions 17 = .ok (.aload_n 0, 1) := by decide +kernel
theorem dRU_takeTransitions_18 : decode cRU_takeTransitions 18 = .ok (.getfield 65, 3) := by decide +kernel
theorem dRU_takeTransitions_21 : decode cRU_takeTransitions 21 = .ok (.getfield 176, 3) := by decide +kernel
theorem dRU_takeTransitions_24 : decode cRU_takeTransitions 24 = .ok (.iload_n 1, 1) := by decide +kernel
theorem dRU_takeTransitions_25 : decode cRU_takeTransitions 25 = .ok (.iaload, 1) := by decide +kernel
theorem dRU_takeTransitions_26 : decode cRU_takeTransitions 26 = .ok (.iadd, 1) := by decide +kernel
theorem dRU_takeTransitions_27 : decode cRU_takeTransitions 27 = .ok (.invokevirtual 167, 3) := by decide +kernel
theorem dRU_takeTransitions_30 : decode cRU_takeTransitions 30 = .ok (.aload_n 0, 1) := by decide +kernel
theorem dRU_takeTransitions_31 : decode cRU_takeTransitions 31 = .ok (.aload_n 0, 1) := by decide +kernel
theorem dRU_takeTransitions_32 : decode cRU_takeTransitions 32 = .ok (.getfield 65, 3) := by decide +kernel
theorem dRU_takeTransitions_35 : decode cRU_takeTransitions 35 = .ok (.getfield 176, 3) := by decide +kernel
theorem dRU_takeTransitions_38 : decode cRU_takeTransitions 38 = .ok (.iload_n 1, 1) := by decide +kernel
theorem dRU_takeTransitions_39 : decode cRU_takeTransitions 39 = .ok (.iaload, 1) := by decide +kernel
theorem dRU_takeTransitions_40 : decode cRU_takeTransitions 40 = .ok (.invokevirtual 170, 3) := by decide +kernel
theorem dRU_takeTransitions_43 : decode cRU_takeTransitions 43 = .ok (.iinc 1 1, 3) := by decide +kernel
theorem dRU_takeTransitions_46 : decode cRU_takeTransitions 46 = .ok (.goto (-44), 3) := by decide +kernel
theorem dRU_takeTransitions_49 : decode cRU_takeTransitions 49 = .ok (.return_, 1) := by decide +kernel
theorem dRU_entrySet_0 : decode cRU_entrySet 0 = .ok (.iconst 0, 1) := by decide +kernel
theorem dRU_entrySet_1 : decode cRU_entrySet 1 = .ok (.istore_n 1, 1) := by decide +kernel
theorem dRU_entrySet_2 : decode cRU_entrySet 2 = .ok (.iconst 0, 1) := by decide +kernel
theorem dRU_entrySet_3 : decode cRU_entrySet 3 = .ok (.istore_n 2, 1) := by decide +kernel
theorem dRU_entrySet_4 : decode cRU_entrySet 4 = .ok (.iload_n 2, 1) := by decide +kernel
theorem dRU_entrySet_5 : decode cRU_entrySet 5 = .ok (.aload_n 0, 1) := by decide +kernel
theorem dRU_entrySet_6 : decode cRU_entrySet 6 = .ok (.getfield 65, 3) := by decide +kernel
theorem dRU_entrySet_9 : decode cRU_entrySet 9 = .ok (.getfield 173, 3) := by decide +kernel
theorem dRU_entrySet_12 : decode cRU_entrySet 12 = .ok (.if_icmp .ge 61, 3) := by decide +kernel
theorem dRU_entrySet_15 : decode cRU_entrySet 15 = .ok (.aload_n 0, 1) := by decide +kernel
theorem dRU_entrySet_16 : decode cRU_entrySet 16 = .ok (.getfield 65, 3) := by decide +kernel
theorem dRU_entrySet_19 : decode cRU_entrySet 19 = .ok (.getfield 176, 3) := by decide +kernel
theorem dRU_entrySet_22 : decode cRU_entrySet 22 = .ok (.iload_n 2, 1) := by decide +kernel
theorem dRU_entrySet_23 : decode cRU_entrySet 23 = .ok (.iaload, 1) := by decide +kernel
theorem dRU_entrySet_24 : decode cRU_entrySet 24 = .ok (.istore_n 3, 1) := by decide +kernel
theorem dRU_entrySet_25 : decode cRU_entrySet 25 = .ok (.aload_n 0, 1) := by decide +kernel
theorem dRU_entrySet_26 : decode cRU_entrySet 26 = .ok (.getfield 52, 3) := by decide +kernel
theorem dRU_entrySet_29 : decode cRU_entrySet 29 = .ok (.getfield 179, 3) := by decide +kernel
theorem dRU_entrySet_32 : decode cRU_entrySet 32 = .ok (.iload_n 3, 1) := by decide +kernel
theorem dRU_entrySet_33 : decode cRU_entrySet 33 = .ok (.iaload, 1) := by decide +kernel
theorem dRU_entrySet_34 : decode cRU_entrySet 34 = .ok (.iconst (-1), 1) := by decide +kernel
theorem dRU_entrySet_35 : decode cRU_entrySet 35 = .ok (.if_icmp .eq 32, 3) := by decide +kernel
theorem dRU_entrySet_38 : decode cRU_entrySet 38 = .ok (.iload_n 1, 1) := by decide +kernel
theorem dRU_entrySet_39 : decode cRU_entrySet 39 = .ok (.aload_n 0, 1) := by decide +kernel
theorem dRU_entrySet_40 : decode cRU_entrySet 40 = .ok (.aload_n 0, 1) := by decide +kernel
theorem dRU_entrySet_41 : decode cRU_entrySet 41 = .ok (.aload_n 0, 1) := by decide +kernel
theorem dRU_entrySet_42 : decode cRU_entrySet 42 = .ok (.getfield 52, 3) := by decide +kernel
theorem dRU_entrySet_45 : decode cRU_entrySet 45 = .ok (.getfield 179, 3) := by decide +kernel
theorem dRU_entrySet_48 : decode cRU_entrySet 48 = .ok (.iload_n 3, 1) := by decide +kernel
theorem dRU_entrySet_49 : decode cRU_entrySet 49 = .ok (.iaload, 1) := by decide +kernel
theorem dRU_entrySet_50 : decode cRU_entrySet 50 = .ok (.invokevirtual 184, 3) := by decide +kernel
theorem dRU_entrySet_53 : decode cRU_entrySet 53 = .ok (.aload_n 0, 1) := by decide +kernel
theorem dRU_entrySet_54 : decode cRU_entrySet 54 = .ok (.getfield 52, 3) := by decide +kernel
theorem dRU_entrySet_57 : decode cRU_entrySet 57 = .ok (.getfield 187, 3) := by decide +kernel
theorem dRU_entrySet_60 : decode cRU_entrySet 60 = .ok (.iload_n 3, 1) := by decide +kernel
theorem dRU_entrySet_61 : decode cRU_entrySet 61 = .ok (.iaload, 1) := by decide +kernel
theorem dRU_entrySet_62 : decode cRU_entrySet 62 = .ok (.invokevirtual 190, 3) := by decide +kernel
theorem dRU_entrySet_65 : decode cRU_entrySet 65 = .ok (.ior, 1) := by decide +kernel
theorem dRU_entrySet_66 : decode cRU_entrySet 66 = .ok (.istore_n 1, 1) := by decide +kernel
theorem dRU_entrySet_67 : decode cRU_entrySet 67 = .ok (.iinc 2 1, 3) := by decide +kernel
theorem dRU_entrySet_70 : decode cRU_entrySet 70 = .ok (.goto (-66), 3) := by decide +kernel
theorem dRU_entrySet_73 : decode cRU_entrySet 73 = .ok (.aload_n 0, 1) := by decide +kernel
theorem dRU_entrySet_74 : decode cRU_entrySet 74 = .ok (.getfield 48, 3) := by decide +kernel
theorem dRU_entrySet_77 : decode cRU_entrySet 77 = .ok (.iload_n 1, 1) := by decide +kernel
theorem dRU_entrySet_78 : decode cRU_entrySet 78 = .ok (.invokevirtual 97, 3) := by decide +kernel
theorem dRU_entrySet_81 : decode cRU_entrySet 81 = .ok (.ireturn, 1) := by decide +kernel
theorem dRU_meantBy_0 : decode cRU_meantBy 0 = .ok (.aload_n 0, 1) := by decide +kernel
theorem dRU_meantBy_1 : decode cRU_meantBy 1 = .ok (.getfield 48, 3) := by decide +kernel
theorem dRU_meantBy_4 : decode cRU_meantBy 4 = .ok (.iload_n 1, 1) := by decide +kernel
theorem dRU_meantBy_5 : decode cRU_meantBy 5 = .ok (.invokevirtual 142, 3) := by decide +kernel
theorem dRU_meantBy_8 : decode cRU_meantBy 8 = .ok (.ifCond .ne 7, 3) := by decide +kernel
theorem dRU_meantBy_11 : decode cRU_meantBy 11 = .ok (.iconst 1, 1) := by decide +kernel
theorem dRU_meantBy_12 : decode cRU_meantBy 12 = .ok (.iload_n 1, 1) := by decide +kernel
theorem dRU_meantBy_13 : decode cRU_meantBy 13 = .ok (.ishl, 1) := by decide +kernel
theorem dRU_meantBy_14 : decode cRU_meantBy 14 = .ok (.ireturn, 1) := by decide +kernel
theorem dRU_meantBy_15 : decode cRU_meantBy 15 = .ok (.aload_n 0, 1) := by decide +kernel
theorem dRU_meantBy_16 : decode cRU_meantBy 16 = .ok (.getfield 40, 3) := by decide +kernel
theorem dRU_meantBy_19 : decode cRU_meantBy 19 = .ok (.iload_n 1, 1) := by decide +kernel
theorem dRU_meantBy_20 : decode cRU_meantBy 20 = .ok (.iaload, 1) := by decide +kernel
theorem dRU_meantBy_21 : decode cRU_meantBy 21 = .ok (.ifCond .eq 10, 3) := by decide +kernel
theorem dRU_meantBy_24 : decode cRU_meantBy 24 = .ok (.aload_n 0, 1) := by decide +kernel
theorem dRU_meantBy_25 : decode cRU_meantBy 25 = .ok (.getfield 40, 3) := by decide +kernel
theorem dRU_meantBy_28 : decode cRU_meantBy 28 = .ok (.iload_n 1, 1) := by decide +kernel
theorem dRU_meantBy_29 : decode cRU_meantBy 29 = .ok (.iaload, 1) := by decide +kernel
theorem dRU_meantBy_30 : decode cRU_meantBy 30 = .ok (.ireturn, 1) := by decide +kernel
theorem dRU_meantBy_31 : decode cRU_meantBy 31 = .ok (.aload_n 0, 1) := by decide +kernel
theorem dRU_meantBy_32 : decode cRU_meantBy 32 = .ok (.getfield 48, 3) := by decide +kernel
theorem dRU_meantBy_35 : decode cRU_meantBy 35 = .ok (.getfield 145, 3) := by decide +kernel
theorem dRU_meantBy_38 : decode cRU_meantBy 38 = .ok (.iload_n 1, 1) := by decide +kernel
theorem dRU_meantBy_39 : decode cRU_meantBy 39 = .ok (.iaload, 1) := by decide +kernel
theorem dRU_meantBy_40 : decode cRU_meantBy 40 = .ok (.istore_n 2, 1) := by decide +kernel
theorem dRU_meantBy_41 : decode cRU_meantBy 41 = .ok (.aload_n 0, 1) := by decide +kernel
theorem dRU_meantBy_42 : decode cRU_meantBy 42 = .ok (.getfield 48, 3) := by decide +kernel
theorem dRU_meantBy_45 : decode cRU_meantBy 45 = .ok (.getfield 152, 3) := by decide +kernel
theorem dRU_meantBy_48 : decode cRU_meantBy 48 = .ok (.iload_n 2, 1) := by decide +kernel
theorem dRU_meantBy_49 : decode cRU_meantBy 49 = .ok (.iaload, 1) := by decide +kernel
theorem dRU_meantBy_50 : decode cRU_meantBy 50 = .ok (.iconst 2, 1) := by decide +kernel
theorem dRU_meantBy_51 : decode cRU_meantBy 51 = .ok (.if_icmp .ne 9, 3) := by decide +kernel
theorem dRU_meantBy_54 : decode cRU_meantBy 54 = .ok (.iconst 1, 1) := by decide +kernel
theorem dRU_meantBy_55 : decode cRU_meantBy 55 = .ok (.iload_n 2, 1) := by decide +kernel
theorem dRU_meantBy_56 : decode cRU_meantBy 56 = .ok (.ishl, 1) := by decide +kernel
theorem dRU_meantBy_57 : decode cRU_meantBy 57 = .ok (.goto 14, 3) := by decide +kernel
theorem dRU_meantBy_60 : decode cRU_meantBy 60 = .ok (.iconst 1, 1) := by decide +kernel
theorem dRU_meantBy_61 : decode cRU_meantBy 61 = .ok (.aload_n 0, 1) := by decide +kernel
theorem dRU_meantBy_62 : decode cRU_meantBy 62 = .ok (.getfield 48, 3) := by decide +kernel
theorem dRU_meantBy_65 : decode cRU_meantBy 65 = .ok (.getfield 92, 3) := by decide +kernel
theorem dRU_meantBy_68 : decode cRU_meantBy 68 = .ok (.iload_n 2, 1) := by decide +kernel
theorem dRU_meantBy_69 : decode cRU_meantBy 69 = .ok (.iaload, 1) := by decide +kernel
theorem dRU_meantBy_70 : decode cRU_meantBy 70 = .ok (.ishl, 1) := by decide +kernel
theorem dRU_meantBy_71 : decode cRU_meantBy 71 = .ok (.ireturn, 1) := by decide +kernel
theorem dRU_withPath_0 : decode cRU_withPath 0 = .ok (.iload_n 1, 1) := by decide +kernel
theorem dRU_withPath_1 : decode cRU_withPath 1 = .ok (.istore_n 3, 1) := by decide +kernel
theorem dRU_withPath_2 : decode cRU_withPath 2 = .ok (.iconst 1, 1) := by decide +kernel
theorem dRU_withPath_3 : decode cRU_withPath 3 = .ok (.istore 4, 2) := by decide +kernel
theorem dRU_withPath_5 : decode cRU_withPath 5 = .ok (.iload 4, 2) := by decide +kernel
theorem dRU_withPath_7 : decode cRU_withPath 7 = .ok (.aload_n 0, 1) := by decide +kernel
theorem dRU_withPath_8 : decode cRU_withPath 8 = .ok (.getfield 48, 3) := by decide +kernel
theorem dRU_withPath_11 : decode cRU_withPath 11 = .ok (.getfield 141, 3) := by decide +kernel
theorem dRU_withPath_14 : decode cRU_withPath 14 = .ok (.if_icmp .gt 41, 3) := by decide +kernel
theorem dRU_withPath_17 : decode cRU_withPath 17 = .ok (.iload 4, 2) := by decide +kernel
theorem dRU_withPath_19 : decode cRU_withPath 19 = .ok (.iload_n 1, 1) := by decide +kernel
theorem dRU_withPath_20 : decode cRU_withPath 20 = .ok (.invokestatic 148, 3) := by decide +kernel
theorem dRU_withPath_23 : decode cRU_withPath 23 = .ok (.ifCond .eq 26, 3) := by decide +kernel
theorem dRU_withPath_26 : decode cRU_withPath 26 = .ok (.iload_n 3, 1) := by decide +kernel
theorem dRU_withPath_27 : decode cRU_withPath 27 = .ok (.aload_n 0, 1) := by decide +kernel
theorem dRU_withPath_28 : decode cRU_withPath 28 = .ok (.getfield 48, 3) := by decide +kernel
theorem dRU_withPath_31 : decode cRU_withPath 31 = .ok (.getfield 194, 3) := by decide +kernel
theorem dRU_withPath_34 : decode cRU_withPath 34 = .ok (.iload 4, 2) := by decide +kernel
theorem dRU_withPath_36 : decode cRU_withPath 36 = .ok (.iaload, 1) := by decide +kernel
theorem dRU_withPath_37 : decode cRU_withPath 37 = .ok (.aload_n 0, 1) := by decide +kernel
theorem dRU_withPath_38 : decode cRU_withPath 38 = .ok (.getfield 48, 3) := by decide +kernel
theorem dRU_withPath_41 : decode cRU_withPath 41 = .ok (.getfield 161, 3) := by decide +kernel
theorem dRU_withPath_44 : decode cRU_withPath 44 = .ok (.iload_n 2, 1) := by decide +kernel
theorem dRU_withPath_45 : decode cRU_withPath 45 = .ok (.iaload, 1) := by decide +kernel
theorem dRU_withPath_46 : decode cRU_withPath 46 = .ok (.iand, 1) := by decide +kernel
theorem dRU_withPath_47 : decode cRU_withPath 47 = .ok (.ior, 1) := by decide +kernel
theorem dRU_withPath_48 : decode cRU_withPath 48 = .ok (.istore_n 3, 1) := by decide +kernel
theorem dRU_withPath_49 : decode cRU_withPath 49 = .ok (.iinc 4 1, 3) := by decide +kernel
theorem dRU_withPath_52 : decode cRU_withPath 52 = .ok (.goto (-47), 3) := by decide +kernel
theorem dRU_withPath_55 : decode cRU_withPath 55 = .ok (.iload_n 3, 1) := by decide +kernel
theorem dRU_withPath_56 : decode cRU_withPath 56 = .ok (.ireturn, 1) := by decide +kernel
theorem dRU_enter_0 : decode cRU_enter 0 = .ok (.iconst 1, 1) := by decide +kernel
theorem dRU_enter_1 : decode cRU_enter 1 = .ok (.istore_n 2, 1) := by decide +kernel
theorem dRU_enter_2 : decode cRU_enter 2 = .ok (.iload_n 2, 1) := by decide +kernel
theorem dRU_enter_3 : decode cRU_enter 3 = .ok (.aload_n 0, 1) := by decide +kernel
theorem dRU_enter_4 : decode cRU_enter 4 = .ok (.getfield 48, 3) := by decide +kernel
theorem dRU_enter_7 : decode cRU_enter 7 = .ok (.getfield 141, 3) := by decide +kernel
theorem dRU_enter_10 : decode cRU_enter 10 = .ok (.if_icmp .gt 75, 3) := by decide +kernel
theorem dRU_enter_13 : decode cRU_enter 13 = .ok (.iload_n 2, 1) := by decide +kernel
theorem dRU_enter_14 : decode cRU_enter 14 = .ok (.iload_n 1, 1) := by decide +kernel
theorem dRU_enter_15 : decode cRU_enter 15 = .ok (.invokestatic 148, 3) := by decide +kernel
theorem dRU_enter_18 : decode cRU_enter 18 = .ok (.ifCond .eq 61, 3) := by decide +kernel
theorem dRU_enter_21 : decode cRU_enter 21 = .ok (.aload_n 0, 1) := by decide +kernel
theorem dRU_enter_22 : decode cRU_enter 22 = .ok (.sipush 1000, 3) := by decide +kernel
theorem dRU_enter_25 : decode cRU_enter 25 = .ok (.iload_n 2, 1) := by decide +kernel
theorem dRU_enter_26 : decode cRU_enter 26 = .ok (.iadd, 1) := by decide +kernel
theorem dRU_enter_27 : decode cRU_enter 27 = .ok (.invokevirtual 167, 3) := by decide +kernel
theorem dRU_enter_30 : decode cRU_enter 30 = .ok (.aload_n 0, 1) := by decide +kernel
theorem dRU_enter_31 : decode cRU_enter 31 = .ok (.invokevirtual 118, 3) := by decide +kernel
theorem dRU_enter_34 : decode cRU_enter 34 = .ok (.ifCond .ne 4, 3) := by decide +kernel
theorem dRU_enter_37 : decode cRU_enter 37 = .ok (.return_, 1) := by decide +kernel
theorem dRU_enter_38 : decode cRU_enter 38 = .ok (.aload_n 0, 1) := by decide +kernel
theorem dRU_enter_39 : decode cRU_enter 39 = .ok (.getfield 12, 3) := by decide +kernel
theorem dRU_enter_42 : decode cRU_enter 42 = .ok (.dup, 1) := by decide +kernel
theorem dRU_enter_43 : decode cRU_enter 43 = .ok (.getfield 155, 3) := by decide +kernel
theorem dRU_enter_46 : decode cRU_enter 46 = .ok (.iconst 1, 1) := by decide +kernel
theorem dRU_enter_47 : decode cRU_enter 47 = .ok (.iload_n 2, 1) := by decide +kernel
theorem dRU_enter_48 : decode cRU_enter 48 = .ok (.ishl, 1) := by decide +kernel
theorem dRU_enter_49 : decode cRU_enter 49 = .ok (.ior, 1) := by decide +kernel
theorem dRU_enter_50 : decode cRU_enter 50 = .ok (.putfield 155, 3) := by decide +kernel
theorem dRU_enter_53 : decode cRU_enter 53 = .ok (.aload_n 0, 1) := by decide +kernel
theorem dRU_enter_54 : decode cRU_enter 54 = .ok (.bipush 100, 2) := by decide +kernel
theorem dRU_enter_56 : decode cRU_enter 56 = .ok (.iload_n 2, 1) := by decide +kernel
theorem dRU_enter_57 : decode cRU_enter 57 = .ok (.iadd, 1) := by decide +kernel
theorem dRU_enter_58 : decode cRU_enter 58 = .ok (.invokevirtual 170, 3) := by decide +kernel
theorem dRU_enter_61 : decode cRU_enter 61 = .ok (.aload_n 0, 1) := by decide +kernel
theorem dRU_enter_62 : decode cRU_enter 62 = .ok (.getfield 48, 3) := by decide +kernel
theorem dRU_enter_65 : decode cRU_enter 65 = .ok (.getfield 152, 3) := by decide +kernel
theorem dRU_enter_68 : decode cRU_enter 68 = .ok (.iload_n 2, 1) := by decide +kernel
theorem dRU_enter_69 : decode cRU_enter 69 = .ok (.iaload, 1) := by decide +kernel
theorem dRU_enter_70 : decode cRU_enter 70 = .ok (.iconst 3, 1) := by decide +kernel
theorem dRU_enter_71 : decode cRU_enter 71 = .ok (.if_icmp .ne 8, 3) := by decide +kernel
theorem dRU_enter_74 : decode cRU_enter 74 = .ok (.aload_n 0, 1) := by decide +kernel
theorem dRU_enter_75 : decode cRU_enter 75 = .ok (.iload_n 2, 1) := by decide +kernel
theorem dRU_enter_76 : decode cRU_enter 76 = .ok (.invokevirtual 197, 3) := by decide +kernel
theorem dRU_enter_79 : decode cRU_enter 79 = .ok (.iinc 2 1, 3) := by decide +kernel
theorem dRU_enter_82 : decode cRU_enter 82 = .ok (.goto (-80), 3) := by decide +kernel
theorem dRU_enter_85 : decode cRU_enter 85 = .ok (.return_, 1) := by decide +kernel
theorem dRU_announceFinal_0 : decode cRU_announceFinal 0 = .ok (.aload_n 0, 1) := by decide +kernel
theorem dRU_announceFinal_1 : decode cRU_announceFinal 1 = .ok (.getfield 48, 3) := by decide +kernel
theorem dRU_announceFinal_4 : decode cRU_announceFinal 4 = .ok (.getfield 145, 3) := by decide +kernel
theorem dRU_announceFinal_7 : decode cRU_announceFinal 7 = .ok (.iload_n 1, 1) := by decide +kernel
theorem dRU_announceFinal_8 : decode cRU_announceFinal 8 = .ok (.iaload, 1) := by decide +kernel
theorem dRU_announceFinal_9 : decode cRU_announceFinal 9 = .ok (.istore_n 2, 1) := by decide +kernel
theorem dRU_announceFinal_10 : decode cRU_announceFinal 10 = .ok (.iload_n 2, 1) := by decide +kernel
theorem dRU_announceFinal_11 : decode cRU_announceFinal 11 = .ok (.ifCond .ne 9, 3) := by decide +kernel
theorem dRU_announceFinal_14 : decode cRU_announceFinal 14 = .ok (.aload_n 0, 1) := by decide +kernel
theorem dRU_announceFinal_15 : decode cRU_announceFinal 15 = .ok (.iconst 1, 1) := by decide +kernel
theorem dRU_announceFinal_16 : decode cRU_announceFinal 16 = .ok (.putfield 88, 3) := by decide +kernel
theorem dRU_announceFinal_19 : decode cRU_announceFinal 19 = .ok (.return_, 1) := by decide +kernel
theorem dRU_announceFinal_20 : decode cRU_announceFinal 20 = .ok (.aload_n 0, 1) := by decide +kernel
theorem dRU_announceFinal_21 : decode cRU_announceFinal 21 = .ok (.bipush 100, 2) := by decide +kernel
theorem dRU_announceFinal_23 : decode cRU_announceFinal 23 = .ok (.iload_n 2, 1) := by decide +kernel
theorem dRU_announceFinal_24 : decode cRU_announceFinal 24 = .ok (.iadd, 1) := by decide +kernel
theorem dRU_announceFinal_25 : decode cRU_announceFinal 25 = .ok (.invokevirtual 200, 3) := by decide +kernel
theorem dRU_announceFinal_28 : decode cRU_announceFinal 28 = .ok (.aload_n 0, 1) := by decide +kernel
theorem dRU_announceFinal_29 : decode cRU_announceFinal 29 = .ok (.getfield 48, 3) := by decide +kernel
theorem dRU_announceFinal_32 : decode cRU_announceFinal 32 = .ok (.getfield 145, 3) := by decide +kernel
theorem dRU_announceFinal_35 : decode cRU_announceFinal 35 = .ok (.iload_n 2, 1) := by decide +kernel
theorem dRU_announceFinal_36 : decode cRU_announceFinal 36 = .ok (.iaload, 1) := by decide +kernel
theorem dRU_announceFinal_37 : decode cRU_announceFinal 37 = .ok (.istore_n 3, 1) := by decide +kernel
theorem dRU_announceFinal_38 : decode cRU_announceFinal 38 = .ok (.aload_n 0, 1) := by decide +kernel
theorem dRU_announceFinal_39 : decode cRU_announceFinal 39 = .ok (.getfield 48, 3) := by decide +kernel
theorem dRU_announceFinal_42 : decode cRU_announceFinal 42 = .ok (.getfield 152, 3) := by decide +kernel
theorem dRU_announceFinal_45 : decode cRU_announceFinal 45 = .ok (.iload_n 3, 1) := by decide +kernel
theorem dRU_announceFinal_46 : decode cRU_announceFinal 46 = .ok (.iaload, 1) := by decide +kernel
theorem dRU_announceFinal_47 : decode cRU_announceFinal 47 = .ok (.iconst 2, 1) := by decide +kernel
theorem dRU_announceFinal_48 : decode cRU_announceFinal 48 = .ok (.if_icmp .ne 19, 3) := by decide +kernel
theorem dRU_announceFinal_51 : decode cRU_announceFinal 51 = .ok (.aload_n 0, 1) := by decide +kernel
theorem dRU_announceFinal_52 : decode cRU_announceFinal 52 = .ok (.iload_n 3, 1) := by decide +kernel
theorem dRU_announceFinal_53 : decode cRU_announceFinal 53 = .ok (.invokevirtual 203, 3) := by decide +kernel
theorem dRU_announceFinal_56 : decode cRU_announceFinal 56 = .ok (.ifCond .eq 11, 3) := by decide +kernel
theorem dRU_announceFinal_59 : decode cRU_announceFinal 59 = .ok (.aload_n 0, 1) := by decide +kernel
theorem dRU_announceFinal_60 : decode cRU_announceFinal 60 = .ok (.bipush 100, 2) := by decide +kernel
theorem dRU_announceFinal_62 : decode cRU_announceFinal 62 = .ok (.iload_n 3, 1) := by decide +kernel
theorem dRU_announceFinal_63 : decode cRU_announceFinal 63 = .ok (.iadd, 1) := by decide +kernel
theorem dRU_announceFinal_64 : decode cRU_announceFinal 64 = .ok (.invokevirtual 200, 3) := by decide +kernel
theorem dRU_announceFinal_67 : decode cRU_announceFinal 67 = .ok (.return_, 1) := by decide +kernel
theorem dRU_allChildrenDone_0 : decode cRU_allChildrenDone 0 = .ok (.iconst 1, 1) := by decide +kernel
theorem dRU_allChildrenDone_1 : decode cRU_allChildrenDone 1 = .ok (.istore_n 2, 1) := by decide +kernel
theorem dRU_allChildrenDone_2 : decode cRU_allChildrenDone 2 = .ok (.iload_n 2, 1) := by decide +kernel
theorem dRU_allChildrenDone_3 : decode cRU_allChildrenDone 3 = .ok (.aload_n 0, 1) := by decide +kernel
theorem dRU_allChildrenDone_4 : decode cRU_allChildrenDone 4 = .ok (.getfield 48, 3) := by decide +kernel
theorem dRU_allChildrenDone_7 : decode cRU_allChildrenDone 7 = .ok (.getfield 141, 3) := by decide +kernel
theorem dRU_allChildrenDone_10 : decode cRU_allChildrenDone 10 = .ok (.if_icmp .gt 35, 3) := by decide +kernel
theorem dRU_allChildrenDone_13 : decode cRU_allChildrenDone 13 = .ok (.iload_n 2, 1) := by decide +kernel
theorem dRU_allChildrenDone_14 : decode cRU_allChildrenDone 14 = .ok (.aload_n 0, 1) := by decide +kernel
theorem dRU_allChildrenDone_15 : decode cRU_allChildrenDone 15 = .ok (.getfield 48, 3) := by decide +kernel
theorem dRU_allChildrenDone_18 : decode cRU_allChildrenDone 18 = .ok (.getfield 158, 3) := by decide +kernel
theorem dRU_allChildrenDone_21 : decode cRU_allChildrenDone 21 = .ok (.iload_n 1, 1) := by decide +kernel
theorem dRU_allChildrenDone_22 : decode cRU_allChildrenDone 22 = .ok (.iaload, 1) := by decide +kernel
theorem dRU_allChildrenDone_23 : decode cRU_allChildrenDone 23 = .ok (.invokestatic 148, 3) := by decide +kernel
theorem dRU_allChildrenDone_26 : decode cRU_allChildrenDone 26 = .ok (.ifCond .eq 13, 3) := by decide +kernel
theorem dRU_allChildrenDone_29 : decode cRU_allChildrenDone 29 = .ok (.aload_n 0, 1) := by decide +kernel
theorem dRU_allChildrenDone_30 : decode cRU_allChildrenDone 30 = .ok (.iload_n 2, 1) := by decide +kernel
theorem dRU_allChildrenDone_31 : decode cRU_allChildrenDone 31 = .ok (.invokevirtual 206, 3) := by decide +kernel
theorem dRU_allChildrenDone_34 : decode cRU_allChildrenDone 34 = .ok (.ifCond .ne 5, 3) := by decide +kernel
theorem dRU_allChildrenDone_37 : decode cRU_allChildrenDone 37 = .ok (.iconst 0, 1) := by decide +kernel
theorem dRU_allChildrenDone_38 : decode cRU_allChildrenDone 38 = .ok (.ireturn, 1) := by decide +kernel
theorem dRU_allChildrenDone_39 : decode cRU_allChildrenDone 39 = .ok (.iinc 2 1, 3) := by decide +kernel
theorem dRU_allChildrenDone_42 : decode cRU_allChildrenDone 42 = .ok (.goto (-40), 3) := by decide +kernel
theorem dRU_allChildrenDone_45 : decode cRU_allChildrenDone 45 = .ok (.iconst 1, 1) := by decide +kernel
theorem dRU_allChildrenDone_46 : decode cRU_allChildrenDone 46 = .ok (.ireturn, 1) := by decide +kernel
theorem dRU_hasActiveFinalChild_0 : decode cRU_hasActiveFinalChild 0 = .ok (.aload_n 0, 1) := by decide +kernel
theorem dRU_hasActiveFinalChild_1 : decode cRU_hasActiveFinalChild 1 = .ok (.getfield 48, 3) := by decide +kernel
theorem dRU_hasActiveFinalChild_4 : decode cRU_hasActiveFinalChild 4 = .ok (.getfield 158, 3) := by decide +kernel
theorem dRU_hasActiveFinalChild_7 : decode cRU_hasActiveFinalChild 7 = .ok (.iload_n 1, 1) := by decide +kernel
theorem dRU_hasActiveFinalChild_8 : decode cRU_hasActiveFinalChild 8 = .ok (.iaload, 1) := by decide +kernel
theorem dRU_hasActiveFinalChild_9 : decode cRU_hasActiveFinalChild 9 = .ok (.aload_n 0, 1) := by decide +kernel
theorem dRU_hasActiveFinalChild_10 : decode cRU_hasActiveFinalChild 10 = .ok (.getfield 12, 3) := by decide +kernel
theorem dRU_hasActiveFinalChild_13 : decode cRU_hasActiveFinalChild 13 = .ok (.getfield 155, 3) := by decide +kernel
theorem dRU_hasActiveFinalChild_16 : decode cRU_hasActiveFinalChild 16 = .ok (.iand, 1) := by decide +kernel
theorem dRU_hasActiveFinalChild_17 : decode cRU_hasActiveFinalChild 17 = .ok (.istore_n 2, 1) := by decide +kernel
theorem dRU_hasActiveFinalChild_18 : decode cRU_hasActiveFinalChild 18 = .ok (.iconst 1, 1) := by decide +kernel
theorem dRU_hasActiveFinalChild_19 : decode cRU_hasActiveFinalChild 19 = .ok (.istore_n 3, 1) := by decide +kernel
theorem dRU_hasActiveFinalChild_20 : decode cRU_hasActiveFinalChild 20 = .ok (.iload_n 3, 1) := by decide +kernel
theorem dRU_hasActiveFinalChild_21 : decode cRU_hasActiveFinalChild 21 = .ok (.aload_n 0, 1) := by decide +kernel
theorem dRU_hasActiveFinalChild_22 : decode cRU_hasActiveFinalChild 22 = .ok (.getfield 48, 3) := by decide +kernel
theorem dRU_hasActiveFinalChild_25 : decode cRU_hasActiveFinalChild 25 = .ok (.getfield 141, 3) := by decide +kernel
theorem dRU_hasActiveFinalChild_28 : decode cRU_hasActiveFinalChild 28 = .ok (.if_icmp .gt 32, 3) := by decide +kernel
theorem dRU_hasActiveFinalChild_31 : decode cRU_hasActiveFinalChild 31 = .ok (.iload_n 3, 1) := by decide +kernel
theorem dRU_hasActiveFinalChild_32 : decode cRU_hasActiveFinalChild 32 = .ok (.iload_n 2, 1) := by decide +kernel
theorem dRU_hasActiveFinalChild_33 : decode cRU_hasActiveFinalChild 33 = .ok (.invokestatic 148, 3) := by decide +kernel
theorem dRU_hasActiveFinalChild_36 : decode cRU_hasActiveFinalChild 36 = .ok (.ifCond .eq 18, 3) := by decide +kernel
theorem dRU_hasActiveFinalChild_39 : decode cRU_hasActiveFinalChild 39 = .ok (.aload_n 0, 1) := by decide +kernel
theorem dRU_hasActiveFinalChild_40 : decode cRU_hasActiveFinalChild 40 = .ok (.getfield 48, 3) := by decide +kernel
theorem dRU_hasActiveFinalChild_43 : decode cRU_hasActiveFinalChild 43 = .ok (.getfield 152, 3) := by decide +kernel
theorem dRU_hasActiveFinalChild_46 : decode cRU_hasActiveFinalChild 46 = .ok (.iload_n 3, 1) := by decide +kernel
theorem dRU_hasActiveFinalChild_47 : decode cRU_hasActiveFinalChild 47 = .ok (.iaload, 1) := by decide +kernel
theorem dRU_hasActiveFinalChild_48 : decode cRU_hasActiveFinalChild 48 = .ok (.iconst 3, 1) := by decide +kernel
theorem dRU_hasActiveFinalChild_49 : decode cRU_hasActiveFinalChild 49 = .ok (.if_icmp .ne 5, 3) := by decide +kernel
theorem dRU_hasActiveFinalChild_52 : decode cRU_hasActiveFinalChild 52 = .ok (.iconst 1, 1) := by decide +kernel
theorem dRU_hasActiveFinalChild_53 : decode cRU_hasActiveFinalChild 53 = .ok (.ireturn, 1) := by decide +kernel
theorem dRU_hasActiveFinalChild_54 : decode cRU_hasActiveFinalChild 54 = .ok (.iinc 3 1, 3) := by decide +kernel
theorem dRU_hasActiveFinalChild_57 : decode cRU_hasActiveFinalChild 57 = .ok (.goto (-37), 3) := by decide +kernel
theorem dRU_hasActiveFinalChild_60 : decode cRU_hasActiveFinalChild 60 = .ok (.iconst 0, 1) := by decide +kernel
theorem dRU_hasActiveFinalChild_61 : decode cRU_hasActiveFinalChild 61 = .ok (.ireturn, 1) := by decide +kernel
theorem dRU_doActions_0 : decode cRU_doActions 0 = .ok (.iconst 0, 1) := by decide +kernel
theorem dRU_doActions_1 : decode cRU_doActions 1 = .ok (.istore_n 2, 1) := by decide +kernel
theorem dRU_doActions_2 : decode cRU_doActions 2 = .ok (.iload_n 2, 1) := by decide +kernel
theorem dRU_doActions_3 : decode cRU_doActions 3 = .ok (.aload_n 0, 1) := by decide +kernel
theorem dRU_doActions_4 : decode cRU_doActions 4 = .ok (.getfield 56, 3) := by decide +kernel
theorem dRU_doActions_7 : decode cRU_doActions 7 = .ok (.getfield 209, 3) := by decide +kernel
theorem dRU_doActions_10 : decode cRU_doActions 10 = .ok (.if_icmp .ge 60, 3) := by decide +kernel
theorem dRU_doActions_13 : decode cRU_doActions 13 = .ok (.aload_n 0, 1) := by decide +kernel
theorem dRU_doActions_14 : decode cRU_doActions 14 = .ok (.invokevirtual 118, 3) := by decide +kernel
theorem dRU_doActions_17 : decode cRU_doActions 17 = .ok (.ifCond .eq 53, 3) := by decide +kernel
theorem dRU_doActions_20 : decode cRU_doActions 20 = .ok (.aload_n 0, 1) := by decide +kernel
theorem dRU_doActions_21 : decode cRU_doActions 21 = .ok (.getfield 56, 3) := by decide +kernel
theorem dRU_doActions_24 : decode cRU_doActions 24 = .ok (.getfield 212, 3) := by decide +kernel
theorem dRU_doActions_27 : decode cRU_doActions 27 = .ok (.iload_n 2, 1) := by decide +kernel
theorem dRU_doActions_28 : decode cRU_doActions 28 = .ok (.iaload, 1) := by decide +kernel
theorem dRU_doActions_29 : decode cRU_doActions 29 = .ok (.iload_n 1, 1) := by decide +kernel
theorem dRU_doActions_30 : decode cRU_doActions 30 = .ok (.if_icmp .ne 34, 3) := by decide +kernel
theorem dRU_doActions_33 : decode cRU_doActions 33 = .ok (.aload_n 0, 1) := by decide +kernel
theorem dRU_doActions_34 : decode cRU_doActions 34 = .ok (.aload_n 0, 1) := by decide +kernel
