theorem dRU_doActions_35 : decode cRU_doActions 35 = .ok (.getfield 56, 3) := by decide +kernel
theorem dRU_doActions_38 : decode cRU_doActions 38 = .ok (.getfield 215, 3) := by decide +kernel
theorem dRU_doActions_41 : decode cRU_doActions 41 = .ok (.iload_n 2, 1) := by decide +kernel
theorem dRU_doActions_42 : decode cRU_doActions 42 = .ok (.iaload, 1) := by decide +kernel
theorem dRU_doActions_43 : decode cRU_doActions 43 = .ok (.aload_n 0, 1) := by decide +kernel
theorem dRU_doActions_44 : decode cRU_doActions 44 = .ok (.getfield 56, 3) := by decide +kernel
theorem dRU_doActions_47 : decode cRU_doActions 47 = .ok (.getfield 218, 3) := by decide +kernel
theorem dRU_doActions_50 : decode cRU_doActions 50 = .ok (.iload_n 2, 1) := by decide +kernel
theorem dRU_doActions_51 : decode cRU_doActions 51 = .ok (.iaload, 1) := by decide +kernel
theorem dRU_doActions_52 : decode cRU_doActions 52 = .ok (.aload_n 0, 1) := by decide +kernel
theorem dRU_doActions_53 : decode cRU_doActions 53 = .ok (.getfield 56, 3) := by decide +kernel
theorem dRU_doActions_56 : decode cRU_doActions 56 = .ok (.getfield 221, 3) := by decide +kernel
theorem dRU_doActions_59 : decode cRU_doActions 59 = .ok (.iload_n 2, 1) := by decide +kernel
theorem dRU_doActions_60 : decode cRU_doActions 60 = .ok (.iaload, 1) := by decide +kernel
theorem dRU_doActions_61 : decode cRU_doActions 61 = .ok (.invokevirtual 224, 3) := by decide +kernel
theorem dRU_doActions_64 : decode cRU_doActions 64 = .ok (.iinc 2 1, 3) := by decide +kernel
theorem dRU_doActions_67 : decode cRU_doActions 67 = .ok (.goto (-65), 3) := by decide +kernel
theorem dRU_doActions_70 : decode cRU_doActions 70 = .ok (.return_, 1) := by decide +kernel
theorem dRU_doAction_0 : decode cRU_doAction 0 = .ok (.iload_n 1, 1) := by decide +kernel
theorem dRU_doAction_1 : decode cRU_doAction 1 = .ok (.tableswitch 71 0 2 #[27, 40, 56], 27) := by decide +kernel
theorem dRU_doAction_28 : decode cRU_doAction 28 = .ok (.aload_n 0, 1) := by decide +kernel
theorem dRU_doAction_29 : decode cRU_doAction 29 = .ok (.getfield 12, 3) := by decide +kernel
theorem dRU_doAction_32 : decode cRU_doAction 32 = .ok (.getfield 228, 3) := by decide +kernel
theorem dRU_doAction_35 : decode cRU_doAction 35 = .ok (.iload_n 2, 1) := by decide +kernel
theorem dRU_doAction_36 : decode cRU_doAction 36 = .ok (.iload_n 3, 1) := by decide +kernel
theorem dRU_doAction_37 : decode cRU_doAction 37 = .ok (.iastore, 1) := by decide +kernel
theorem dRU_doAction_38 : decode cRU_doAction 38 = .ok (.goto 67, 3) := by decide +kernel
theorem dRU_doAction_41 : decode cRU_doAction 41 = .ok (.aload_n 0, 1) := by decide +kernel
theorem dRU_doAction_42 : decode cRU_doAction 42 = .ok (.getfield 12, 3) := by decide +kernel
theorem dRU_doAction_45 : decode cRU_doAction 45 = .ok (.getfield 228, 3) := by decide +kernel
theorem dRU_doAction_48 : decode cRU_doAction 48 = .ok (.iload_n 2, 1) := by decide +kernel
theorem dRU_doAction_49 : decode cRU_doAction 49 = .ok (.dup2, 1) := by decide +kernel
theorem dRU_doAction_50 : decode cRU_doAction 50 = .ok (.iaload, 1) := by decide +kernel
theorem dRU_doAction_51 : decode cRU_doAction 51 = .ok (.iload_n 3, 1) := by decide +kernel
theorem dRU_doAction_52 : decode cRU_doAction 52 = .ok (.iadd, 1) := by decide +kernel
theorem dRU_doAction_53 : decode cRU_doAction 53 = .ok (.iastore, 1) := by decide +kernel
theorem dRU_doAction_54 : decode cRU_doAction 54 = .ok (.goto 51, 3) := by decide +kernel
theorem dRU_doAction_57 : decode cRU_doAction 57 = .ok (.aload_n 0, 1) := by decide +kernel
theorem dRU_doAction_58 : decode cRU_doAction 58 = .ok (.aload_n 0, 1) := by decide +kernel
theorem dRU_doAction_59 : decode cRU_doAction 59 = .ok (.getfield 23, 3) := by decide +kernel
theorem dRU_doAction_62 : decode cRU_doAction 62 = .ok (.iload_n 2, 1) := by decide +kernel
theorem dRU_doAction_63 : decode cRU_doAction 63 = .ok (.invokevirtual 231, 3) := by decide +kernel
theorem dRU_doAction_66 : decode cRU_doAction 66 = .ok (.invokevirtual 234, 3) := by decide +kernel
theorem dRU_doAction_69 : decode cRU_doAction 69 = .ok (.goto 36, 3) := by decide +kernel
theorem dRU_doAction_72 : decode cRU_doAction 72 = .ok (.aload_n 0, 1) := by decide +kernel
theorem dRU_doAction_73 : decode cRU_doAction 73 = .ok (.iload_n 3, 1) := by decide +kernel
theorem dRU_doAction_74 : decode cRU_doAction 74 = .ok (.ifCond .ne 14, 3) := by decide +kernel
theorem dRU_doAction_77 : decode cRU_doAction 77 = .ok (.aload_n 0, 1) := by decide +kernel
theorem dRU_doAction_78 : decode cRU_doAction 78 = .ok (.getfield 27, 3) := by decide +kernel
theorem dRU_doAction_81 : decode cRU_doAction 81 = .ok (.iload_n 2, 1) := by decide +kernel
theorem dRU_doAction_82 : decode cRU_doAction 82 = .ok (.invokevirtual 231, 3) := by decide +kernel
theorem dRU_doAction_85 : decode cRU_doAction 85 = .ok (.goto 17, 3) := by decide +kernel
theorem dRU_doAction_88 : decode cRU_doAction 88 = .ok (.aload_n 0, 1) := by decide +kernel
theorem dRU_doAction_89 : decode cRU_doAction 89 = .ok (.getfield 36, 3) := by decide +kernel
theorem dRU_doAction_92 : decode cRU_doAction 92 = .ok (.iload_n 2, 1) := by decide +kernel
theorem dRU_doAction_93 : decode cRU_doAction 93 = .ok (.aload_n 0, 1) := by decide +kernel
theorem dRU_doAction_94 : decode cRU_doAction 94 = .ok (.getfield 82, 3) := by decide +kernel
theorem dRU_doAction_97 : decode cRU_doAction 97 = .ok (.iload_n 3, 1) := by decide +kernel
theorem dRU_doAction_98 : decode cRU_doAction 98 = .ok (.iadd, 1) := by decide +kernel
theorem dRU_doAction_99 : decode cRU_doAction 99 = .ok (.invokevirtual 238, 3) := by decide +kernel
theorem dRU_doAction_102 : decode cRU_doAction 102 = .ok (.invokevirtual 234, 3) := by decide +kernel
theorem dRU_doAction_105 : decode cRU_doAction 105 = .ok (.return_, 1) := by decide +kernel
theorem dRU_putRecord_0 : decode cRU_putRecord 0 = .ok (.aload_n 0, 1) := by decide +kernel
theorem dRU_putRecord_1 : decode cRU_putRecord 1 = .ok (.invokevirtual 118, 3) := by decide +kernel
theorem dRU_putRecord_4 : decode cRU_putRecord 4 = .ok (.ifCond .eq 15, 3) := by decide +kernel
theorem dRU_putRecord_7 : decode cRU_putRecord 7 = .ok (.aload_n 0, 1) := by decide +kernel
theorem dRU_putRecord_8 : decode cRU_putRecord 8 = .ok (.aload_n 0, 1) := by decide +kernel
theorem dRU_putRecord_9 : decode cRU_putRecord 9 = .ok (.getfield 30, 3) := by decide +kernel
theorem dRU_putRecord_12 : decode cRU_putRecord 12 = .ok (.iload_n 1, 1) := by decide +kernel
theorem dRU_putRecord_13 : decode cRU_putRecord 13 = .ok (.invokevirtual 231, 3) := by decide +kernel
theorem dRU_putRecord_16 : decode cRU_putRecord 16 = .ok (.invokevirtual 234, 3) := by decide +kernel
theorem dRU_putRecord_19 : decode cRU_putRecord 19 = .ok (.return_, 1) := by decide +kernel
theorem dRU_putInternal_0 : decode cRU_putInternal 0 = .ok (.aload_n 0, 1) := by decide +kernel
theorem dRU_putInternal_1 : decode cRU_putInternal 1 = .ok (.invokevirtual 118, 3) := by decide +kernel
theorem dRU_putInternal_4 : decode cRU_putInternal 4 = .ok (.ifCond .eq 15, 3) := by decide +kernel
theorem dRU_putInternal_7 : decode cRU_putInternal 7 = .ok (.aload_n 0, 1) := by decide +kernel
theorem dRU_putInternal_8 : decode cRU_putInternal 8 = .ok (.aload_n 0, 1) := by decide +kernel
theorem dRU_putInternal_9 : decode cRU_putInternal 9 = .ok (.getfield 23, 3) := by decide +kernel
theorem dRU_putInternal_12 : decode cRU_putInternal 12 = .ok (.iload_n 1, 1) := by decide +kernel
theorem dRU_putInternal_13 : decode cRU_putInternal 13 = .ok (.invokevirtual 231, 3) := by decide +kernel
theorem dRU_putInternal_16 : decode cRU_putInternal 16 = .ok (.invokevirtual 234, 3) := by decide +kernel
theorem dRU_putInternal_19 : decode cRU_putInternal 19 = .ok (.return_, 1) := by decide +kernel
theorem dRU_failUnless_0 : decode cRU_failUnless 0 = .ok (.iload_n 1, 1) := by decide +kernel
theorem dRU_failUnless_1 : decode cRU_failUnless 1 = .ok (.ifCond .ne 8, 3) := by decide +kernel
theorem dRU_failUnless_4 : decode cRU_failUnless 4 = .ok (.aload_n 0, 1) := by decide +kernel
theorem dRU_failUnless_5 : decode cRU_failUnless 5 = .ok (.iconst 4, 1) := by decide +kernel
theorem dRU_failUnless_6 : decode cRU_failUnless 6 = .ok (.putfield 44, 3) := by decide +kernel
theorem dRU_failUnless_9 : decode cRU_failUnless 9 = .ok (.return_, 1) := by decide +kernel
theorem dRU_advanceClock_0 : decode cRU_advanceClock 0 = .ok (.aload_n 0, 1) := by decide +kernel
theorem dRU_advanceClock_1 : decode cRU_advanceClock 1 = .ok (.dup, 1) := by decide +kernel
theorem dRU_advanceClock_2 : decode cRU_advanceClock 2 = .ok (.getfield 82, 3) := by decide +kernel
theorem dRU_advanceClock_5 : decode cRU_advanceClock 5 = .ok (.iload_n 1, 1) := by decide +kernel
theorem dRU_advanceClock_6 : decode cRU_advanceClock 6 = .ok (.iadd, 1) := by decide +kernel
theorem dRU_advanceClock_7 : decode cRU_advanceClock 7 = .ok (.putfield 82, 3) := by decide +kernel
theorem dRU_advanceClock_10 : decode cRU_advanceClock 10 = .ok (.aload_n 0, 1) := by decide +kernel
theorem dRU_advanceClock_11 : decode cRU_advanceClock 11 = .ok (.getfield 36, 3) := by decide +kernel
theorem dRU_advanceClock_14 : decode cRU_advanceClock 14 = .ok (.getfield 73, 3) := by decide +kernel
theorem dRU_advanceClock_17 : decode cRU_advanceClock 17 = .ok (.istore_n 2, 1) := by decide +kernel
theorem dRU_advanceClock_18 : decode cRU_advanceClock 18 = .ok (.iload_n 2, 1) := by decide +kernel
theorem dRU_advanceClock_19 : decode cRU_advanceClock 19 = .ok (.ifCond .le 60, 3) := by decide +kernel
theorem dRU_advanceClock_22 : decode cRU_advanceClock 22 = .ok (.aload_n 0, 1) := by decide +kernel
theorem dRU_advanceClock_23 : decode cRU_advanceClock 23 = .ok (.getfield 36, 3) := by decide +kernel
theorem dRU_advanceClock_26 : decode cRU_advanceClock 26 = .ok (.aload_n 0, 1) := by decide +kernel
theorem dRU_advanceClock_27 : decode cRU_advanceClock 27 = .ok (.getfield 82, 3) := by decide +kernel
theorem dRU_advanceClock_30 : decode cRU_advanceClock 30 = .ok (.invokevirtual 240, 3) := by decide +kernel
theorem dRU_advanceClock_33 : decode cRU_advanceClock 33 = .ok (.istore_n 3, 1) := by decide +kernel
theorem dRU_advanceClock_34 : decode cRU_advanceClock 34 = .ok (.iload_n 3, 1) := by decide +kernel
theorem dRU_advanceClock_35 : decode cRU_advanceClock 35 = .ok (.iconst (-1), 1) := by decide +kernel
theorem dRU_advanceClock_36 : decode cRU_advanceClock 36 = .ok (.if_icmp .ne 4, 3) := by decide +kernel
theorem dRU_advanceClock_39 : decode cRU_advanceClock 39 = .ok (.return_, 1) := by decide +kernel
theorem dRU_advanceClock_40 : decode cRU_advanceClock 40 = .ok (.aload_n 0, 1) := by decide +kernel
theorem dRU_advanceClock_41 : decode cRU_advanceClock 41 = .ok (.getfield 27, 3) := by decide +kernel
theorem dRU_advanceClock_44 : decode cRU_advanceClock 44 = .ok (.aload_n 0, 1) := by decide +kernel
theorem dRU_advanceClock_45 : decode cRU_advanceClock 45 = .ok (.getfield 36, 3) := by decide +kernel
theorem dRU_advanceClock_48 : decode cRU_advanceClock 48 = .ok (.getfield 243, 3) := by decide +kernel
theorem dRU_advanceClock_51 : decode cRU_advanceClock 51 = .ok (.iload_n 3, 1) := by decide +kernel
theorem dRU_advanceClock_52 : decode cRU_advanceClock 52 = .ok (.iaload, 1) := by decide +kernel
theorem dRU_advanceClock_53 : decode cRU_advanceClock 53 = .ok (.invokevirtual 231, 3) := by decide +kernel
theorem dRU_advanceClock_56 : decode cRU_advanceClock 56 = .ok (.ifCond .ne 9, 3) := by decide +kernel
theorem dRU_advanceClock_59 : decode cRU_advanceClock 59 = .ok (.aload_n 0, 1) := by decide +kernel
theorem dRU_advanceClock_60 : decode cRU_advanceClock 60 = .ok (.iconst 4, 1) := by decide +kernel
theorem dRU_advanceClock_61 : decode cRU_advanceClock 61 = .ok (.putfield 44, 3) := by decide +kernel
theorem dRU_advanceClock_64 : decode cRU_advanceClock 64 = .ok (.return_, 1) := by decide +kernel
theorem dRU_advanceClock_65 : decode cRU_advanceClock 65 = .ok (.aload_n 0, 1) := by decide +kernel
theorem dRU_advanceClock_66 : decode cRU_advanceClock 66 = .ok (.getfield 36, 3) := by decide +kernel
theorem dRU_advanceClock_69 : decode cRU_advanceClock 69 = .ok (.iload_n 3, 1) := by decide +kernel
theorem dRU_advanceClock_70 : decode cRU_advanceClock 70 = .ok (.invokevirtual 246, 3) := by decide +kernel
theorem dRU_advanceClock_73 : decode cRU_advanceClock 73 = .ok (.iinc 2 (-1), 3) := by decide +kernel
theorem dRU_advanceClock_76 : decode cRU_advanceClock 76 = .ok (.goto (-58), 3) := by decide +kernel
theorem dRU_advanceClock_79 : decode cRU_advanceClock 79 = .ok (.return_, 1) := by decide +kernel
theorem dSE_init_0 : decode cSE_init 0 = .ok (.aload_n 0, 1) := by decide +kernel
theorem dSE_init_1 : decode cSE_init 1 = .ok (.invokespecial 3, 3) := by decide +kernel
theorem dSE_init_4 : decode cSE_init 4 = .ok (.aload_n 0, 1) := by decide +kernel
theorem dSE_init_5 : decode cSE_init 5 = .ok (.bipush 20, 2) := by decide +kernel
theorem dSE_init_7 : decode cSE_init 7 = .ok (.newarray .int, 2) := by decide +kernel
theorem dSE_init_9 : decode cSE_init 9 = .ok (.putfield 9, 3) := by decide +kernel
theorem dSE_init_12 : decode cSE_init 12 = .ok (.aload_n 0, 1) := by decide +kernel
theorem dSE_init_13 : decode cSE_init 13 = .ok (.bipush 20, 2) := by decide +kernel
theorem dSE_init_15 : decode cSE_init 15 = .ok (.newarray .int, 2) := by decide +kernel
theorem dSE_init_17 : decode cSE_init 17 = .ok (.putfield 15, 3) := by decide +kernel
theorem dSE_init_20 : decode cSE_init 20 = .ok (.aload_n 0, 1) := by decide +kernel
theorem dSE_init_21 : decode cSE_init 21 = .ok (.aload_n 1, 1) := by decide +kernel
theorem dSE_init_22 : decode cSE_init 22 = .ok (.putfield 18, 3) := by decide +kernel
theorem dSE_init_25 : decode cSE_init 25 = .ok (.aload_n 0, 1) := by decide +kernel
theorem dSE_init_26 : decode cSE_init 26 = .ok (.aload_n 2, 1) := by decide +kernel
theorem dSE_init_27 : decode cSE_init 27 = .ok (.putfield 22, 3) := by decide +kernel
theorem dSE_init_30 : decode cSE_init 30 = .ok (.aload_n 0, 1) := by decide +kernel
theorem dSE_init_31 : decode cSE_init 31 = .ok (.aload_n 3, 1) := by decide +kernel
theorem dSE_init_32 : decode cSE_init 32 = .ok (.putfield 26, 3) := by decide +kernel
theorem dSE_init_35 : decode cSE_init 35 = .ok (.return_, 1) := by decide +kernel
theorem dSE_chooseFor_0 : decode cSE_chooseFor 0 = .ok (.aload_n 0, 1) := by decide +kernel
theorem dSE_chooseFor_1 : decode cSE_chooseFor 1 = .ok (.iconst 0, 1) := by decide +kernel
theorem dSE_chooseFor_2 : decode cSE_chooseFor 2 = .ok (.putfield 30, 3) := by decide +kernel
theorem dSE_chooseFor_5 : decode cSE_chooseFor 5 = .ok (.aload_n 0, 1) := by decide +kernel
theorem dSE_chooseFor_6 : decode cSE_chooseFor 6 = .ok (.iconst 0, 1) := by decide +kernel
theorem dSE_chooseFor_7 : decode cSE_chooseFor 7 = .ok (.putfield 34, 3) := by decide +kernel
theorem dSE_chooseFor_10 : decode cSE_chooseFor 10 = .ok (.iconst 1, 1) := by decide +kernel
theorem dSE_chooseFor_11 : decode cSE_chooseFor 11 = .ok (.istore_n 2, 1) := by decide +kernel
theorem dSE_chooseFor_12 : decode cSE_chooseFor 12 = .ok (.iload_n 2, 1) := by decide +kernel
theorem dSE_chooseFor_13 : decode cSE_chooseFor 13 = .ok (.aload_n 0, 1) := by decide +kernel
theorem dSE_chooseFor_14 : decode cSE_chooseFor 14 = .ok (.getfield 18, 3) := by decide +kernel
theorem dSE_chooseFor_17 : decode cSE_chooseFor 17 = .ok (.getfield 37, 3) := by decide +kernel
theorem dSE_chooseFor_20 : decode cSE_chooseFor 20 = .ok (.if_icmp .gt 44, 3) := by decide +kernel
theorem dSE_chooseFor_23 : decode cSE_chooseFor 23 = .ok (.iload_n 2, 1) := by decide +kernel
theorem dSE_chooseFor_24 : decode cSE_chooseFor 24 = .ok (.aload_n 0, 1) := by decide +kernel
theorem dSE_chooseFor_25 : decode cSE_chooseFor 25 = .ok (.getfield 26, 3) := by decide +kernel
theorem dSE_chooseFor_28 : decode cSE_chooseFor 28 = .ok (.getfield 42, 3) := by decide +kernel
theorem dSE_chooseFor_31 : decode cSE_chooseFor 31 = .ok (.invokestatic 47, 3) := by decide +kernel
theorem dSE_chooseFor_34 : decode cSE_chooseFor 34 = .ok (.ifCond .eq 24, 3) := by decide +kernel
theorem dSE_chooseFor_37 : decode cSE_chooseFor 37 = .ok (.aload_n 0, 1) := by decide +kernel
theorem dSE_chooseFor_38 : decode cSE_chooseFor 38 = .ok (.getfield 18, 3) := by decide +kernel
theorem dSE_chooseFor_41 : decode cSE_chooseFor 41 = .ok (.iload_n 2, 1) := by decide +kernel
theorem dSE_chooseFor_42 : decode cSE_chooseFor 42 = .ok (.invokevirtual 51, 3) := by decide +kernel
theorem dSE_chooseFor_45 : decode cSE_chooseFor 45 = .ok (.ifCond .eq 13, 3) := by decide +kernel
theorem dSE_chooseFor_48 : decode cSE_chooseFor 48 = .ok (.aload_n 0, 1) := by decide +kernel
theorem dSE_chooseFor_49 : decode cSE_chooseFor 49 = .ok (.aload_n 0, 1) := by decide +kernel
theorem dSE_chooseFor_50 : decode cSE_chooseFor 50 = .ok (.iload_n 2, 1) := by decide +kernel
theorem dSE_chooseFor_51 : decode cSE_chooseFor 51 = .ok (.iload_n 1, 1) := by decide +kernel
theorem dSE_chooseFor_52 : decode cSE_chooseFor 52 = .ok (.invokevirtual 55, 3) := by decide +kernel
theorem dSE_chooseFor_55 : decode cSE_chooseFor 55 = .ok (.invokevirtual 59, 3) := by decide +kernel
theorem dSE_chooseFor_58 : decode cSE_chooseFor 58 = .ok (.iinc 2 1, 3) := by decide +kernel
theorem dSE_chooseFor_61 : decode cSE_chooseFor 61 = .ok (.goto (-49), 3) := by decide +kernel
theorem dSE_chooseFor_64 : decode cSE_chooseFor 64 = .ok (.iconst 0, 1) := by decide +kernel
theorem dSE_chooseFor_65 : decode cSE_chooseFor 65 = .ok (.istore_n 2, 1) := by decide +kernel
theorem dSE_chooseFor_66 : decode cSE_chooseFor 66 = .ok (.iload_n 2, 1) := by decide +kernel
theorem dSE_chooseFor_67 : decode cSE_chooseFor 67 = .ok (.aload_n 0, 1) := by decide +kernel
theorem dSE_chooseFor_68 : decode cSE_chooseFor 68 = .ok (.getfield 30, 3) := by decide +kernel
theorem dSE_chooseFor_71 : decode cSE_chooseFor 71 = .ok (.if_icmp .ge 19, 3) := by decide +kernel
theorem dSE_chooseFor_74 : decode cSE_chooseFor 74 = .ok (.aload_n 0, 1) := by decide +kernel
theorem dSE_chooseFor_75 : decode cSE_chooseFor 75 = .ok (.aload_n 0, 1) := by decide +kernel
theorem dSE_chooseFor_76 : decode cSE_chooseFor 76 = .ok (.getfield 9, 3) := by decide +kernel
theorem dSE_chooseFor_79 : decode cSE_chooseFor 79 = .ok (.iload_n 2, 1) := by decide +kernel
theorem dSE_chooseFor_80 : decode cSE_chooseFor 80 = .ok (.iaload, 1) := by decide +kernel
theorem dSE_chooseFor_81 : decode cSE_chooseFor 81 = .ok (.invokevirtual 63, 3) := by decide +kernel
theorem dSE_chooseFor_84 : decode cSE_chooseFor 84 = .ok (.iinc 2 1, 3) := by decide +kernel
theorem dSE_chooseFor_87 : decode cSE_chooseFor 87 = .ok (.goto (-21), 3) := by decide +kernel
theorem dSE_chooseFor_90 : decode cSE_chooseFor 90 = .ok (.aload_n 0, 1) := by decide +kernel
theorem dSE_chooseFor_91 : decode cSE_chooseFor 91 = .ok (.getfield 34, 3) := by decide +kernel
theorem dSE_chooseFor_94 : decode cSE_chooseFor 94 = .ok (.ifCond .le 7, 3) := by decide +kernel
theorem dSE_chooseFor_97 : decode cSE_chooseFor 97 = .ok (.iconst 1, 1) := by decide +kernel
theorem dSE_chooseFor_98 : decode cSE_chooseFor 98 = .ok (.goto 4, 3) := by decide +kernel
theorem dSE_chooseFor_101 : decode cSE_chooseFor 101 = .ok (.iconst 0, 1) := by decide +kernel
theorem dSE_chooseFor_102 : decode cSE_chooseFor 102 = .ok (.ireturn, 1) := by decide +kernel
theorem dSE_select_0 : decode cSE_select 0 = .ok (.iload_n 1, 1) := by decide +kernel
theorem dSE_select_1 : decode cSE_select 1 = .ok (.iconst (-1), 1) := by decide +kernel
theorem dSE_select_2 : decode cSE_select 2 = .ok (.if_icmp .ne 4, 3) := by decide +kernel
theorem dSE_select_5 : decode cSE_select 5 = .ok (.return_, 1) := by decide +kernel
theorem dSE_select_6 : decode cSE_select 6 = .ok (.iconst 0, 1) := by decide +kernel
theorem dSE_select_7 : decode cSE_select 7 = .ok (.istore_n 2, 1) := by decide +kernel
theorem dSE_select_8 : decode cSE_select 8 = .ok (.iload_n 2, 1) := by decide +kernel
theorem dSE_select_9 : decode cSE_select 9 = .ok (.aload_n 0, 1) := by decide +kernel
theorem dSE_select_10 : decode cSE_select 10 = .ok (.getfield 30, 3) := by decide +kernel
theorem dSE_select_13 : decode cSE_select 13 = .ok (.if_icmp .ge 20, 3) := by decide +kernel
theorem dSE_select_16 : decode cSE_select 16 = .ok (.aload_n 0, 1) := by decide +kernel
theorem dSE_select_17 : decode cSE_select 17 = .ok (.getfield 9, 3) := by decide +kernel
theorem dSE_select_20 : decode cSE_select 20 = .ok (.iload_n 2, 1) := by decide +kernel
theorem dSE_select_21 : decode cSE_select 21 = .ok (.iaload, 1) := by decide +kernel
theorem dSE_select_22 : decode cSE_select 22 = .ok (.iload_n 1, 1) := by decide +kernel
theorem dSE_select_23 : decode cSE_select 23 = .ok (.if_icmp .ne 4, 3) := by decide +kernel
theorem dSE_select_26 : decode cSE_select 26 = .ok (.return_, 1) := by decide +kernel
theorem dSE_select_27 : decode cSE_select 27 = .ok (.iinc 2 1, 3) := by decide +kernel
theorem dSE_select_30 : decode cSE_select 30 = .ok (.goto (-22), 3) := by decide +kernel
theorem dSE_select_33 : decode cSE_select 33 = .ok (.aload_n 0, 1) := by decide +kernel
theorem dSE_select_34 : decode cSE_select 34 = .ok (.getfield 9, 3) := by decide +kernel
theorem dSE_select_37 : decode cSE_select 37 = .ok (.aload_n 0, 1) := by decide +kernel
theorem dSE_select_38 : decode cSE_select 38 = .ok (.getfield 30, 3) := by decide +kernel
theorem dSE_select_41 : decode cSE_select 41 = .ok (.iload_n 1, 1) := by decide +kernel
theorem dSE_select_42 : decode cSE_select 42 = .ok (.iastore, 1) := by decide +kernel
theorem dSE_select_43 : decode cSE_select 43 = .ok (.aload_n 0, 1) := by decide +kernel
theorem dSE_select_44 : decode cSE_select 44 = .ok (.dup, 1) := by decide +kernel
theorem dSE_select_45 : decode cSE_select 45 = .ok (.getfield 30, 3) := by decide +kernel
theorem dSE_select_48 : decode cSE_select 48 = .ok (.iconst 1, 1) := by decide +kernel
theorem dSE_select_49 : decode cSE_select 49 = .ok (.iadd, 1) := by decide +kernel
theorem dSE_select_50 : decode cSE_select 50 = .ok (.putfield 30, 3) := by decide +kernel
theorem dSE_select_53 : decode cSE_select 53 = .ok (.return_, 1) := by decide +kernel
theorem dSE_nearestEnabled_0 : decode cSE_nearestEnabled 0 = .ok (.aload_n 0, 1) := by decide +kernel
theorem dSE_nearestEnabled_1 : decode cSE_nearestEnabled 1 = .ok (.getfield 18, 3) := by decide +kernel
theorem dSE_nearestEnabled_4 : decode cSE_nearestEnabled 4 = .ok (.getfield 66, 3) := by decide +kernel
theorem dSE_nearestEnabled_7 : decode cSE_nearestEnabled 7 = .ok (.iload_n 1, 1) := by decide +kernel
theorem dSE_nearestEnabled_8 : decode cSE_nearestEnabled 8 = .ok (.iaload, 1) := by decide +kernel
theorem dSE_nearestEnabled_9 : decode cSE_nearestEnabled 9 = .ok (.iconst 1, 1) := by decide +kernel
theorem dSE_nearestEnabled_10 : decode cSE_nearestEnabled 10 = .ok (.iload_n 1, 1) := by decide +kernel
theorem dSE_nearestEnabled_11 : decode cSE_nearestEnabled 11 = .ok (.ishl, 1) := by decide +kernel
theorem dSE_nearestEnabled_12 : decode cSE_nearestEnabled 12 = .ok (.ior, 1) := by decide +kernel
theorem dSE_nearestEnabled_13 : decode cSE_nearestEnabled 13 = .ok (.istore_n 3, 1) := by decide +kernel
theorem dSE_nearestEnabled_14 : decode cSE_nearestEnabled 14 = .ok (.iload_n 1, 1) := by decide +kernel
theorem dSE_nearestEnabled_15 : decode cSE_nearestEnabled 15 = .ok (.istore 4, 2) := by decide +kernel
theorem dSE_nearestEnabled_17 : decode cSE_nearestEnabled 17 = .ok (.iload 4, 2) := by decide +kernel
theorem dSE_nearestEnabled_19 : decode cSE_nearestEnabled 19 = .ok (.iconst 1, 1) := by decide +kernel
theorem dSE_nearestEnabled_20 : decode cSE_nearestEnabled 20 = .ok (.if_icmp .lt 40, 3) := by decide +kernel
theorem dSE_nearestEnabled_23 : decode cSE_nearestEnabled 23 = .ok (.iload 4, 2) := by decide +kernel
theorem dSE_nearestEnabled_25 : decode cSE_nearestEnabled 25 = .ok (.iload_n 3, 1) := by decide +kernel
theorem dSE_nearestEnabled_26 : decode cSE_nearestEnabled 26 = .ok (.invokestatic 47, 3) := by decide +kernel
theorem dSE_nearestEnabled_29 : decode cSE_nearestEnabled 29 = .ok (.ifCond .eq 13, 3) := by decide +kernel
theorem dSE_nearestEnabled_32 : decode cSE_nearestEnabled 32 = .ok (.aload_n 0, 1) := by decide +kernel
theorem dSE_nearestEnabled_33 : decode cSE_nearestEnabled 33 = .ok (.iload 4, 2) := by decide +kernel
theorem dSE_nearestEnabled_35 : decode cSE_nearestEnabled 35 = .ok (.iload_n 2, 1) := by decide +kernel
theorem dSE_nearestEnabled_36 : decode cSE_nearestEnabled 36 = .ok (.invokevirtual 69, 3) := by decide +kernel
theorem dSE_nearestEnabled_39 : decode cSE_nearestEnabled 39 = .ok (.goto 4, 3) := by decide +kernel
theorem dSE_nearestEnabled_42 : decode cSE_nearestEnabled 42 = .ok (.iconst (-1), 1) := by decide +kernel
theorem dSE_nearestEnabled_43 : decode cSE_nearestEnabled 43 = .ok (.istore 5, 2) := by decide +kernel
theorem dSE_nearestEnabled_45 : decode cSE_nearestEnabled 45 = .ok (.iload 5, 2) := by decide +kernel
theorem dSE_nearestEnabled_47 : decode cSE_nearestEnabled 47 = .ok (.iconst (-1), 1) := by decide +kernel
theorem dSE_nearestEnabled_48 : decode cSE_nearestEnabled 48 = .ok (.if_icmp .eq 6, 3) := by decide +kernel
theorem dSE_nearestEnabled_51 : decode cSE_nearestEnabled 51 = .ok (.iload 5, 2) := by decide +kernel
theorem dSE_nearestEnabled_53 : decode cSE_nearestEnabled 53 = .ok (.ireturn, 1) := by decide +kernel
theorem dSE_nearestEnabled_54 : decode cSE_nearestEnabled 54 = .ok (.iinc 4 (-1), 3) := by decide +kernel
theorem dSE_nearestEnabled_57 : decode cSE_nearestEnabled 57 = .ok (.goto (-40), 3) := by decide +kernel
theorem dSE_nearestEnabled_60 : decode cSE_nearestEnabled 60 = .ok (.iconst (-1), 1) := by decide +kernel
theorem dSE_nearestEnabled_61 : decode cSE_nearestEnabled 61 = .ok (.ireturn, 1) := by decide +kernel
theorem dSE_leastEnabled_0 : decode cSE_leastEnabled 0 = .ok (.iconst 0, 1) := by decide +kernel
theorem dSE_leastEnabled_1 : decode cSE_leastEnabled 1 = .ok (.istore_n 3, 1) := by decide +kernel
theorem dSE_leastEnabled_2 : decode cSE_leastEnabled 2 = .ok (.iload_n 3, 1) := by decide +kernel
theorem dSE_leastEnabled_3 : decode cSE_leastEnabled 3 = .ok (.aload_n 0, 1) := by decide +kernel
theorem dSE_leastEnabled_4 : decode cSE_leastEnabled 4 = .ok (.getfield 22, 3) := by decide +kernel
theorem dSE_leastEnabled_7 : decode cSE_leastEnabled 7 = .ok (.getfield 72, 3) := by decide +kernel
theorem dSE_leastEnabled_10 : decode cSE_leastEnabled 10 = .ok (.if_icmp .ge 52, 3) := by decide +kernel
theorem dSE_leastEnabled_13 : decode cSE_leastEnabled 13 = .ok (.aload_n 0, 1) := by decide +kernel
theorem dSE_leastEnabled_14 : decode cSE_leastEnabled 14 = .ok (.getfield 22, 3) := by decide +kernel
theorem dSE_leastEnabled_17 : decode cSE_leastEnabled 17 = .ok (.getfield 75, 3) := by decide +kernel
theorem dSE_leastEnabled_20 : decode cSE_leastEnabled 20 = .ok (.iload_n 3, 1) := by decide +kernel
theorem dSE_leastEnabled_21 : decode cSE_leastEnabled 21 = .ok (.iaload, 1) := by decide +kernel
theorem dSE_leastEnabled_22 : decode cSE_leastEnabled 22 = .ok (.iload_n 1, 1) := by decide +kernel
theorem dSE_leastEnabled_23 : decode cSE_leastEnabled 23 = .ok (.if_icmp .ne 33, 3) := by decide +kernel
theorem dSE_leastEnabled_26 : decode cSE_leastEnabled 26 = .ok (.aload_n 0, 1) := by decide +kernel
theorem dSE_leastEnabled_27 : decode cSE_leastEnabled 27 = .ok (.getfield 22, 3) := by decide +kernel
theorem dSE_leastEnabled_30 : decode cSE_leastEnabled 30 = .ok (.getfield 78, 3) := by decide +kernel
theorem dSE_leastEnabled_33 : decode cSE_leastEnabled 33 = .ok (.iload_n 3, 1) := by decide +kernel
theorem dSE_leastEnabled_34 : decode cSE_leastEnabled 34 = .ok (.iaload, 1) := by decide +kernel
theorem dSE_leastEnabled_35 : decode cSE_leastEnabled 35 = .ok (.iload_n 2, 1) := by decide +kernel
theorem dSE_leastEnabled_36 : decode cSE_leastEnabled 36 = .ok (.if_icmp .ne 20, 3) := by decide +kernel
theorem dSE_leastEnabled_39 : decode cSE_leastEnabled 39 = .ok (.aload_n 0, 1) := by decide +kernel
theorem dSE_leastEnabled_40 : decode cSE_leastEnabled 40 = .ok (.getfield 26, 3) := by decide +kernel
theorem dSE_leastEnabled_43 : decode cSE_leastEnabled 43 = .ok (.aload_n 0, 1) := by decide +kernel
theorem dSE_leastEnabled_44 : decode cSE_leastEnabled 44 = .ok (.getfield 22, 3) := by decide +kernel
theorem dSE_leastEnabled_47 : decode cSE_leastEnabled 47 = .ok (.iload_n 3, 1) := by decide +kernel
theorem dSE_leastEnabled_48 : decode cSE_leastEnabled 48 = .ok (.invokevirtual 81, 3) := by decide +kernel
theorem dSE_leastEnabled_51 : decode cSE_leastEnabled 51 = .ok (.ifCond .eq 5, 3) := by decide +kernel
theorem dSE_leastEnabled_54 : decode cSE_leastEnabled 54 = .ok (.iload_n 3, 1) := by decide +kernel
theorem dSE_leastEnabled_55 : decode cSE_leastEnabled 55 = .ok (.ireturn, 1) := by decide +kernel
theorem dSE_leastEnabled_56 : decode cSE_leastEnabled 56 = .ok (.iinc 3 1, 3) := by decide +kernel
theorem dSE_leastEnabled_59 : decode cSE_leastEnabled 59 = .ok (.goto (-57), 3) := by decide +kernel
theorem dSE_leastEnabled_62 : decode cSE_leastEnabled 62 = .ok (.iconst (-1), 1) := by decide +kernel
theorem dSE_leastEnabled_63 : decode cSE_leastEnabled 63 = .ok (.ireturn, 1) := by decide +kernel
theorem dSE_keepIfAllowed_0 : decode cSE_keepIfAllowed 0 = .ok (.iconst 0, 1) := by decide +kernel
theorem dSE_keepIfAllowed_1 : decode cSE_keepIfAllowed 1 = .ok (.istore_n 2, 1) := by decide +kernel
theorem dSE_keepIfAllowed_2 : decode cSE_keepIfAllowed 2 = .ok (.iload_n 2, 1) := by decide +kernel
theorem dSE_keepIfAllowed_3 : decode cSE_keepIfAllowed 3 = .ok (.aload_n 0, 1) := by decide +kernel
theorem dSE_keepIfAllowed_4 : decode cSE_keepIfAllowed 4 = .ok (.getfield 34, 3) := by decide +kernel
theorem dSE_keepIfAllowed_7 : decode cSE_keepIfAllowed 7 = .ok (.if_icmp .ge 38, 3) := by decide +kernel
theorem dSE_keepIfAllowed_10 : decode cSE_keepIfAllowed 10 = .ok (.aload_n 0, 1) := by decide +kernel
theorem dSE_keepIfAllowed_11 : decode cSE_keepIfAllowed 11 = .ok (.iload_n 1, 1) := by decide +kernel
theorem dSE_keepIfAllowed_12 : decode cSE_keepIfAllowed 12 = .ok (.aload_n 0, 1) := by decide +kernel
theorem dSE_keepIfAllowed_13 : decode cSE_keepIfAllowed 13 = .ok (.getfield 15, 3) := by decide +kernel
theorem dSE_keepIfAllowed_16 : decode cSE_keepIfAllowed 16 = .ok (.iload_n 2, 1) := by decide +kernel
theorem dSE_keepIfAllowed_17 : decode cSE_keepIfAllowed 17 = .ok (.iaload, 1) := by decide +kernel
theorem dSE_keepIfAllowed_18 : decode cSE_keepIfAllowed 18 = .ok (.invokevirtual 85, 3) := by decide +kernel
theorem dSE_keepIfAllowed_21 : decode cSE_keepIfAllowed 21 = .ok (.ifCond .eq 18, 3) := by decide +kernel
theorem dSE_keepIfAllowed_24 : decode cSE_keepIfAllowed 24 = .ok (.aload_n 0, 1) := by decide +kernel
theorem dSE_keepIfAllowed_25 : decode cSE_keepIfAllowed 25 = .ok (.iload_n 1, 1) := by decide +kernel
theorem dSE_keepIfAllowed_26 : decode cSE_keepIfAllowed 26 = .ok (.aload_n 0, 1) := by decide +kernel
theorem dSE_keepIfAllowed_27 : decode cSE_keepIfAllowed 27 = .ok (.getfield 15, 3) := by decide +kernel
theorem dSE_keepIfAllowed_30 : decode cSE_keepIfAllowed 30 = .ok (.iload_n 2, 1) := by decide +kernel
theorem dSE_keepIfAllowed_31 : decode cSE_keepIfAllowed 31 = .ok (.iaload, 1) := by decide +kernel
theorem dSE_keepIfAllowed_32 : decode cSE_keepIfAllowed 32 = .ok (.invokevirtual 88, 3) := by decide +kernel
theorem dSE_keepIfAllowed_35 : decode cSE_keepIfAllowed 35 = .ok (.ifCond .ne 4, 3) := by decide +kernel
theorem dSE_keepIfAllowed_38 : decode cSE_keepIfAllowed 38 = .ok (.return_, 1) := by decide +kernel
theorem dSE_keepIfAllowed_39 : decode cSE_keepIfAllowed 39 = .ok (.iinc 2 1, 3) := by decide +kernel
theorem dSE_keepIfAllowed_42 : decode cSE_keepIfAllowed 42 = .ok (.goto (-40), 3) := by decide +kernel
theorem dSE_keepIfAllowed_45 : decode cSE_keepIfAllowed 45 = .ok (.iconst 0, 1) := by decide +kernel
theorem dSE_keepIfAllowed_46 : decode cSE_keepIfAllowed 46 = .ok (.istore_n 2, 1) := by decide +kernel
theorem dSE_keepIfAllowed_47 : decode cSE_keepIfAllowed 47 = .ok (.iconst 0, 1) := by decide +kernel
theorem dSE_keepIfAllowed_48 : decode cSE_keepIfAllowed 48 = .ok (.istore_n 3, 1) := by decide +kernel
theorem dSE_keepIfAllowed_49 : decode cSE_keepIfAllowed 49 = .ok (.iload_n 3, 1) := by decide +kernel
theorem dSE_keepIfAllowed_50 : decode cSE_keepIfAllowed 50 = .ok (.aload_n 0, 1) := by decide +kernel
theorem dSE_keepIfAllowed_51 : decode cSE_keepIfAllowed 51 = .ok (.getfield 34, 3) := by decide +kernel
theorem dSE_keepIfAllowed_54 : decode cSE_keepIfAllowed 54 = .ok (.if_icmp .ge 38, 3) := by decide +kernel
theorem dSE_keepIfAllowed_57 : decode cSE_keepIfAllowed 57 = .ok (.aload_n 0, 1) := by decide +kernel
theorem dSE_keepIfAllowed_58 : decode cSE_keepIfAllowed 58 = .ok (.iload_n 1, 1) := by decide +kernel
theorem dSE_keepIfAllowed_59 : decode cSE_keepIfAllowed 59 = .ok (.aload_n 0, 1) := by decide +kernel
theorem dSE_keepIfAllowed_60 : decode cSE_keepIfAllowed 60 = .ok (.getfield 15, 3) := by decide +kernel
theorem dSE_keepIfAllowed_63 : decode cSE_keepIfAllowed 63 = .ok (.iload_n 3, 1) := by decide +kernel
theorem dSE_keepIfAllowed_64 : decode cSE_keepIfAllowed 64 = .ok (.iaload, 1) := by decide +kernel
theorem dSE_keepIfAllowed_65 : decode cSE_keepIfAllowed 65 = .ok (.invokevirtual 85, 3) := by decide +kernel
theorem dSE_keepIfAllowed_68 : decode cSE_keepIfAllowed 68 = .ok (.ifCond .ne 18, 3) := by decide +kernel
theorem dSE_keepIfAllowed_71 : decode cSE_keepIfAllowed 71 = .ok (.aload_n 0, 1) := by decide +kernel
theorem dSE_keepIfAllowed_72 : decode cSE_keepIfAllowed 72 = .ok (.getfield 15, 3) := by decide +kernel
theorem dSE_keepIfAllowed_75 : decode cSE_keepIfAllowed 75 = .ok (.iload_n 2, 1) := by decide +kernel
theorem dSE_keepIfAllowed_76 : decode cSE_keepIfAllowed 76 = .ok (.aload_n 0, 1) := by decide +kernel
theorem dSE_keepIfAllowed_77 : decode cSE_keepIfAllowed 77 = .ok (.getfield 15, 3) := by decide +kernel
theorem dSE_keepIfAllowed_80 : decode cSE_keepIfAllowed 80 = .ok (.iload_n 3, 1) := by decide +kernel
theorem dSE_keepIfAllowed_81 : decode cSE_keepIfAllowed 81 = .ok (.iaload, 1) := by decide +kernel
theorem dSE_keepIfAllowed_82 : decode cSE_keepIfAllowed 82 = .ok (.iastore, 1) := by decide +kernel
theorem dSE_keepIfAllowed_83 : decode cSE_keepIfAllowed 83 = .ok (.iinc 2 1, 3) := by decide +kernel
theorem dSE_keepIfAllowed_86 : decode cSE_keepIfAllowed 86 = .ok (.iinc 3 1, 3) := by decide +kernel
theorem dSE_keepIfAllowed_89 : decode cSE_keepIfAllowed 89 = .ok (.goto (-40), 3) := by decide +kernel
theorem dSE_keepIfAllowed_92 : decode cSE_keepIfAllowed 92 = .ok (.aload_n 0, 1) := by decide +kernel
theorem dSE_keepIfAllowed_93 : decode cSE_keepIfAllowed 93 = .ok (.getfield 15, 3) := by decide +kernel
theorem dSE_keepIfAllowed_96 : decode cSE_keepIfAllowed 96 = .ok (.iload_n 2, 1) := by decide +kernel
theorem dSE_keepIfAllowed_97 : decode cSE_keepIfAllowed 97 = .ok (.iload_n 1, 1) := by decide +kernel
theorem dSE_keepIfAllowed_98 : decode cSE_keepIfAllowed 98 = .ok (.iastore, 1) := by decide +kernel
theorem dSE_keepIfAllowed_99 : decode cSE_keepIfAllowed 99 = .ok (.aload_n 0, 1) := by decide +kernel
theorem dSE_keepIfAllowed_100 : decode cSE_keepIfAllowed 100 = .ok (.iload_n 2, 1) := by decide +kernel
theorem dSE_keepIfAllowed_101 : decode cSE_keepIfAllowed 101 = .ok (.iconst 1, 1) := by decide +kernel
theorem dSE_keepIfAllowed_102 : decode cSE_keepIfAllowed 102 = .ok (.iadd, 1) := by decide +kernel
theorem dSE_keepIfAllowed_103 : decode cSE_keepIfAllowed 103 = .ok (.putfield 34, 3) := by decide +kernel
theorem dSE_keepIfAllowed_106 : decode cSE_keepIfAllowed 106 = .ok (.return_, 1) := by decide +kernel
theorem dSE_conflict_0 : decode cSE_conflict 0 = .ok (.aload_n 0, 1) := by decide +kernel
theorem dSE_conflict_1 : decode cSE_conflict 1 = .ok (.iload_n 1, 1) := by decide +kernel
theorem dSE_conflict_2 : decode cSE_conflict 2 = .ok (.invokevirtual 91, 3) := by decide +kernel
theorem dSE_conflict_5 : decode cSE_conflict 5 = .ok (.aload_n 0, 1) := by decide +kernel
theorem dSE_conflict_6 : decode cSE_conflict 6 = .ok (.iload_n 2, 1) := by decide +kernel
theorem dSE_conflict_7 : decode cSE_conflict 7 = .ok (.invokevirtual 91, 3) := by decide +kernel
theorem dSE_conflict_10 : decode cSE_conflict 10 = .ok (.iand, 1) := by decide +kernel
theorem dSE_conflict_11 : decode cSE_conflict 11 = .ok (.ifCond .eq 7, 3) := by decide +kernel
theorem dSE_conflict_14 : decode cSE_conflict 14 = .ok (.iconst 1, 1) := by decide +kernel
theorem dSE_conflict_15 : decode cSE_conflict 15 = .ok (.goto 4, 3) := by decide +kernel
theorem dSE_conflict_18 : decode cSE_conflict 18 = .ok (.iconst 0, 1) := by decide +kernel
theorem dSE_conflict_19 : decode cSE_conflict 19 = .ok (.ireturn, 1) := by decide +kernel
theorem dSE_outranks_0 : decode cSE_outranks 0 = .ok (.aload_n 0, 1) := by decide +kernel
theorem dSE_outranks_1 : decode cSE_outranks 1 = .ok (.getfield 22, 3) := by decide +kernel
theorem dSE_outranks_4 : decode cSE_outranks 4 = .ok (.getfield 75, 3) := by decide +kernel
theorem dSE_outranks_7 : decode cSE_outranks 7 = .ok (.iload_n 2, 1) := by decide +kernel
theorem dSE_outranks_8 : decode cSE_outranks 8 = .ok (.iaload, 1) := by decide +kernel
theorem dSE_outranks_9 : decode cSE_outranks 9 = .ok (.aload_n 0, 1) := by decide +kernel
theorem dSE_outranks_10 : decode cSE_outranks 10 = .ok (.getfield 18, 3) := by decide +kernel
theorem dSE_outranks_13 : decode cSE_outranks 13 = .ok (.getfield 66, 3) := by decide +kernel
theorem dSE_outranks_16 : decode cSE_outranks 16 = .ok (.aload_n 0, 1) := by decide +kernel
theorem dSE_outranks_17 : decode cSE_outranks 17 = .ok (.getfield 22, 3) := by decide +kernel
theorem dSE_outranks_20 : decode cSE_outranks 20 = .ok (.getfield 75, 3) := by decide +kernel
theorem dSE_outranks_23 : decode cSE_outranks 23 = .ok (.iload_n 1, 1) := by decide +kernel
theorem dSE_outranks_24 : decode cSE_outranks 24 = .ok (.iaload, 1) := by decide +kernel
theorem dSE_outranks_25 : decode cSE_outranks 25 = .ok (.iaload, 1) := by decide +kernel
theorem dSE_outranks_26 : decode cSE_outranks 26 = .ok (.invokestatic 47, 3) := by decide +kernel
theorem dSE_outranks_29 : decode cSE_outranks 29 = .ok (.ireturn, 1) := by decide +kernel
theorem dSE_exitSet_0 : decode cSE_exitSet 0 = .ok (.aload_n 0, 1) := by decide +kernel
theorem dSE_exitSet_1 : decode cSE_exitSet 1 = .ok (.getfield 22, 3) := by decide +kernel
theorem dSE_exitSet_4 : decode cSE_exitSet 4 = .ok (.getfield 95, 3) := by decide +kernel
theorem dSE_exitSet_7 : decode cSE_exitSet 7 = .ok (.iload_n 1, 1) := by decide +kernel
theorem dSE_exitSet_8 : decode cSE_exitSet 8 = .ok (.iaload, 1) := by decide +kernel
theorem dSE_exitSet_9 : decode cSE_exitSet 9 = .ok (.iconst (-1), 1) := by decide +kernel
theorem dSE_exitSet_10 : decode cSE_exitSet 10 = .ok (.if_icmp .ne 7, 3) := by decide +kernel
theorem dSE_exitSet_13 : decode cSE_exitSet 13 = .ok (.iconst 0, 1) := by decide +kernel
theorem dSE_exitSet_14 : decode cSE_exitSet 14 = .ok (.goto 28, 3) := by decide +kernel
theorem dSE_exitSet_17 : decode cSE_exitSet 17 = .ok (.aload_n 0, 1) := by decide +kernel
theorem dSE_exitSet_18 : decode cSE_exitSet 18 = .ok (.getfield 26, 3) := by decide +kernel
theorem dSE_exitSet_21 : decode cSE_exitSet 21 = .ok (.getfield 42, 3) := by decide +kernel
theorem dSE_exitSet_24 : decode cSE_exitSet 24 = .ok (.aload_n 0, 1) := by decide +kernel
theorem dSE_exitSet_25 : decode cSE_exitSet 25 = .ok (.getfield 18, 3) := by decide +kernel
theorem dSE_exitSet_28 : decode cSE_exitSet 28 = .ok (.getfield 98, 3) := by decide +kernel
theorem dSE_exitSet_31 : decode cSE_exitSet 31 = .ok (.aload_n 0, 1) := by decide +kernel
theorem dSE_exitSet_32 : decode cSE_exitSet 32 = .ok (.getfield 22, 3) := by decide +kernel
theorem dSE_exitSet_35 : decode cSE_exitSet 35 = .ok (.getfield 101, 3) := by decide +kernel
theorem dSE_exitSet_38 : decode cSE_exitSet 38 = .ok (.iload_n 1, 1) := by decide +kernel
theorem dSE_exitSet_39 : decode cSE_exitSet 39 = .ok (.iaload, 1) := by decide +kernel
theorem dSE_exitSet_40 : decode cSE_exitSet 40 = .ok (.iaload, 1) := by decide +kernel
theorem dSE_exitSet_41 : decode cSE_exitSet 41 = .ok (.iand, 1) := by decide +kernel
theorem dSE_exitSet_42 : decode cSE_exitSet 42 = .ok (.ireturn, 1) := by decide +kernel
theorem dSE_allExits_0 : decode cSE_allExits 0 = .ok (.iconst 0, 1) := by decide +kernel
theorem dSE_allExits_1 : decode cSE_allExits 1 = .ok (.istore_n 1, 1) := by decide +kernel
theorem dSE_allExits_2 : decode cSE_allExits 2 = .ok (.iconst 0, 1) := by decide +kernel
theorem dSE_allExits_3 : decode cSE_allExits 3 = .ok (.istore_n 2, 1) := by decide +kernel
theorem dSE_allExits_4 : decode cSE_allExits 4 = .ok (.iload_n 2, 1) := by decide +kernel
theorem dSE_allExits_5 : decode cSE_allExits 5 = .ok (.aload_n 0, 1) := by decide +kernel
theorem dSE_allExits_6 : decode cSE_allExits 6 = .ok (.getfield 34, 3) := by decide +kernel
theorem dSE_allExits_9 : decode cSE_allExits 9 = .ok (.if_icmp .ge 22, 3) := by decide +kernel
theorem dSE_allExits_12 : decode cSE_allExits 12 = .ok (.iload_n 1, 1) := by decide +kernel
theorem dSE_allExits_13 : decode cSE_allExits 13 = .ok (.aload_n 0, 1) := by decide +kernel
theorem dSE_allExits_14 : decode cSE_allExits 14 = .ok (.aload_n 0, 1) := by decide +kernel
theorem dSE_allExits_15 : decode cSE_allExits 15 = .ok (.getfield 15, 3) := by decide +kernel
theorem dSE_allExits_18 : decode cSE_allExits 18 = .ok (.iload_n 2, 1) := by decide +kernel
theorem dSE_allExits_19 : decode cSE_allExits 19 = .ok (.iaload, 1) := by decide +kernel
theorem dSE_allExits_20 : decode cSE_allExits 20 = .ok (.invokevirtual 91, 3) := by decide +kernel
theorem dSE_allExits_23 : decode cSE_allExits 23 = .ok (.ior, 1) := by decide +kernel
theorem dSE_allExits_24 : decode cSE_allExits 24 = .ok (.istore_n 1, 1) := by decide +kernel
theorem dSE_allExits_25 : decode cSE_allExits 25 = .ok (.iinc 2 1, 3) := by decide +kernel
theorem dSE_allExits_28 : decode cSE_allExits 28 = .ok (.goto (-24), 3) := by decide +kernel
theorem dSE_allExits_31 : decode cSE_allExits 31 = .ok (.iload_n 1, 1) := by decide +kernel
theorem dSE_allExits_32 : decode cSE_allExits 32 = .ok (.ireturn, 1) := by decide +kernel
theorem dSV_init_0 : decode cSV_init 0 = .ok (.aload_n 0, 1) := by decide +kernel
theorem dSV_init_1 : decode cSV_init 1 = .ok (.invokespecial 3, 3) := by decide +kernel
theorem dSV_init_4 : decode cSV_init 4 = .ok (.aload_n 0, 1) := by decide +kernel
theorem dSV_init_5 : decode cSV_init 5 = .ok (.bipush 12, 2) := by decide +kernel
theorem dSV_init_7 : decode cSV_init 7 = .ok (.newarray .int, 2) := by decide +kernel
theorem dSV_init_9 : decode cSV_init 9 = .ok (.putfield 9, 3) := by decide +kernel
theorem dSV_init_12 : decode cSV_init 12 = .ok (.aload_n 0, 1) := by decide +kernel
theorem dSV_init_13 : decode cSV_init 13 = .ok (.bipush 12, 2) := by decide +kernel
theorem dSV_init_15 : decode cSV_init 15 = .ok (.newarray .int, 2) := by decide +kernel
theorem dSV_init_17 : decode cSV_init 17 = .ok (.putfield 15, 3) := by decide +kernel
theorem dSV_init_20 : decode cSV_init 20 = .ok (.return_, 1) := by decide +kernel
theorem dSV_put_0 : decode cSV_put 0 = .ok (.aload_n 0, 1) := by decide +kernel
theorem dSV_put_1 : decode cSV_put 1 = .ok (.getfield 18, 3) := by decide +kernel
theorem dSV_put_4 : decode cSV_put 4 = .ok (.bipush 12, 2) := by decide +kernel
theorem dSV_put_6 : decode cSV_put 6 = .ok (.if_icmp .ne 5, 3) := by decide +kernel
theorem dSV_put_9 : decode cSV_put 9 = .ok (.iconst 0, 1) := by decide +kernel
theorem dSV_put_10 : decode cSV_put 10 = .ok (.ireturn, 1) := by decide +kernel
theorem dSV_put_11 : decode cSV_put 11 = .ok (.aload_n 0, 1) := by decide +kernel
theorem dSV_put_12 : decode cSV_put 12 = .ok (.getfield 9, 3) := by decide +kernel
theorem dSV_put_15 : decode cSV_put 15 = .ok (.aload_n 0, 1) := by decide +kernel
theorem dSV_put_16 : decode cSV_put 16 = .ok (.getfield 18, 3) := by decide +kernel
theorem dSV_put_19 : decode cSV_put 19 = .ok (.iload_n 1, 1) := by decide +kernel
theorem dSV_put_20 : decode cSV_put 20 = .ok (.iastore, 1) := by decide +kernel
theorem dSV_put_21 : decode cSV_put 21 = .ok (.aload_n 0, 1) := by decide +kernel
theorem dSV_put_22 : decode cSV_put 22 = .ok (.getfield 15, 3) := by decide +kernel
theorem dSV_put_25 : decode cSV_put 25 = .ok (.aload_n 0, 1) := by decide +kernel
theorem dSV_put_26 : decode cSV_put 26 = .ok (.getfield 18, 3) := by decide +kernel
theorem dSV_put_29 : decode cSV_put 29 = .ok (.iload_n 2, 1) := by decide +kernel
theorem dSV_put_30 : decode cSV_put 30 = .ok (.iastore, 1) := by decide +kernel
theorem dSV_put_31 : decode cSV_put 31 = .ok (.aload_n 0, 1) := by decide +kernel
theorem dSV_put_32 : decode cSV_put 32 = .ok (.dup, 1) := by decide +kernel
theorem dSV_put_33 : decode cSV_put 33 = .ok (.getfield 18, 3) := by decide +kernel
theorem dSV_put_36 : decode cSV_put 36 = .ok (.iconst 1, 1) := by decide +kernel
theorem dSV_put_37 : decode cSV_put 37 = .ok (.iadd, 1) := by decide +kernel
theorem dSV_put_38 : decode cSV_put 38 = .ok (.putfield 18, 3) := by decide +kernel
theorem dSV_put_41 : decode cSV_put 41 = .ok (.iconst 1, 1) := by decide +kernel
theorem dSV_put_42 : decode cSV_put 42 = .ok (.ireturn, 1) := by decide +kernel
theorem dSV_placeOfEarliest_0 : decode cSV_placeOfEarliest 0 = .ok (.iconst (-1), 1) := by decide +kernel
theorem dSV_placeOfEarliest_1 : decode cSV_placeOfEarliest 1 = .ok (.istore_n 2, 1) := by decide +kernel
theorem dSV_placeOfEarliest_2 : decode cSV_placeOfEarliest 2 = .ok (.iconst 0, 1) := by decide +kernel
theorem dSV_placeOfEarliest_3 : decode cSV_placeOfEarliest 3 = .ok (.istore_n 3, 1) := by decide +kernel
theorem dSV_placeOfEarliest_4 : decode cSV_placeOfEarliest 4 = .ok (.iload_n 3, 1) := by decide +kernel
theorem dSV_placeOfEarliest_5 : decode cSV_placeOfEarliest 5 = .ok (.aload_n 0, 1) := by decide +kernel
theorem dSV_placeOfEarliest_6 : decode cSV_placeOfEarliest 6 = .ok (.getfield 18, 3) := by decide +kernel
theorem dSV_placeOfEarliest_9 : decode cSV_placeOfEarliest 9 = .ok (.if_icmp .ge 41, 3) := by decide +kernel
theorem dSV_placeOfEarliest_12 : decode cSV_placeOfEarliest 12 = .ok (.aload_n 0, 1) := by decide +kernel
theorem dSV_placeOfEarliest_13 : decode cSV_placeOfEarliest 13 = .ok (.getfield 15, 3) := by decide +kernel
theorem dSV_placeOfEarliest_16 : decode cSV_placeOfEarliest 16 = .ok (.iload_n 3, 1) := by decide +kernel
theorem dSV_placeOfEarliest_17 : decode cSV_placeOfEarliest 17 = .ok (.iaload, 1) := by decide +kernel
theorem dSV_placeOfEarliest_18 : decode cSV_placeOfEarliest 18 = .ok (.iload_n 1, 1) := by decide +kernel
theorem dSV_placeOfEarliest_19 : decode cSV_placeOfEarliest 19 = .ok (.if_icmp .gt 25, 3) := by decide +kernel
theorem dSV_placeOfEarliest_22 : decode cSV_placeOfEarliest 22 = .ok (.iload_n 2, 1) := by decide +kernel
theorem dSV_placeOfEarliest_23 : decode cSV_placeOfEarliest 23 = .ok (.iconst (-1), 1) := by decide +kernel
theorem dSV_placeOfEarliest_24 : decode cSV_placeOfEarliest 24 = .ok (.if_icmp .eq 18, 3) := by decide +kernel
theorem dSV_placeOfEarliest_27 : decode cSV_placeOfEarliest 27 = .ok (.aload_n 0, 1) := by decide +kernel
theorem dSV_placeOfEarliest_28 : decode cSV_placeOfEarliest 28 = .ok (.getfield 15, 3) := by decide +kernel
theorem dSV_placeOfEarliest_31 : decode cSV_placeOfEarliest 31 = .ok (.iload_n 3, 1) := by decide +kernel
theorem dSV_placeOfEarliest_32 : decode cSV_placeOfEarliest 32 = .ok (.iaload, 1) := by decide +kernel
theorem dSV_placeOfEarliest_33 : decode cSV_placeOfEarliest 33 = .ok (.aload_n 0, 1) := by decide +kernel
theorem dSV_placeOfEarliest_34 : decode cSV_placeOfEarliest 34 = .ok (.getfield 15, 3) := by decide +kernel
theorem dSV_placeOfEarliest_37 : decode cSV_placeOfEarliest 37 = .ok (.iload_n 2, 1) := by decide +kernel
theorem dSV_placeOfEarliest_38 : decode cSV_placeOfEarliest 38 = .ok (.iaload, 1) := by decide +kernel
theorem dSV_placeOfEarliest_39 : decode cSV_placeOfEarliest 39 = .ok (.if_icmp .ge 5, 3) := by decide +kernel
theorem dSV_placeOfEarliest_42 : decode cSV_placeOfEarliest 42 = .ok (.iload_n 3, 1) := by decide +kernel
theorem dSV_placeOfEarliest_43 : decode cSV_placeOfEarliest 43 = .ok (.istore_n 2, 1) := by decide +kernel
theorem dSV_placeOfEarliest_44 : decode cSV_placeOfEarliest 44 = .ok (.iinc 3 1, 3) := by decide +kernel
theorem dSV_placeOfEarliest_47 : decode cSV_placeOfEarliest 47 = .ok (.goto (-43), 3) := by decide +kernel
theorem dSV_placeOfEarliest_50 : decode cSV_placeOfEarliest 50 = .ok (.iload_n 2, 1) := by decide +kernel
theorem dSV_placeOfEarliest_51 : decode cSV_placeOfEarliest 51 = .ok (.ireturn, 1) := by decide +kernel
theorem dSV_drop_0 : decode cSV_drop 0 = .ok (.iload_n 1, 1) := by decide +kernel
theorem dSV_drop_1 : decode cSV_drop 1 = .ok (.ifCond .lt 11, 3) := by decide +kernel
theorem dSV_drop_4 : decode cSV_drop 4 = .ok (.iload_n 1, 1) := by decide +kernel
theorem dSV_drop_5 : decode cSV_drop 5 = .ok (.aload_n 0, 1) := by decide +kernel
theorem dSV_drop_6 : decode cSV_drop 6 = .ok (.getfield 18, 3) := by decide +kernel
theorem dSV_drop_9 : decode cSV_drop 9 = .ok (.if_icmp .lt 4, 3) := by decide +kernel
theorem dSV_drop_12 : decode cSV_drop 12 = .ok (.return_, 1) := by decide +kernel
theorem dSV_drop_13 : decode cSV_drop 13 = .ok (.aload_n 0, 1) := by decide +kernel
theorem dSV_drop_14 : decode cSV_drop 14 = .ok (.dup, 1) := by decide +kernel
theorem dSV_drop_15 : decode cSV_drop 15 = .ok (.getfield 18, 3) := by decide +kernel
theorem dSV_drop_18 : decode cSV_drop 18 = .ok (.iconst 1, 1) := by decide +kernel
theorem dSV_drop_19 : decode cSV_drop 19 = .ok (.isub, 1) := by decide +kernel
theorem dSV_drop_20 : decode cSV_drop 20 = .ok (.putfield 18, 3) := by decide +kernel
theorem dSV_drop_23 : decode cSV_drop 23 = .ok (.iload_n 1, 1) := by decide +kernel
theorem dSV_drop_24 : decode cSV_drop 24 = .ok (.istore_n 2, 1) := by decide +kernel
theorem dSV_drop_25 : decode cSV_drop 25 = .ok (.iload_n 2, 1) := by decide +kernel
theorem dSV_drop_26 : decode cSV_drop 26 = .ok (.aload_n 0, 1) := by decide +kernel
theorem dSV_drop_27 : decode cSV_drop 27 = .ok (.getfield 18, 3) := by decide +kernel
theorem dSV_drop_30 : decode cSV_drop 30 = .ok (.if_icmp .ge 37, 3) := by decide +kernel
theorem dSV_drop_33 : decode cSV_drop 33 = .ok (.aload_n 0, 1) := by decide +kernel
theorem dSV_drop_34 : decode cSV_drop 34 = .ok (.getfield 9, 3) := by decide +kernel
theorem dSV_drop_37 : decode cSV_drop 37 = .ok (.iload_n 2, 1) := by decide +kernel
theorem dSV_drop_38 : decode cSV_drop 38 = .ok (.aload_n 0, 1) := by decide +kernel
theorem dSV_drop_39 : decode cSV_drop 39 = .ok (.getfield 9, 3) := by decide +kernel
theorem dSV_drop_42 : decode cSV_drop 42 = .ok (.iload_n 2, 1) := by decide +kernel
theorem dSV_drop_43 : decode cSV_drop 43 = .ok (.iconst 1, 1) := by decide +kernel
theorem dSV_drop_44 : decode cSV_drop 44 = .ok (.iadd, 1) := by decide +kernel
theorem dSV_drop_45 : decode cSV_drop 45 = .ok (.iaload, 1) := by decide +kernel
theorem dSV_drop_46 : decode cSV_drop 46 = .ok (.iastore, 1) := by decide +kernel
theorem dSV_drop_47 : decode cSV_drop 47 = .ok (.aload_n 0, 1) := by decide +kernel
theorem dSV_drop_48 : decode cSV_drop 48 = .ok (.getfield 15, 3) := by decide +kernel
theorem dSV_drop_51 : decode cSV_drop 51 = .ok (.iload_n 2, 1) := by decide +kernel
theorem dSV_drop_52 : decode cSV_drop 52 = .ok (.aload_n 0, 1) := by decide +kernel
theorem dSV_drop_53 : decode cSV_drop 53 = .ok (.getfield 15, 3) := by decide +kernel
theorem dSV_drop_56 : decode cSV_drop 56 = .ok (.iload_n 2, 1) := by decide +kernel
theorem dSV_drop_57 : decode cSV_drop 57 = .ok (.iconst 1, 1) := by decide +kernel
theorem dSV_drop_58 : decode cSV_drop 58 = .ok (.iadd, 1) := by decide +kernel
theorem dSV_drop_59 : decode cSV_drop 59 = .ok (.iaload, 1) := by decide +kernel
theorem dSV_drop_60 : decode cSV_drop 60 = .ok (.iastore, 1) := by decide +kernel
theorem dSV_drop_61 : decode cSV_drop 61 = .ok (.iinc 2 1, 3) := by decide +kernel
theorem dSV_drop_64 : decode cSV_drop 64 = .ok (.goto (-39), 3) := by decide +kernel
theorem dSV_drop_67 : decode cSV_drop 67 = .ok (.return_, 1) := by decide +kernel
theorem dSI_init_0 : decode cSI_init 0 = .ok (.aload_n 0, 1) := by decide +kernel
theorem dSI_init_1 : decode cSI_init 1 = .ok (.invokespecial 3, 3) := by decide +kernel
theorem dSI_init_4 : decode cSI_init 4 = .ok (.aload_n 0, 1) := by decide +kernel
theorem dSI_init_5 : decode cSI_init 5 = .ok (.iconst 4, 1) := by decide +kernel
theorem dSI_init_6 : decode cSI_init 6 = .ok (.newarray .int, 2) := by decide +kernel
theorem dSI_init_8 : decode cSI_init 8 = .ok (.putfield 9, 3) := by decide +kernel
theorem dSI_init_11 : decode cSI_init 11 = .ok (.return_, 1) := by decide +kernel
theorem dSI_clear_0 : decode cSI_clear 0 = .ok (.aload_n 0, 1) := by decide +kernel
theorem dSI_clear_1 : decode cSI_clear 1 = .ok (.getfield 9, 3) := by decide +kernel
theorem dSI_clear_4 : decode cSI_clear 4 = .ok (.iconst 0, 1) := by decide +kernel
theorem dSI_clear_5 : decode cSI_clear 5 = .ok (.invokestatic 15, 3) := by decide +kernel
theorem dSI_clear_8 : decode cSI_clear 8 = .ok (.aload_n 0, 1) := by decide +kernel
theorem dSI_clear_9 : decode cSI_clear 9 = .ok (.iconst 0, 1) := by decide +kernel
theorem dSI_clear_10 : decode cSI_clear 10 = .ok (.putfield 21, 3) := by decide +kernel
theorem dSI_clear_13 : decode cSI_clear 13 = .ok (.return_, 1) := by decide +kernel
theorem dSI_satisfies_0 : decode cSI_satisfies 0 = .ok (.aload_n 1, 1) := by decide +kernel
theorem dSI_satisfies_1 : decode cSI_satisfies 1 = .ok (.getfield 25, 3) := by decide +kernel
theorem dSI_satisfies_4 : decode cSI_satisfies 4 = .ok (.iload_n 2, 1) := by decide +kernel
theorem dSI_satisfies_5 : decode cSI_satisfies 5 = .ok (.iaload, 1) := by decide +kernel
theorem dSI_satisfies_6 : decode cSI_satisfies 6 = .ok (.istore_n 3, 1) := by decide +kernel
theorem dSI_satisfies_7 : decode cSI_satisfies 7 = .ok (.aload_n 1, 1) := by decide +kernel
theorem dSI_satisfies_8 : decode cSI_satisfies 8 = .ok (.getfield 30, 3) := by decide +kernel
theorem dSI_satisfies_11 : decode cSI_satisfies 11 = .ok (.iload_n 2, 1) := by decide +kernel
theorem dSI_satisfies_12 : decode cSI_satisfies 12 = .ok (.iaload, 1) := by decide +kernel
theorem dSI_satisfies_13 : decode cSI_satisfies 13 = .ok (.tableswitch 103 0 3 #[31, 52, 73, 94], 31) := by decide +kernel
theorem dSI_satisfies_44 : decode cSI_satisfies 44 = .ok (.aload_n 0, 1) := by decide +kernel
theorem dSI_satisfies_45 : decode cSI_satisfies 45 = .ok (.getfield 9, 3) := by decide +kernel
theorem dSI_satisfies_48 : decode cSI_satisfies 48 = .ok (.aload_n 1, 1) := by decide +kernel
theorem dSI_satisfies_49 : decode cSI_satisfies 49 = .ok (.getfield 33, 3) := by decide +kernel
theorem dSI_satisfies_52 : decode cSI_satisfies 52 = .ok (.iload_n 2, 1) := by decide +kernel
theorem dSI_satisfies_53 : decode cSI_satisfies 53 = .ok (.iaload, 1) := by decide +kernel
theorem dSI_satisfies_54 : decode cSI_satisfies 54 = .ok (.iaload, 1) := by decide +kernel
theorem dSI_satisfies_55 : decode cSI_satisfies 55 = .ok (.iload_n 3, 1) := by decide +kernel
theorem dSI_satisfies_56 : decode cSI_satisfies 56 = .ok (.if_icmp .ge 7, 3) := by decide +kernel
theorem dSI_satisfies_59 : decode cSI_satisfies 59 = .ok (.iconst 1, 1) := by decide +kernel
theorem dSI_satisfies_60 : decode cSI_satisfies 60 = .ok (.goto 4, 3) := by decide +kernel
theorem dSI_satisfies_63 : decode cSI_satisfies 63 = .ok (.iconst 0, 1) := by decide +kernel
theorem dSI_satisfies_64 : decode cSI_satisfies 64 = .ok (.ireturn, 1) := by decide +kernel
theorem dSI_satisfies_65 : decode cSI_satisfies 65 = .ok (.aload_n 0, 1) := by decide +kernel
theorem dSI_satisfies_66 : decode cSI_satisfies 66 = .ok (.getfield 9, 3) := by decide +kernel
theorem dSI_satisfies_69 : decode cSI_satisfies 69 = .ok (.aload_n 1, 1) := by decide +kernel
theorem dSI_satisfies_70 : decode cSI_satisfies 70 = .ok (.getfield 33, 3) := by decide +kernel
theorem dSI_satisfies_73 : decode cSI_satisfies 73 = .ok (.iload_n 2, 1) := by decide +kernel
theorem dSI_satisfies_74 : decode cSI_satisfies 74 = .ok (.iaload, 1) := by decide +kernel
theorem dSI_satisfies_75 : decode cSI_satisfies 75 = .ok (.iaload, 1) := by decide +kernel
theorem dSI_satisfies_76 : decode cSI_satisfies 76 = .ok (.iload_n 3, 1) := by decide +kernel
theorem dSI_satisfies_77 : decode cSI_satisfies 77 = .ok (.if_icmp .ne 7, 3) := by decide +kernel
theorem dSI_satisfies_80 : decode cSI_satisfies 80 = .ok (.iconst 1, 1) := by decide +kernel
theorem dSI_satisfies_81 : decode cSI_satisfies 81 = .ok (.goto 4, 3) := by decide +kernel
theorem dSI_satisfies_84 : decode cSI_satisfies 84 = .ok (.iconst 0, 1) := by decide +kernel
theorem dSI_satisfies_85 : decode cSI_satisfies 85 = .ok (.ireturn, 1) := by decide +kernel
theorem dSI_satisfies_86 : decode cSI_satisfies 86 = .ok (.aload_n 0, 1) := by decide +kernel
theorem dSI_satisfies_87 : decode cSI_satisfies 87 = .ok (.getfield 9, 3) := by decide +kernel
theorem dSI_satisfies_90 : decode cSI_satisfies 90 = .ok (.aload_n 1, 1) := by decide +kernel
theorem dSI_satisfies_91 : decode cSI_satisfies 91 = .ok (.getfield 33, 3) := by decide +kernel
theorem dSI_satisfies_94 : decode cSI_satisfies 94 = .ok (.iload_n 2, 1) := by decide +kernel
theorem dSI_satisfies_95 : decode cSI_satisfies 95 = .ok (.iaload, 1) := by decide +kernel
theorem dSI_satisfies_96 : decode cSI_satisfies 96 = .ok (.iaload, 1) := by decide +kernel
theorem dSI_satisfies_97 : decode cSI_satisfies 97 = .ok (.iload_n 3, 1) := by decide +kernel
theorem dSI_satisfies_98 : decode cSI_satisfies 98 = .ok (.if_icmp .le 7, 3) := by decide +kernel
theorem dSI_satisfies_101 : decode cSI_satisfies 101 = .ok (.iconst 1, 1) := by decide +kernel
theorem dSI_satisfies_102 : decode cSI_satisfies 102 = .ok (.goto 4, 3) := by decide +kernel
theorem dSI_satisfies_105 : decode cSI_satisfies 105 = .ok (.iconst 0, 1) := by decide +kernel
theorem dSI_satisfies_106 : decode cSI_satisfies 106 = .ok (.ireturn, 1) := by decide +kernel
theorem dSI_satisfies_107 : decode cSI_satisfies 107 = .ok (.iload_n 3, 1) := by decide +kernel
theorem dSI_satisfies_108 : decode cSI_satisfies 108 = .ok (.aload_n 0, 1) := by decide +kernel
theorem dSI_satisfies_109 : decode cSI_satisfies 109 = .ok (.getfield 21, 3) := by decide +kernel
theorem dSI_satisfies_112 : decode cSI_satisfies 112 = .ok (.invokestatic 36, 3) := by decide +kernel
theorem dSI_satisfies_115 : decode cSI_satisfies 115 = .ok (.ireturn, 1) := by decide +kernel
theorem dSI_satisfies_116 : decode cSI_satisfies 116 = .ok (.iconst 1, 1) := by decide +kernel
theorem dSI_satisfies_117 : decode cSI_satisfies 117 = .ok (.ireturn, 1) := by decide +kernel
theorem dST_init_0 : decode cST_init 0 = .ok (.aload_n 0, 1) := by decide +kernel
theorem dST_init_1 : decode cST_init 1 = .ok (.invokespecial 3, 3) := by decide +kernel
theorem dST_init_4 : decode cST_init 4 = .ok (.aload_n 0, 1) := by decide +kernel
theorem dST_init_5 : decode cST_init 5 = .ok (.bipush 16, 2) := by decide +kernel
theorem dST_init_7 : decode cST_init 7 = .ok (.newarray .int, 2) := by decide +kernel
theorem dST_init_9 : decode cST_init 9 = .ok (.putfield 9, 3) := by decide +kernel
theorem dST_init_12 : decode cST_init 12 = .ok (.aload_n 0, 1) := by decide +kernel
theorem dST_init_13 : decode cST_init 13 = .ok (.bipush 16, 2) := by decide +kernel
theorem dST_init_15 : decode cST_init 15 = .ok (.newarray .int, 2) := by decide +kernel
theorem dST_init_17 : decode cST_init 17 = .ok (.putfield 15, 3) := by decide +kernel
theorem dST_init_20 : decode cST_init 20 = .ok (.aload_n 0, 1) := by decide +kernel
theorem dST_init_21 : decode cST_init 21 = .ok (.bipush 16, 2) := by decide +kernel
theorem dST_init_23 : decode cST_init 23 = .ok (.newarray .int, 2) := by decide +kernel
theorem dST_init_25 : decode cST_init 25 = .ok (.putfield 18, 3) := by decide +kernel
theorem dST_init_28 : decode cST_init 28 = .ok (.aload_n 0, 1) := by decide +kernel
theorem dST_init_29 : decode cST_init 29 = .ok (.bipush 16, 2) := by decide +kernel
theorem dST_init_31 : decode cST_init 31 = .ok (.newarray .int, 2) := by decide +kernel
theorem dST_init_33 : decode cST_init 33 = .ok (.putfield 21, 3) := by decide +kernel
theorem dST_init_36 : decode cST_init 36 = .ok (.aload_n 0, 1) := by decide +kernel
theorem dST_init_37 : decode cST_init 37 = .ok (.bipush 16, 2) := by decide +kernel
theorem dST_init_39 : decode cST_init 39 = .ok (.newarray .int, 2) := by decide +kernel
theorem dST_init_41 : decode cST_init 41 = .ok (.putfield 24, 3) := by decide +kernel
theorem dST_init_44 : decode cST_init 44 = .ok (.aload_n 0, 1) := by decide +kernel
theorem dST_init_45 : decode cST_init 45 = .ok (.bipush 16, 2) := by decide +kernel
theorem dST_init_47 : decode cST_init 47 = .ok (.newarray .int, 2) := by decide +kernel
theorem dST_init_49 : decode cST_init 49 = .ok (.putfield 27, 3) := by decide +kernel
theorem dST_init_52 : decode cST_init 52 = .ok (.aload_n 0, 1) := by decide +kernel
theorem dST_init_53 : decode cST_init 53 = .ok (.getfield 9, 3) := by decide +kernel
theorem dST_init_56 : decode cST_init 56 = .ok (.iconst 0, 1) := by decide +kernel
theorem dST_init_57 : decode cST_init 57 = .ok (.iconst 1, 1) := by decide +kernel
theorem dST_init_58 : decode cST_init 58 = .ok (.iastore, 1) := by decide +kernel
theorem dST_init_59 : decode cST_init 59 = .ok (.aload_n 0, 1) := by decide +kernel
theorem dST_init_60 : decode cST_init 60 = .ok (.getfield 15, 3) := by decide +kernel
theorem dST_init_63 : decode cST_init 63 = .ok (.iconst 0, 1) := by decide +kernel
theorem dST_init_64 : decode cST_init 64 = .ok (.iconst (-1), 1) := by decide +kernel
theorem dST_init_65 : decode cST_init 65 = .ok (.iastore, 1) := by decide +kernel
theorem dST_init_66 : decode cST_init 66 = .ok (.return_, 1) := by decide +kernel
theorem dST_isMade_0 : decode cST_isMade 0 = .ok (.iload_n 1, 1) := by decide +kernel
theorem dST_isMade_1 : decode cST_isMade 1 = .ok (.iconst 1, 1) := by decide +kernel
theorem dST_isMade_2 : decode cST_isMade 2 = .ok (.if_icmp .lt 15, 3) := by decide +kernel
theorem dST_isMade_5 : decode cST_isMade 5 = .ok (.iload_n 1, 1) := by decide +kernel
theorem dST_isMade_6 : decode cST_isMade 6 = .ok (.aload_n 0, 1) := by decide +kernel
theorem dST_isMade_7 : decode cST_isMade 7 = .ok (.getfield 30, 3) := by decide +kernel
theorem dST_isMade_10 : decode cST_isMade 10 = .ok (.if_icmp .gt 7, 3) := by decide +kernel
theorem dST_isMade_13 : decode cST_isMade 13 = .ok (.iconst 1, 1) := by decide +kernel
theorem dST_isMade_14 : decode cST_isMade 14 = .ok (.goto 4, 3) := by decide +kernel
theorem dST_isMade_17 : decode cST_isMade 17 = .ok (.iconst 0, 1) := by decide +kernel
theorem dST_isMade_18 : decode cST_isMade 18 = .ok (.ireturn, 1) := by decide +kernel
theorem dST_isHistory_0 : decode cST_isHistory 0 = .ok (.aload_n 0, 1) := by decide +kernel
theorem dST_isHistory_1 : decode cST_isHistory 1 = .ok (.getfield 9, 3) := by decide +kernel
theorem dST_isHistory_4 : decode cST_isHistory 4 = .ok (.iload_n 1, 1) := by decide +kernel
theorem dST_isHistory_5 : decode cST_isHistory 5 = .ok (.iaload, 1) := by decide +kernel
theorem dST_isHistory_6 : decode cST_isHistory 6 = .ok (.iconst 4, 1) := by decide +kernel
theorem dST_isHistory_7 : decode cST_isHistory 7 = .ok (.if_icmp .eq 13, 3) := by decide +kernel
theorem dST_isHistory_10 : decode cST_isHistory 10 = .ok (.aload_n 0, 1) := by decide +kernel
theorem dST_isHistory_11 : decode cST_isHistory 11 = .ok (.getfield 9, 3) := by decide +kernel
theorem dST_isHistory_14 : decode cST_isHistory 14 = .ok (.iload_n 1, 1) := by decide +kernel
theorem dST_isHistory_15 : decode cST_isHistory 15 = .ok (.iaload, 1) := by decide +kernel
theorem dST_isHistory_16 : decode cST_isHistory 16 = .ok (.iconst 5, 1) := by decide +kernel
theorem dST_isHistory_17 : decode cST_isHistory 17 = .ok (.if_icmp .ne 7, 3) := by decide +kernel
theorem dST_isHistory_20 : decode cST_isHistory 20 = .ok (.iconst 1, 1) := by decide +kernel
theorem dST_isHistory_21 : decode cST_isHistory 21 = .ok (.goto 4, 3) := by decide +kernel
theorem dST_isHistory_24 : decode cST_isHistory 24 = .ok (.iconst 0, 1) := by decide +kernel
theorem dST_isHistory_25 : decode cST_isHistory 25 = .ok (.ireturn, 1) := by decide +kernel
theorem dST_isMadeState_0 : decode cST_isMadeState 0 = .ok (.aload_n 0, 1) := by decide +kernel
theorem dST_isMadeState_1 : decode cST_isMadeState 1 = .ok (.iload_n 1, 1) := by decide +kernel
theorem dST_isMadeState_2 : decode cST_isMadeState 2 = .ok (.invokevirtual 34, 3) := by decide +kernel
theorem dST_isMadeState_5 : decode cST_isMadeState 5 = .ok (.ifCond .eq 15, 3) := by decide +kernel
theorem dST_isMadeState_8 : decode cST_isMadeState 8 = .ok (.aload_n 0, 1) := by decide +kernel
theorem dST_isMadeState_9 : decode cST_isMadeState 9 = .ok (.iload_n 1, 1) := by decide +kernel
theorem dST_isMadeState_10 : decode cST_isMadeState 10 = .ok (.invokevirtual 38, 3) := by decide +kernel
theorem dST_isMadeState_13 : decode cST_isMadeState 13 = .ok (.ifCond .ne 7, 3) := by decide +kernel
theorem dST_isMadeState_16 : decode cST_isMadeState 16 = .ok (.iconst 1, 1) := by decide +kernel
theorem dST_isMadeState_17 : decode cST_isMadeState 17 = .ok (.goto 4, 3) := by decide +kernel
theorem dST_isMadeState_20 : decode cST_isMadeState 20 = .ok (.iconst 0, 1) := by decide +kernel
theorem dST_isMadeState_21 : decode cST_isMadeState 21 = .ok (.ireturn, 1) := by decide +kernel
theorem dST_isAtomic_0 : decode cST_isAtomic 0 = .ok (.aload_n 0, 1) := by decide +kernel
theorem dST_isAtomic_1 : decode cST_isAtomic 1 = .ok (.getfield 21, 3) := by decide +kernel
theorem dST_isAtomic_4 : decode cST_isAtomic 4 = .ok (.iload_n 1, 1) := by decide +kernel
