theorem dST_isAtomic_5 : decode cST_isAtomic 5 = .ok (.iaload, 1) := by decide +kernel
theorem dST_isAtomic_6 : decode cST_isAtomic 6 = .ok (.ifCond .ne 7, 3) := by decide +kernel
theorem dST_isAtomic_9 : decode cST_isAtomic 9 = .ok (.iconst 1, 1) := by decide +kernel
theorem dST_isAtomic_10 : decode cST_isAtomic 10 = .ok (.goto 4, 3) := by decide +kernel
theorem dST_isAtomic_13 : decode cST_isAtomic 13 = .ok (.iconst 0, 1) := by decide +kernel
theorem dST_isAtomic_14 : decode cST_isAtomic 14 = .ok (.ireturn, 1) := by decide +kernel
theorem dST_isCompound_0 : decode cST_isCompound 0 = .ok (.aload_n 0, 1) := by decide +kernel
theorem dST_isCompound_1 : decode cST_isCompound 1 = .ok (.getfield 9, 3) := by decide +kernel
theorem dST_isCompound_4 : decode cST_isCompound 4 = .ok (.iload_n 1, 1) := by decide +kernel
theorem dST_isCompound_5 : decode cST_isCompound 5 = .ok (.iaload, 1) := by decide +kernel
theorem dST_isCompound_6 : decode cST_isCompound 6 = .ok (.iconst 1, 1) := by decide +kernel
theorem dST_isCompound_7 : decode cST_isCompound 7 = .ok (.if_icmp .ne 16, 3) := by decide +kernel
theorem dST_isCompound_10 : decode cST_isCompound 10 = .ok (.aload_n 0, 1) := by decide +kernel
theorem dST_isCompound_11 : decode cST_isCompound 11 = .ok (.getfield 21, 3) := by decide +kernel
theorem dST_isCompound_14 : decode cST_isCompound 14 = .ok (.iload_n 1, 1) := by decide +kernel
theorem dST_isCompound_15 : decode cST_isCompound 15 = .ok (.iaload, 1) := by decide +kernel
theorem dST_isCompound_16 : decode cST_isCompound 16 = .ok (.ifCond .eq 7, 3) := by decide +kernel
theorem dST_isCompound_19 : decode cST_isCompound 19 = .ok (.iconst 1, 1) := by decide +kernel
theorem dST_isCompound_20 : decode cST_isCompound 20 = .ok (.goto 4, 3) := by decide +kernel
theorem dST_isCompound_23 : decode cST_isCompound 23 = .ok (.iconst 0, 1) := by decide +kernel
theorem dST_isCompound_24 : decode cST_isCompound 24 = .ok (.ireturn, 1) := by decide +kernel
theorem dST_mayHold_0 : decode cST_mayHold 0 = .ok (.iload_n 2, 1) := by decide +kernel
theorem dST_mayHold_1 : decode cST_mayHold 1 = .ok (.iconst 1, 1) := by decide +kernel
theorem dST_mayHold_2 : decode cST_mayHold 2 = .ok (.if_icmp .lt 20, 3) := by decide +kernel
theorem dST_mayHold_5 : decode cST_mayHold 5 = .ok (.iload_n 2, 1) := by decide +kernel
theorem dST_mayHold_6 : decode cST_mayHold 6 = .ok (.iconst 5, 1) := by decide +kernel
theorem dST_mayHold_7 : decode cST_mayHold 7 = .ok (.if_icmp .gt 15, 3) := by decide +kernel
theorem dST_mayHold_10 : decode cST_mayHold 10 = .ok (.iload_n 1, 1) := by decide +kernel
theorem dST_mayHold_11 : decode cST_mayHold 11 = .ok (.ifCond .lt 11, 3) := by decide +kernel
theorem dST_mayHold_14 : decode cST_mayHold 14 = .ok (.iload_n 1, 1) := by decide +kernel
theorem dST_mayHold_15 : decode cST_mayHold 15 = .ok (.aload_n 0, 1) := by decide +kernel
theorem dST_mayHold_16 : decode cST_mayHold 16 = .ok (.getfield 30, 3) := by decide +kernel
theorem dST_mayHold_19 : decode cST_mayHold 19 = .ok (.if_icmp .le 5, 3) := by decide +kernel
theorem dST_mayHold_22 : decode cST_mayHold 22 = .ok (.iconst 0, 1) := by decide +kernel
theorem dST_mayHold_23 : decode cST_mayHold 23 = .ok (.ireturn, 1) := by decide +kernel
theorem dST_mayHold_24 : decode cST_mayHold 24 = .ok (.aload_n 0, 1) := by decide +kernel
theorem dST_mayHold_25 : decode cST_mayHold 25 = .ok (.getfield 9, 3) := by decide +kernel
theorem dST_mayHold_28 : decode cST_mayHold 28 = .ok (.iload_n 1, 1) := by decide +kernel
theorem dST_mayHold_29 : decode cST_mayHold 29 = .ok (.iaload, 1) := by decide +kernel
theorem dST_mayHold_30 : decode cST_mayHold 30 = .ok (.iconst 2, 1) := by decide +kernel
theorem dST_mayHold_31 : decode cST_mayHold 31 = .ok (.if_icmp .ne 14, 3) := by decide +kernel
theorem dST_mayHold_34 : decode cST_mayHold 34 = .ok (.iload_n 2, 1) := by decide +kernel
theorem dST_mayHold_35 : decode cST_mayHold 35 = .ok (.iconst 3, 1) := by decide +kernel
theorem dST_mayHold_36 : decode cST_mayHold 36 = .ok (.if_icmp .eq 7, 3) := by decide +kernel
theorem dST_mayHold_39 : decode cST_mayHold 39 = .ok (.iconst 1, 1) := by decide +kernel
theorem dST_mayHold_40 : decode cST_mayHold 40 = .ok (.goto 4, 3) := by decide +kernel
theorem dST_mayHold_43 : decode cST_mayHold 43 = .ok (.iconst 0, 1) := by decide +kernel
theorem dST_mayHold_44 : decode cST_mayHold 44 = .ok (.ireturn, 1) := by decide +kernel
theorem dST_mayHold_45 : decode cST_mayHold 45 = .ok (.aload_n 0, 1) := by decide +kernel
theorem dST_mayHold_46 : decode cST_mayHold 46 = .ok (.getfield 9, 3) := by decide +kernel
theorem dST_mayHold_49 : decode cST_mayHold 49 = .ok (.iload_n 1, 1) := by decide +kernel
theorem dST_mayHold_50 : decode cST_mayHold 50 = .ok (.iaload, 1) := by decide +kernel
theorem dST_mayHold_51 : decode cST_mayHold 51 = .ok (.iconst 1, 1) := by decide +kernel
theorem dST_mayHold_52 : decode cST_mayHold 52 = .ok (.if_icmp .ne 16, 3) := by decide +kernel
theorem dST_mayHold_55 : decode cST_mayHold 55 = .ok (.iload_n 1, 1) := by decide +kernel
theorem dST_mayHold_56 : decode cST_mayHold 56 = .ok (.ifCond .ne 8, 3) := by decide +kernel
theorem dST_mayHold_59 : decode cST_mayHold 59 = .ok (.iload_n 2, 1) := by decide +kernel
theorem dST_mayHold_60 : decode cST_mayHold 60 = .ok (.iconst 3, 1) := by decide +kernel
theorem dST_mayHold_61 : decode cST_mayHold 61 = .ok (.if_icmp .gt 7, 3) := by decide +kernel
theorem dST_mayHold_64 : decode cST_mayHold 64 = .ok (.iconst 1, 1) := by decide +kernel
theorem dST_mayHold_65 : decode cST_mayHold 65 = .ok (.goto 4, 3) := by decide +kernel
theorem dST_mayHold_68 : decode cST_mayHold 68 = .ok (.iconst 0, 1) := by decide +kernel
theorem dST_mayHold_69 : decode cST_mayHold 69 = .ok (.ireturn, 1) := by decide +kernel
theorem dST_add_0 : decode cST_add 0 = .ok (.aload_n 0, 1) := by decide +kernel
theorem dST_add_1 : decode cST_add 1 = .ok (.dup, 1) := by decide +kernel
theorem dST_add_2 : decode cST_add 2 = .ok (.getfield 30, 3) := by decide +kernel
theorem dST_add_5 : decode cST_add 5 = .ok (.iconst 1, 1) := by decide +kernel
theorem dST_add_6 : decode cST_add 6 = .ok (.iadd, 1) := by decide +kernel
theorem dST_add_7 : decode cST_add 7 = .ok (.putfield 30, 3) := by decide +kernel
theorem dST_add_10 : decode cST_add 10 = .ok (.aload_n 0, 1) := by decide +kernel
theorem dST_add_11 : decode cST_add 11 = .ok (.getfield 9, 3) := by decide +kernel
theorem dST_add_14 : decode cST_add 14 = .ok (.aload_n 0, 1) := by decide +kernel
theorem dST_add_15 : decode cST_add 15 = .ok (.getfield 30, 3) := by decide +kernel
theorem dST_add_18 : decode cST_add 18 = .ok (.iload_n 2, 1) := by decide +kernel
theorem dST_add_19 : decode cST_add 19 = .ok (.iastore, 1) := by decide +kernel
theorem dST_add_20 : decode cST_add 20 = .ok (.aload_n 0, 1) := by decide +kernel
theorem dST_add_21 : decode cST_add 21 = .ok (.getfield 15, 3) := by decide +kernel
theorem dST_add_24 : decode cST_add 24 = .ok (.aload_n 0, 1) := by decide +kernel
theorem dST_add_25 : decode cST_add 25 = .ok (.getfield 30, 3) := by decide +kernel
theorem dST_add_28 : decode cST_add 28 = .ok (.iload_n 1, 1) := by decide +kernel
theorem dST_add_29 : decode cST_add 29 = .ok (.iastore, 1) := by decide +kernel
theorem dST_add_30 : decode cST_add 30 = .ok (.aload_n 0, 1) := by decide +kernel
theorem dST_add_31 : decode cST_add 31 = .ok (.getfield 24, 3) := by decide +kernel
theorem dST_add_34 : decode cST_add 34 = .ok (.aload_n 0, 1) := by decide +kernel
theorem dST_add_35 : decode cST_add 35 = .ok (.getfield 30, 3) := by decide +kernel
theorem dST_add_38 : decode cST_add 38 = .ok (.aload_n 0, 1) := by decide +kernel
theorem dST_add_39 : decode cST_add 39 = .ok (.getfield 24, 3) := by decide +kernel
theorem dST_add_42 : decode cST_add 42 = .ok (.iload_n 1, 1) := by decide +kernel
theorem dST_add_43 : decode cST_add 43 = .ok (.iaload, 1) := by decide +kernel
theorem dST_add_44 : decode cST_add 44 = .ok (.iconst 1, 1) := by decide +kernel
theorem dST_add_45 : decode cST_add 45 = .ok (.iload_n 1, 1) := by decide +kernel
theorem dST_add_46 : decode cST_add 46 = .ok (.ishl, 1) := by decide +kernel
theorem dST_add_47 : decode cST_add 47 = .ok (.ior, 1) := by decide +kernel
theorem dST_add_48 : decode cST_add 48 = .ok (.iastore, 1) := by decide +kernel
theorem dST_add_49 : decode cST_add 49 = .ok (.aload_n 0, 1) := by decide +kernel
theorem dST_add_50 : decode cST_add 50 = .ok (.aload_n 0, 1) := by decide +kernel
theorem dST_add_51 : decode cST_add 51 = .ok (.getfield 30, 3) := by decide +kernel
theorem dST_add_54 : decode cST_add 54 = .ok (.invokevirtual 38, 3) := by decide +kernel
theorem dST_add_57 : decode cST_add 57 = .ok (.ifCond .ne 12, 3) := by decide +kernel
theorem dST_add_60 : decode cST_add 60 = .ok (.aload_n 0, 1) := by decide +kernel
theorem dST_add_61 : decode cST_add 61 = .ok (.iload_n 1, 1) := by decide +kernel
theorem dST_add_62 : decode cST_add 62 = .ok (.aload_n 0, 1) := by decide +kernel
theorem dST_add_63 : decode cST_add 63 = .ok (.getfield 30, 3) := by decide +kernel
theorem dST_add_66 : decode cST_add 66 = .ok (.invokevirtual 41, 3) := by decide +kernel
theorem dST_add_69 : decode cST_add 69 = .ok (.aload_n 0, 1) := by decide +kernel
theorem dST_add_70 : decode cST_add 70 = .ok (.getfield 30, 3) := by decide +kernel
theorem dST_add_73 : decode cST_add 73 = .ok (.ireturn, 1) := by decide +kernel
theorem dST_addChild_0 : decode cST_addChild 0 = .ok (.aload_n 0, 1) := by decide +kernel
theorem dST_addChild_1 : decode cST_addChild 1 = .ok (.getfield 21, 3) := by decide +kernel
theorem dST_addChild_4 : decode cST_addChild 4 = .ok (.iload_n 1, 1) := by decide +kernel
theorem dST_addChild_5 : decode cST_addChild 5 = .ok (.iaload, 1) := by decide +kernel
theorem dST_addChild_6 : decode cST_addChild 6 = .ok (.ifCond .ne 10, 3) := by decide +kernel
theorem dST_addChild_9 : decode cST_addChild 9 = .ok (.aload_n 0, 1) := by decide +kernel
theorem dST_addChild_10 : decode cST_addChild 10 = .ok (.getfield 18, 3) := by decide +kernel
theorem dST_addChild_13 : decode cST_addChild 13 = .ok (.iload_n 1, 1) := by decide +kernel
theorem dST_addChild_14 : decode cST_addChild 14 = .ok (.iload_n 2, 1) := by decide +kernel
theorem dST_addChild_15 : decode cST_addChild 15 = .ok (.iastore, 1) := by decide +kernel
theorem dST_addChild_16 : decode cST_addChild 16 = .ok (.aload_n 0, 1) := by decide +kernel
theorem dST_addChild_17 : decode cST_addChild 17 = .ok (.getfield 21, 3) := by decide +kernel
theorem dST_addChild_20 : decode cST_addChild 20 = .ok (.iload_n 1, 1) := by decide +kernel
theorem dST_addChild_21 : decode cST_addChild 21 = .ok (.dup2, 1) := by decide +kernel
theorem dST_addChild_22 : decode cST_addChild 22 = .ok (.iaload, 1) := by decide +kernel
theorem dST_addChild_23 : decode cST_addChild 23 = .ok (.iconst 1, 1) := by decide +kernel
theorem dST_addChild_24 : decode cST_addChild 24 = .ok (.iload_n 2, 1) := by decide +kernel
theorem dST_addChild_25 : decode cST_addChild 25 = .ok (.ishl, 1) := by decide +kernel
theorem dST_addChild_26 : decode cST_addChild 26 = .ok (.ior, 1) := by decide +kernel
theorem dST_addChild_27 : decode cST_addChild 27 = .ok (.iastore, 1) := by decide +kernel
theorem dST_addChild_28 : decode cST_addChild 28 = .ok (.iconst 0, 1) := by decide +kernel
theorem dST_addChild_29 : decode cST_addChild 29 = .ok (.istore_n 3, 1) := by decide +kernel
theorem dST_addChild_30 : decode cST_addChild 30 = .ok (.iload_n 3, 1) := by decide +kernel
theorem dST_addChild_31 : decode cST_addChild 31 = .ok (.iload_n 2, 1) := by decide +kernel
theorem dST_addChild_32 : decode cST_addChild 32 = .ok (.if_icmp .ge 34, 3) := by decide +kernel
theorem dST_addChild_35 : decode cST_addChild 35 = .ok (.iload_n 3, 1) := by decide +kernel
theorem dST_addChild_36 : decode cST_addChild 36 = .ok (.aload_n 0, 1) := by decide +kernel
theorem dST_addChild_37 : decode cST_addChild 37 = .ok (.getfield 24, 3) := by decide +kernel
theorem dST_addChild_40 : decode cST_addChild 40 = .ok (.iload_n 2, 1) := by decide +kernel
theorem dST_addChild_41 : decode cST_addChild 41 = .ok (.iaload, 1) := by decide +kernel
theorem dST_addChild_42 : decode cST_addChild 42 = .ok (.invokestatic 45, 3) := by decide +kernel
theorem dST_addChild_45 : decode cST_addChild 45 = .ok (.ifCond .eq 15, 3) := by decide +kernel
theorem dST_addChild_48 : decode cST_addChild 48 = .ok (.aload_n 0, 1) := by decide +kernel
theorem dST_addChild_49 : decode cST_addChild 49 = .ok (.getfield 27, 3) := by decide +kernel
theorem dST_addChild_52 : decode cST_addChild 52 = .ok (.iload_n 3, 1) := by decide +kernel
theorem dST_addChild_53 : decode cST_addChild 53 = .ok (.dup2, 1) := by decide +kernel
theorem dST_addChild_54 : decode cST_addChild 54 = .ok (.iaload, 1) := by decide +kernel
theorem dST_addChild_55 : decode cST_addChild 55 = .ok (.iconst 1, 1) := by decide +kernel
theorem dST_addChild_56 : decode cST_addChild 56 = .ok (.iload_n 2, 1) := by decide +kernel
theorem dST_addChild_57 : decode cST_addChild 57 = .ok (.ishl, 1) := by decide +kernel
theorem dST_addChild_58 : decode cST_addChild 58 = .ok (.ior, 1) := by decide +kernel
theorem dST_addChild_59 : decode cST_addChild 59 = .ok (.iastore, 1) := by decide +kernel
theorem dST_addChild_60 : decode cST_addChild 60 = .ok (.iinc 3 1, 3) := by decide +kernel
theorem dST_addChild_63 : decode cST_addChild 63 = .ok (.goto (-33), 3) := by decide +kernel
theorem dST_addChild_66 : decode cST_addChild 66 = .ok (.return_, 1) := by decide +kernel
theorem dST_nearestCompoundAbove_0 : decode cST_nearestCompoundAbove 0 = .ok (.aload_n 0, 1) := by decide +kernel
theorem dST_nearestCompoundAbove_1 : decode cST_nearestCompoundAbove 1 = .ok (.getfield 24, 3) := by decide +kernel
theorem dST_nearestCompoundAbove_4 : decode cST_nearestCompoundAbove 4 = .ok (.iload_n 1, 1) := by decide +kernel
theorem dST_nearestCompoundAbove_5 : decode cST_nearestCompoundAbove 5 = .ok (.iaload, 1) := by decide +kernel
theorem dST_nearestCompoundAbove_6 : decode cST_nearestCompoundAbove 6 = .ok (.aload_n 0, 1) := by decide +kernel
theorem dST_nearestCompoundAbove_7 : decode cST_nearestCompoundAbove 7 = .ok (.getfield 24, 3) := by decide +kernel
theorem dST_nearestCompoundAbove_10 : decode cST_nearestCompoundAbove 10 = .ok (.iload_n 2, 1) := by decide +kernel
theorem dST_nearestCompoundAbove_11 : decode cST_nearestCompoundAbove 11 = .ok (.iaload, 1) := by decide +kernel
theorem dST_nearestCompoundAbove_12 : decode cST_nearestCompoundAbove 12 = .ok (.iand, 1) := by decide +kernel
theorem dST_nearestCompoundAbove_13 : decode cST_nearestCompoundAbove 13 = .ok (.istore_n 3, 1) := by decide +kernel
theorem dST_nearestCompoundAbove_14 : decode cST_nearestCompoundAbove 14 = .ok (.bipush 15, 2) := by decide +kernel
theorem dST_nearestCompoundAbove_16 : decode cST_nearestCompoundAbove 16 = .ok (.istore 4, 2) := by decide +kernel
theorem dST_nearestCompoundAbove_18 : decode cST_nearestCompoundAbove 18 = .ok (.iload 4, 2) := by decide +kernel
theorem dST_nearestCompoundAbove_20 : decode cST_nearestCompoundAbove 20 = .ok (.iconst 1, 1) := by decide +kernel
theorem dST_nearestCompoundAbove_21 : decode cST_nearestCompoundAbove 21 = .ok (.if_icmp .lt 30, 3) := by decide +kernel
theorem dST_nearestCompoundAbove_24 : decode cST_nearestCompoundAbove 24 = .ok (.iload 4, 2) := by decide +kernel
theorem dST_nearestCompoundAbove_26 : decode cST_nearestCompoundAbove 26 = .ok (.iload_n 3, 1) := by decide +kernel
theorem dST_nearestCompoundAbove_27 : decode cST_nearestCompoundAbove 27 = .ok (.invokestatic 45, 3) := by decide +kernel
theorem dST_nearestCompoundAbove_30 : decode cST_nearestCompoundAbove 30 = .ok (.ifCond .eq 15, 3) := by decide +kernel
theorem dST_nearestCompoundAbove_33 : decode cST_nearestCompoundAbove 33 = .ok (.aload_n 0, 1) := by decide +kernel
theorem dST_nearestCompoundAbove_34 : decode cST_nearestCompoundAbove 34 = .ok (.iload 4, 2) := by decide +kernel
theorem dST_nearestCompoundAbove_36 : decode cST_nearestCompoundAbove 36 = .ok (.invokevirtual 49, 3) := by decide +kernel
theorem dST_nearestCompoundAbove_39 : decode cST_nearestCompoundAbove 39 = .ok (.ifCond .eq 6, 3) := by decide +kernel
theorem dST_nearestCompoundAbove_42 : decode cST_nearestCompoundAbove 42 = .ok (.iload 4, 2) := by decide +kernel
theorem dST_nearestCompoundAbove_44 : decode cST_nearestCompoundAbove 44 = .ok (.ireturn, 1) := by decide +kernel
theorem dST_nearestCompoundAbove_45 : decode cST_nearestCompoundAbove 45 = .ok (.iinc 4 (-1), 3) := by decide +kernel
theorem dST_nearestCompoundAbove_48 : decode cST_nearestCompoundAbove 48 = .ok (.goto (-30), 3) := by decide +kernel
theorem dST_nearestCompoundAbove_51 : decode cST_nearestCompoundAbove 51 = .ok (.iconst 0, 1) := by decide +kernel
theorem dST_nearestCompoundAbove_52 : decode cST_nearestCompoundAbove 52 = .ok (.ireturn, 1) := by decide +kernel
theorem dST_isWhole_0 : decode cST_isWhole 0 = .ok (.aload_n 0, 1) := by decide +kernel
theorem dST_isWhole_1 : decode cST_isWhole 1 = .ok (.iconst 0, 1) := by decide +kernel
theorem dST_isWhole_2 : decode cST_isWhole 2 = .ok (.invokevirtual 52, 3) := by decide +kernel
theorem dST_isWhole_5 : decode cST_isWhole 5 = .ok (.ifCond .eq 5, 3) := by decide +kernel
theorem dST_isWhole_8 : decode cST_isWhole 8 = .ok (.iconst 0, 1) := by decide +kernel
theorem dST_isWhole_9 : decode cST_isWhole 9 = .ok (.ireturn, 1) := by decide +kernel
theorem dST_isWhole_10 : decode cST_isWhole 10 = .ok (.iconst 1, 1) := by decide +kernel
theorem dST_isWhole_11 : decode cST_isWhole 11 = .ok (.istore_n 1, 1) := by decide +kernel
theorem dST_isWhole_12 : decode cST_isWhole 12 = .ok (.iload_n 1, 1) := by decide +kernel
theorem dST_isWhole_13 : decode cST_isWhole 13 = .ok (.aload_n 0, 1) := by decide +kernel
theorem dST_isWhole_14 : decode cST_isWhole 14 = .ok (.getfield 30, 3) := by decide +kernel
theorem dST_isWhole_17 : decode cST_isWhole 17 = .ok (.if_icmp .gt 52, 3) := by decide +kernel
theorem dST_isWhole_20 : decode cST_isWhole 20 = .ok (.aload_n 0, 1) := by decide +kernel
theorem dST_isWhole_21 : decode cST_isWhole 21 = .ok (.getfield 9, 3) := by decide +kernel
theorem dST_isWhole_24 : decode cST_isWhole 24 = .ok (.iload_n 1, 1) := by decide +kernel
theorem dST_isWhole_25 : decode cST_isWhole 25 = .ok (.iaload, 1) := by decide +kernel
theorem dST_isWhole_26 : decode cST_isWhole 26 = .ok (.iconst 2, 1) := by decide +kernel
theorem dST_isWhole_27 : decode cST_isWhole 27 = .ok (.if_icmp .ne 13, 3) := by decide +kernel
theorem dST_isWhole_30 : decode cST_isWhole 30 = .ok (.aload_n 0, 1) := by decide +kernel
theorem dST_isWhole_31 : decode cST_isWhole 31 = .ok (.iload_n 1, 1) := by decide +kernel
theorem dST_isWhole_32 : decode cST_isWhole 32 = .ok (.invokevirtual 52, 3) := by decide +kernel
theorem dST_isWhole_35 : decode cST_isWhole 35 = .ok (.ifCond .eq 5, 3) := by decide +kernel
theorem dST_isWhole_38 : decode cST_isWhole 38 = .ok (.iconst 0, 1) := by decide +kernel
theorem dST_isWhole_39 : decode cST_isWhole 39 = .ok (.ireturn, 1) := by decide +kernel
theorem dST_isWhole_40 : decode cST_isWhole 40 = .ok (.aload_n 0, 1) := by decide +kernel
theorem dST_isWhole_41 : decode cST_isWhole 41 = .ok (.iload_n 1, 1) := by decide +kernel
theorem dST_isWhole_42 : decode cST_isWhole 42 = .ok (.invokevirtual 38, 3) := by decide +kernel
theorem dST_isWhole_45 : decode cST_isWhole 45 = .ok (.ifCond .eq 18, 3) := by decide +kernel
theorem dST_isWhole_48 : decode cST_isWhole 48 = .ok (.aload_n 0, 1) := by decide +kernel
theorem dST_isWhole_49 : decode cST_isWhole 49 = .ok (.aload_n 0, 1) := by decide +kernel
theorem dST_isWhole_50 : decode cST_isWhole 50 = .ok (.getfield 15, 3) := by decide +kernel
theorem dST_isWhole_53 : decode cST_isWhole 53 = .ok (.iload_n 1, 1) := by decide +kernel
theorem dST_isWhole_54 : decode cST_isWhole 54 = .ok (.iaload, 1) := by decide +kernel
theorem dST_isWhole_55 : decode cST_isWhole 55 = .ok (.invokevirtual 52, 3) := by decide +kernel
theorem dST_isWhole_58 : decode cST_isWhole 58 = .ok (.ifCond .eq 5, 3) := by decide +kernel
theorem dST_isWhole_61 : decode cST_isWhole 61 = .ok (.iconst 0, 1) := by decide +kernel
theorem dST_isWhole_62 : decode cST_isWhole 62 = .ok (.ireturn, 1) := by decide +kernel
theorem dST_isWhole_63 : decode cST_isWhole 63 = .ok (.iinc 1 1, 3) := by decide +kernel
theorem dST_isWhole_66 : decode cST_isWhole 66 = .ok (.goto (-54), 3) := by decide +kernel
theorem dST_isWhole_69 : decode cST_isWhole 69 = .ok (.iconst 1, 1) := by decide +kernel
theorem dST_isWhole_70 : decode cST_isWhole 70 = .ok (.ireturn, 1) := by decide +kernel
theorem dST_atomicAmong_0 : decode cST_atomicAmong 0 = .ok (.iconst 0, 1) := by decide +kernel
theorem dST_atomicAmong_1 : decode cST_atomicAmong 1 = .ok (.istore_n 2, 1) := by decide +kernel
theorem dST_atomicAmong_2 : decode cST_atomicAmong 2 = .ok (.iconst 1, 1) := by decide +kernel
theorem dST_atomicAmong_3 : decode cST_atomicAmong 3 = .ok (.istore_n 3, 1) := by decide +kernel
theorem dST_atomicAmong_4 : decode cST_atomicAmong 4 = .ok (.iload_n 3, 1) := by decide +kernel
theorem dST_atomicAmong_5 : decode cST_atomicAmong 5 = .ok (.aload_n 0, 1) := by decide +kernel
theorem dST_atomicAmong_6 : decode cST_atomicAmong 6 = .ok (.getfield 30, 3) := by decide +kernel
theorem dST_atomicAmong_9 : decode cST_atomicAmong 9 = .ok (.if_icmp .gt 31, 3) := by decide +kernel
theorem dST_atomicAmong_12 : decode cST_atomicAmong 12 = .ok (.iload_n 3, 1) := by decide +kernel
theorem dST_atomicAmong_13 : decode cST_atomicAmong 13 = .ok (.iload_n 1, 1) := by decide +kernel
theorem dST_atomicAmong_14 : decode cST_atomicAmong 14 = .ok (.invokestatic 45, 3) := by decide +kernel
theorem dST_atomicAmong_17 : decode cST_atomicAmong 17 = .ok (.ifCond .eq 17, 3) := by decide +kernel
theorem dST_atomicAmong_20 : decode cST_atomicAmong 20 = .ok (.aload_n 0, 1) := by decide +kernel
theorem dST_atomicAmong_21 : decode cST_atomicAmong 21 = .ok (.iload_n 3, 1) := by decide +kernel
theorem dST_atomicAmong_22 : decode cST_atomicAmong 22 = .ok (.invokevirtual 52, 3) := by decide +kernel
theorem dST_atomicAmong_25 : decode cST_atomicAmong 25 = .ok (.ifCond .eq 9, 3) := by decide +kernel
theorem dST_atomicAmong_28 : decode cST_atomicAmong 28 = .ok (.iload_n 2, 1) := by decide +kernel
theorem dST_atomicAmong_29 : decode cST_atomicAmong 29 = .ok (.iconst 1, 1) := by decide +kernel
theorem dST_atomicAmong_30 : decode cST_atomicAmong 30 = .ok (.iload_n 3, 1) := by decide +kernel
theorem dST_atomicAmong_31 : decode cST_atomicAmong 31 = .ok (.ishl, 1) := by decide +kernel
theorem dST_atomicAmong_32 : decode cST_atomicAmong 32 = .ok (.ior, 1) := by decide +kernel
theorem dST_atomicAmong_33 : decode cST_atomicAmong 33 = .ok (.istore_n 2, 1) := by decide +kernel
theorem dST_atomicAmong_34 : decode cST_atomicAmong 34 = .ok (.iinc 3 1, 3) := by decide +kernel
theorem dST_atomicAmong_37 : decode cST_atomicAmong 37 = .ok (.goto (-33), 3) := by decide +kernel
theorem dST_atomicAmong_40 : decode cST_atomicAmong 40 = .ok (.iload_n 2, 1) := by decide +kernel
theorem dST_atomicAmong_41 : decode cST_atomicAmong 41 = .ok (.ireturn, 1) := by decide +kernel
theorem dST_completed_0 : decode cST_completed 0 = .ok (.iload_n 1, 1) := by decide +kernel
theorem dST_completed_1 : decode cST_completed 1 = .ok (.istore_n 2, 1) := by decide +kernel
theorem dST_completed_2 : decode cST_completed 2 = .ok (.iconst 1, 1) := by decide +kernel
theorem dST_completed_3 : decode cST_completed 3 = .ok (.istore_n 3, 1) := by decide +kernel
theorem dST_completed_4 : decode cST_completed 4 = .ok (.iload_n 3, 1) := by decide +kernel
theorem dST_completed_5 : decode cST_completed 5 = .ok (.aload_n 0, 1) := by decide +kernel
theorem dST_completed_6 : decode cST_completed 6 = .ok (.getfield 30, 3) := by decide +kernel
theorem dST_completed_9 : decode cST_completed 9 = .ok (.if_icmp .gt 72, 3) := by decide +kernel
theorem dST_completed_12 : decode cST_completed 12 = .ok (.iload_n 3, 1) := by decide +kernel
theorem dST_completed_13 : decode cST_completed 13 = .ok (.iload_n 2, 1) := by decide +kernel
theorem dST_completed_14 : decode cST_completed 14 = .ok (.invokestatic 45, 3) := by decide +kernel
theorem dST_completed_17 : decode cST_completed 17 = .ok (.ifCond .ne 6, 3) := by decide +kernel
theorem dST_completed_20 : decode cST_completed 20 = .ok (.goto 55, 3) := by decide +kernel
theorem dST_completed_23 : decode cST_completed 23 = .ok (.aload_n 0, 1) := by decide +kernel
theorem dST_completed_24 : decode cST_completed 24 = .ok (.getfield 9, 3) := by decide +kernel
theorem dST_completed_27 : decode cST_completed 27 = .ok (.iload_n 3, 1) := by decide +kernel
theorem dST_completed_28 : decode cST_completed 28 = .ok (.iaload, 1) := by decide +kernel
theorem dST_completed_29 : decode cST_completed 29 = .ok (.iconst 2, 1) := by decide +kernel
theorem dST_completed_30 : decode cST_completed 30 = .ok (.if_icmp .ne 15, 3) := by decide +kernel
theorem dST_completed_33 : decode cST_completed 33 = .ok (.iload_n 2, 1) := by decide +kernel
theorem dST_completed_34 : decode cST_completed 34 = .ok (.aload_n 0, 1) := by decide +kernel
theorem dST_completed_35 : decode cST_completed 35 = .ok (.getfield 21, 3) := by decide +kernel
theorem dST_completed_38 : decode cST_completed 38 = .ok (.iload_n 3, 1) := by decide +kernel
theorem dST_completed_39 : decode cST_completed 39 = .ok (.iaload, 1) := by decide +kernel
theorem dST_completed_40 : decode cST_completed 40 = .ok (.ior, 1) := by decide +kernel
theorem dST_completed_41 : decode cST_completed 41 = .ok (.istore_n 2, 1) := by decide +kernel
theorem dST_completed_42 : decode cST_completed 42 = .ok (.goto 33, 3) := by decide +kernel
theorem dST_completed_45 : decode cST_completed 45 = .ok (.aload_n 0, 1) := by decide +kernel
theorem dST_completed_46 : decode cST_completed 46 = .ok (.iload_n 3, 1) := by decide +kernel
theorem dST_completed_47 : decode cST_completed 47 = .ok (.invokevirtual 49, 3) := by decide +kernel
theorem dST_completed_50 : decode cST_completed 50 = .ok (.ifCond .eq 25, 3) := by decide +kernel
theorem dST_completed_53 : decode cST_completed 53 = .ok (.aload_n 0, 1) := by decide +kernel
theorem dST_completed_54 : decode cST_completed 54 = .ok (.getfield 21, 3) := by decide +kernel
theorem dST_completed_57 : decode cST_completed 57 = .ok (.iload_n 3, 1) := by decide +kernel
theorem dST_completed_58 : decode cST_completed 58 = .ok (.iaload, 1) := by decide +kernel
theorem dST_completed_59 : decode cST_completed 59 = .ok (.iload_n 2, 1) := by decide +kernel
theorem dST_completed_60 : decode cST_completed 60 = .ok (.iand, 1) := by decide +kernel
theorem dST_completed_61 : decode cST_completed 61 = .ok (.ifCond .ne 14, 3) := by decide +kernel
theorem dST_completed_64 : decode cST_completed 64 = .ok (.iload_n 2, 1) := by decide +kernel
theorem dST_completed_65 : decode cST_completed 65 = .ok (.iconst 1, 1) := by decide +kernel
theorem dST_completed_66 : decode cST_completed 66 = .ok (.aload_n 0, 1) := by decide +kernel
theorem dST_completed_67 : decode cST_completed 67 = .ok (.getfield 18, 3) := by decide +kernel
theorem dST_completed_70 : decode cST_completed 70 = .ok (.iload_n 3, 1) := by decide +kernel
theorem dST_completed_71 : decode cST_completed 71 = .ok (.iaload, 1) := by decide +kernel
theorem dST_completed_72 : decode cST_completed 72 = .ok (.ishl, 1) := by decide +kernel
theorem dST_completed_73 : decode cST_completed 73 = .ok (.ior, 1) := by decide +kernel
theorem dST_completed_74 : decode cST_completed 74 = .ok (.istore_n 2, 1) := by decide +kernel
theorem dST_completed_75 : decode cST_completed 75 = .ok (.iinc 3 1, 3) := by decide +kernel
theorem dST_completed_78 : decode cST_completed 78 = .ok (.goto (-74), 3) := by decide +kernel
theorem dST_completed_81 : decode cST_completed 81 = .ok (.iload_n 2, 1) := by decide +kernel
theorem dST_completed_82 : decode cST_completed 82 = .ok (.ireturn, 1) := by decide +kernel
theorem dTT_init_0 : decode cTT_init 0 = .ok (.aload_n 0, 1) := by decide +kernel
theorem dTT_init_1 : decode cTT_init 1 = .ok (.invokespecial 3, 3) := by decide +kernel
theorem dTT_init_4 : decode cTT_init 4 = .ok (.aload_n 0, 1) := by decide +kernel
theorem dTT_init_5 : decode cTT_init 5 = .ok (.bipush 20, 2) := by decide +kernel
theorem dTT_init_7 : decode cTT_init 7 = .ok (.newarray .int, 2) := by decide +kernel
theorem dTT_init_9 : decode cTT_init 9 = .ok (.putfield 9, 3) := by decide +kernel
theorem dTT_init_12 : decode cTT_init 12 = .ok (.aload_n 0, 1) := by decide +kernel
theorem dTT_init_13 : decode cTT_init 13 = .ok (.bipush 20, 2) := by decide +kernel
theorem dTT_init_15 : decode cTT_init 15 = .ok (.newarray .int, 2) := by decide +kernel
theorem dTT_init_17 : decode cTT_init 17 = .ok (.putfield 15, 3) := by decide +kernel
theorem dTT_init_20 : decode cTT_init 20 = .ok (.aload_n 0, 1) := by decide +kernel
theorem dTT_init_21 : decode cTT_init 21 = .ok (.bipush 20, 2) := by decide +kernel
theorem dTT_init_23 : decode cTT_init 23 = .ok (.newarray .int, 2) := by decide +kernel
theorem dTT_init_25 : decode cTT_init 25 = .ok (.putfield 18, 3) := by decide +kernel
theorem dTT_init_28 : decode cTT_init 28 = .ok (.aload_n 0, 1) := by decide +kernel
theorem dTT_init_29 : decode cTT_init 29 = .ok (.bipush 20, 2) := by decide +kernel
theorem dTT_init_31 : decode cTT_init 31 = .ok (.newarray .int, 2) := by decide +kernel
theorem dTT_init_33 : decode cTT_init 33 = .ok (.putfield 21, 3) := by decide +kernel
theorem dTT_init_36 : decode cTT_init 36 = .ok (.aload_n 0, 1) := by decide +kernel
theorem dTT_init_37 : decode cTT_init 37 = .ok (.bipush 20, 2) := by decide +kernel
theorem dTT_init_39 : decode cTT_init 39 = .ok (.newarray .int, 2) := by decide +kernel
theorem dTT_init_41 : decode cTT_init 41 = .ok (.putfield 24, 3) := by decide +kernel
theorem dTT_init_44 : decode cTT_init 44 = .ok (.aload_n 0, 1) := by decide +kernel
theorem dTT_init_45 : decode cTT_init 45 = .ok (.bipush 20, 2) := by decide +kernel
theorem dTT_init_47 : decode cTT_init 47 = .ok (.newarray .int, 2) := by decide +kernel
theorem dTT_init_49 : decode cTT_init 49 = .ok (.putfield 27, 3) := by decide +kernel
theorem dTT_init_52 : decode cTT_init 52 = .ok (.aload_n 0, 1) := by decide +kernel
theorem dTT_init_53 : decode cTT_init 53 = .ok (.bipush 20, 2) := by decide +kernel
theorem dTT_init_55 : decode cTT_init 55 = .ok (.newarray .int, 2) := by decide +kernel
theorem dTT_init_57 : decode cTT_init 57 = .ok (.putfield 30, 3) := by decide +kernel
theorem dTT_init_60 : decode cTT_init 60 = .ok (.return_, 1) := by decide +kernel
theorem dTT_has_0 : decode cTT_has 0 = .ok (.iload_n 1, 1) := by decide +kernel
theorem dTT_has_1 : decode cTT_has 1 = .ok (.ifCond .lt 15, 3) := by decide +kernel
theorem dTT_has_4 : decode cTT_has 4 = .ok (.iload_n 1, 1) := by decide +kernel
theorem dTT_has_5 : decode cTT_has 5 = .ok (.aload_n 0, 1) := by decide +kernel
theorem dTT_has_6 : decode cTT_has 6 = .ok (.getfield 33, 3) := by decide +kernel
theorem dTT_has_9 : decode cTT_has 9 = .ok (.if_icmp .ge 7, 3) := by decide +kernel
theorem dTT_has_12 : decode cTT_has 12 = .ok (.iconst 1, 1) := by decide +kernel
theorem dTT_has_13 : decode cTT_has 13 = .ok (.goto 4, 3) := by decide +kernel
theorem dTT_has_16 : decode cTT_has 16 = .ok (.iconst 0, 1) := by decide +kernel
theorem dTT_has_17 : decode cTT_has 17 = .ok (.ireturn, 1) := by decide +kernel
theorem dTT_add_0 : decode cTT_add 0 = .ok (.aload_n 0, 1) := by decide +kernel
theorem dTT_add_1 : decode cTT_add 1 = .ok (.getfield 33, 3) := by decide +kernel
theorem dTT_add_4 : decode cTT_add 4 = .ok (.istore 5, 2) := by decide +kernel
theorem dTT_add_6 : decode cTT_add 6 = .ok (.aload_n 0, 1) := by decide +kernel
theorem dTT_add_7 : decode cTT_add 7 = .ok (.getfield 9, 3) := by decide +kernel
theorem dTT_add_10 : decode cTT_add 10 = .ok (.iload 5, 2) := by decide +kernel
theorem dTT_add_12 : decode cTT_add 12 = .ok (.iload_n 1, 1) := by decide +kernel
theorem dTT_add_13 : decode cTT_add 13 = .ok (.iastore, 1) := by decide +kernel
theorem dTT_add_14 : decode cTT_add 14 = .ok (.aload_n 0, 1) := by decide +kernel
theorem dTT_add_15 : decode cTT_add 15 = .ok (.getfield 15, 3) := by decide +kernel
theorem dTT_add_18 : decode cTT_add 18 = .ok (.iload 5, 2) := by decide +kernel
theorem dTT_add_20 : decode cTT_add 20 = .ok (.iload_n 2, 1) := by decide +kernel
theorem dTT_add_21 : decode cTT_add 21 = .ok (.iastore, 1) := by decide +kernel
theorem dTT_add_22 : decode cTT_add 22 = .ok (.aload_n 0, 1) := by decide +kernel
theorem dTT_add_23 : decode cTT_add 23 = .ok (.getfield 18, 3) := by decide +kernel
theorem dTT_add_26 : decode cTT_add 26 = .ok (.iload 5, 2) := by decide +kernel
theorem dTT_add_28 : decode cTT_add 28 = .ok (.iload_n 3, 1) := by decide +kernel
theorem dTT_add_29 : decode cTT_add 29 = .ok (.iastore, 1) := by decide +kernel
theorem dTT_add_30 : decode cTT_add 30 = .ok (.aload_n 0, 1) := by decide +kernel
theorem dTT_add_31 : decode cTT_add 31 = .ok (.getfield 21, 3) := by decide +kernel
theorem dTT_add_34 : decode cTT_add 34 = .ok (.iload 5, 2) := by decide +kernel
theorem dTT_add_36 : decode cTT_add 36 = .ok (.iload 4, 2) := by decide +kernel
theorem dTT_add_38 : decode cTT_add 38 = .ok (.iastore, 1) := by decide +kernel
theorem dTT_add_39 : decode cTT_add 39 = .ok (.aload_n 0, 1) := by decide +kernel
theorem dTT_add_40 : decode cTT_add 40 = .ok (.getfield 24, 3) := by decide +kernel
theorem dTT_add_43 : decode cTT_add 43 = .ok (.iload 5, 2) := by decide +kernel
theorem dTT_add_45 : decode cTT_add 45 = .ok (.iconst (-1), 1) := by decide +kernel
theorem dTT_add_46 : decode cTT_add 46 = .ok (.iastore, 1) := by decide +kernel
theorem dTT_add_47 : decode cTT_add 47 = .ok (.aload_n 0, 1) := by decide +kernel
theorem dTT_add_48 : decode cTT_add 48 = .ok (.dup, 1) := by decide +kernel
theorem dTT_add_49 : decode cTT_add 49 = .ok (.getfield 33, 3) := by decide +kernel
theorem dTT_add_52 : decode cTT_add 52 = .ok (.iconst 1, 1) := by decide +kernel
theorem dTT_add_53 : decode cTT_add 53 = .ok (.iadd, 1) := by decide +kernel
theorem dTT_add_54 : decode cTT_add 54 = .ok (.putfield 33, 3) := by decide +kernel
theorem dTT_add_57 : decode cTT_add 57 = .ok (.iload 5, 2) := by decide +kernel
theorem dTT_add_59 : decode cTT_add 59 = .ok (.ireturn, 1) := by decide +kernel
theorem dTT_putGuard_0 : decode cTT_putGuard 0 = .ok (.aload_n 0, 1) := by decide +kernel
theorem dTT_putGuard_1 : decode cTT_putGuard 1 = .ok (.getfield 24, 3) := by decide +kernel
theorem dTT_putGuard_4 : decode cTT_putGuard 4 = .ok (.iload_n 1, 1) := by decide +kernel
theorem dTT_putGuard_5 : decode cTT_putGuard 5 = .ok (.iload_n 3, 1) := by decide +kernel
theorem dTT_putGuard_6 : decode cTT_putGuard 6 = .ok (.iastore, 1) := by decide +kernel
theorem dTT_putGuard_7 : decode cTT_putGuard 7 = .ok (.aload_n 0, 1) := by decide +kernel
theorem dTT_putGuard_8 : decode cTT_putGuard 8 = .ok (.getfield 27, 3) := by decide +kernel
theorem dTT_putGuard_11 : decode cTT_putGuard 11 = .ok (.iload_n 1, 1) := by decide +kernel
theorem dTT_putGuard_12 : decode cTT_putGuard 12 = .ok (.iload_n 2, 1) := by decide +kernel
theorem dTT_putGuard_13 : decode cTT_putGuard 13 = .ok (.iastore, 1) := by decide +kernel
theorem dTT_putGuard_14 : decode cTT_putGuard 14 = .ok (.aload_n 0, 1) := by decide +kernel
theorem dTT_putGuard_15 : decode cTT_putGuard 15 = .ok (.getfield 30, 3) := by decide +kernel
theorem dTT_putGuard_18 : decode cTT_putGuard 18 = .ok (.iload_n 1, 1) := by decide +kernel
theorem dTT_putGuard_19 : decode cTT_putGuard 19 = .ok (.iload 4, 2) := by decide +kernel
theorem dTT_putGuard_21 : decode cTT_putGuard 21 = .ok (.iastore, 1) := by decide +kernel
theorem dTT_putGuard_22 : decode cTT_putGuard 22 = .ok (.return_, 1) := by decide +kernel
theorem dAR_fill_0 : decode cAR_fill 0 = .ok (.iconst 0, 1) := by decide +kernel
theorem dAR_fill_1 : decode cAR_fill 1 = .ok (.istore_n 2, 1) := by decide +kernel
theorem dAR_fill_2 : decode cAR_fill 2 = .ok (.aload_n 0, 1) := by decide +kernel
theorem dAR_fill_3 : decode cAR_fill 3 = .ok (.arraylength, 1) := by decide +kernel
theorem dAR_fill_4 : decode cAR_fill 4 = .ok (.istore_n 3, 1) := by decide +kernel
theorem dAR_fill_5 : decode cAR_fill 5 = .ok (.iload_n 2, 1) := by decide +kernel
theorem dAR_fill_6 : decode cAR_fill 6 = .ok (.iload_n 3, 1) := by decide +kernel
theorem dAR_fill_7 : decode cAR_fill 7 = .ok (.if_icmp .ge 13, 3) := by decide +kernel
theorem dAR_fill_10 : decode cAR_fill 10 = .ok (.aload_n 0, 1) := by decide +kernel
theorem dAR_fill_11 : decode cAR_fill 11 = .ok (.iload_n 2, 1) := by decide +kernel
theorem dAR_fill_12 : decode cAR_fill 12 = .ok (.iload_n 1, 1) := by decide +kernel
theorem dAR_fill_13 : decode cAR_fill 13 = .ok (.iastore, 1) := by decide +kernel
theorem dAR_fill_14 : decode cAR_fill 14 = .ok (.iinc 2 1, 3) := by decide +kernel
theorem dAR_fill_17 : decode cAR_fill 17 = .ok (.goto (-12), 3) := by decide +kernel
theorem dAR_fill_20 : decode cAR_fill 20 = .ok (.return_, 1) := by decide +kernel
