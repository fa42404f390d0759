theorem dMC_init_0 : decode cMC_init 0 = .ok (.aload_n 0, 1) := by decide +kernel
theorem dMC_init_1 : decode cMC_init 1 = .ok (.invokespecial 1, 3) := by decide +kernel
theorem dMC_init_4 : decode cMC_init 4 = .ok (.aload_n 0, 1) := by decide +kernel
theorem dMC_init_5 : decode cMC_init 5 = .ok (.new 7, 3) := by decide +kernel
theorem dMC_init_8 : decode cMC_init 8 = .ok (.dup, 1) := by decide +kernel
theorem dMC_init_9 : decode cMC_init 9 = .ok (.invokespecial 9, 3) := by decide +kernel
theorem dMC_init_12 : decode cMC_init 12 = .ok (.putfield 10, 3) := by decide +kernel
theorem dMC_init_15 : decode cMC_init 15 = .ok (.aload_n 0, 1) := by decide +kernel
theorem dMC_init_16 : decode cMC_init 16 = .ok (.new 16, 3) := by decide +kernel
theorem dMC_init_19 : decode cMC_init 19 = .ok (.dup, 1) := by decide +kernel
theorem dMC_init_20 : decode cMC_init 20 = .ok (.invokespecial 18, 3) := by decide +kernel
theorem dMC_init_23 : decode cMC_init 23 = .ok (.putfield 19, 3) := by decide +kernel
theorem dMC_init_26 : decode cMC_init 26 = .ok (.aload_n 0, 1) := by decide +kernel
theorem dMC_init_27 : decode cMC_init 27 = .ok (.new 23, 3) := by decide +kernel
theorem dMC_init_30 : decode cMC_init 30 = .ok (.dup, 1) := by decide +kernel
theorem dMC_init_31 : decode cMC_init 31 = .ok (.invokespecial 25, 3) := by decide +kernel
theorem dMC_init_34 : decode cMC_init 34 = .ok (.putfield 26, 3) := by decide +kernel
theorem dMC_init_37 : decode cMC_init 37 = .ok (.aload_n 0, 1) := by decide +kernel
theorem dMC_init_38 : decode cMC_init 38 = .ok (.new 30, 3) := by decide +kernel
theorem dMC_init_41 : decode cMC_init 41 = .ok (.dup, 1) := by decide +kernel
theorem dMC_init_42 : decode cMC_init 42 = .ok (.aload_n 0, 1) := by decide +kernel
theorem dMC_init_43 : decode cMC_init 43 = .ok (.getfield 10, 3) := by decide +kernel
theorem dMC_init_46 : decode cMC_init 46 = .ok (.aload_n 0, 1) := by decide +kernel
theorem dMC_init_47 : decode cMC_init 47 = .ok (.getfield 19, 3) := by decide +kernel
theorem dMC_init_50 : decode cMC_init 50 = .ok (.aload_n 0, 1) := by decide +kernel
theorem dMC_init_51 : decode cMC_init 51 = .ok (.getfield 26, 3) := by decide +kernel
theorem dMC_init_54 : decode cMC_init 54 = .ok (.invokespecial 32, 3) := by decide +kernel
theorem dMC_init_57 : decode cMC_init 57 = .ok (.putfield 35, 3) := by decide +kernel
theorem dMC_init_60 : decode cMC_init 60 = .ok (.return_, 1) := by decide +kernel
theorem dMC_state_0 : decode cMC_state 0 = .ok (.aload_n 0, 1) := by decide +kernel
theorem dMC_state_1 : decode cMC_state 1 = .ok (.invokevirtual 39, 3) := by decide +kernel
theorem dMC_state_4 : decode cMC_state 4 = .ok (.ifCond .eq 15, 3) := by decide +kernel
theorem dMC_state_7 : decode cMC_state 7 = .ok (.aload_n 0, 1) := by decide +kernel
theorem dMC_state_8 : decode cMC_state 8 = .ok (.getfield 10, 3) := by decide +kernel
theorem dMC_state_11 : decode cMC_state 11 = .ok (.iload_n 1, 1) := by decide +kernel
theorem dMC_state_12 : decode cMC_state 12 = .ok (.iload_n 2, 1) := by decide +kernel
theorem dMC_state_13 : decode cMC_state 13 = .ok (.invokevirtual 43, 3) := by decide +kernel
theorem dMC_state_16 : decode cMC_state 16 = .ok (.ifCond .ne 5, 3) := by decide +kernel
theorem dMC_state_19 : decode cMC_state 19 = .ok (.iconst (-1), 1) := by decide +kernel
theorem dMC_state_20 : decode cMC_state 20 = .ok (.ireturn, 1) := by decide +kernel
theorem dMC_state_21 : decode cMC_state 21 = .ok (.aload_n 0, 1) := by decide +kernel
theorem dMC_state_22 : decode cMC_state 22 = .ok (.getfield 10, 3) := by decide +kernel
theorem dMC_state_25 : decode cMC_state 25 = .ok (.getfield 47, 3) := by decide +kernel
theorem dMC_state_28 : decode cMC_state 28 = .ok (.bipush 15, 2) := by decide +kernel
theorem dMC_state_30 : decode cMC_state 30 = .ok (.if_icmp .ne 6, 3) := by decide +kernel
theorem dMC_state_33 : decode cMC_state 33 = .ok (.bipush (-2), 2) := by decide +kernel
theorem dMC_state_35 : decode cMC_state 35 = .ok (.ireturn, 1) := by decide +kernel
theorem dMC_state_36 : decode cMC_state 36 = .ok (.aload_n 0, 1) := by decide +kernel
theorem dMC_state_37 : decode cMC_state 37 = .ok (.getfield 10, 3) := by decide +kernel
theorem dMC_state_40 : decode cMC_state 40 = .ok (.iload_n 1, 1) := by decide +kernel
theorem dMC_state_41 : decode cMC_state 41 = .ok (.iload_n 2, 1) := by decide +kernel
theorem dMC_state_42 : decode cMC_state 42 = .ok (.invokevirtual 51, 3) := by decide +kernel
theorem dMC_state_45 : decode cMC_state 45 = .ok (.ireturn, 1) := by decide +kernel
theorem dMC_initial_0 : decode cMC_initial 0 = .ok (.aload_n 0, 1) := by decide +kernel
theorem dMC_initial_1 : decode cMC_initial 1 = .ok (.invokevirtual 39, 3) := by decide +kernel
theorem dMC_initial_4 : decode cMC_initial 4 = .ok (.ifCond .eq 35, 3) := by decide +kernel
theorem dMC_initial_7 : decode cMC_initial 7 = .ok (.aload_n 0, 1) := by decide +kernel
theorem dMC_initial_8 : decode cMC_initial 8 = .ok (.getfield 10, 3) := by decide +kernel
theorem dMC_initial_11 : decode cMC_initial 11 = .ok (.iload_n 1, 1) := by decide +kernel
theorem dMC_initial_12 : decode cMC_initial 12 = .ok (.invokevirtual 55, 3) := by decide +kernel
theorem dMC_initial_15 : decode cMC_initial 15 = .ok (.ifCond .eq 24, 3) := by decide +kernel
theorem dMC_initial_18 : decode cMC_initial 18 = .ok (.aload_n 0, 1) := by decide +kernel
theorem dMC_initial_19 : decode cMC_initial 19 = .ok (.getfield 10, 3) := by decide +kernel
theorem dMC_initial_22 : decode cMC_initial 22 = .ok (.getfield 59, 3) := by decide +kernel
theorem dMC_initial_25 : decode cMC_initial 25 = .ok (.aload_n 0, 1) := by decide +kernel
theorem dMC_initial_26 : decode cMC_initial 26 = .ok (.getfield 10, 3) := by decide +kernel
theorem dMC_initial_29 : decode cMC_initial 29 = .ok (.getfield 63, 3) := by decide +kernel
theorem dMC_initial_32 : decode cMC_initial 32 = .ok (.iload_n 1, 1) := by decide +kernel
theorem dMC_initial_33 : decode cMC_initial 33 = .ok (.iaload, 1) := by decide +kernel
theorem dMC_initial_34 : decode cMC_initial 34 = .ok (.iaload, 1) := by decide +kernel
theorem dMC_initial_35 : decode cMC_initial 35 = .ok (.iconst 1, 1) := by decide +kernel
theorem dMC_initial_36 : decode cMC_initial 36 = .ok (.if_icmp .eq 5, 3) := by decide +kernel
theorem dMC_initial_39 : decode cMC_initial 39 = .ok (.iconst 0, 1) := by decide +kernel
theorem dMC_initial_40 : decode cMC_initial 40 = .ok (.ireturn, 1) := by decide +kernel
theorem dMC_initial_41 : decode cMC_initial 41 = .ok (.aload_n 0, 1) := by decide +kernel
theorem dMC_initial_42 : decode cMC_initial 42 = .ok (.getfield 10, 3) := by decide +kernel
theorem dMC_initial_45 : decode cMC_initial 45 = .ok (.getfield 66, 3) := by decide +kernel
theorem dMC_initial_48 : decode cMC_initial 48 = .ok (.aload_n 0, 1) := by decide +kernel
theorem dMC_initial_49 : decode cMC_initial 49 = .ok (.getfield 10, 3) := by decide +kernel
theorem dMC_initial_52 : decode cMC_initial 52 = .ok (.getfield 63, 3) := by decide +kernel
theorem dMC_initial_55 : decode cMC_initial 55 = .ok (.iload_n 1, 1) := by decide +kernel
theorem dMC_initial_56 : decode cMC_initial 56 = .ok (.iaload, 1) := by decide +kernel
theorem dMC_initial_57 : decode cMC_initial 57 = .ok (.iload_n 1, 1) := by decide +kernel
theorem dMC_initial_58 : decode cMC_initial 58 = .ok (.iastore, 1) := by decide +kernel
theorem dMC_initial_59 : decode cMC_initial 59 = .ok (.iconst 1, 1) := by decide +kernel
theorem dMC_initial_60 : decode cMC_initial 60 = .ok (.ireturn, 1) := by decide +kernel
theorem dMC_transition_0 : decode cMC_transition 0 = .ok (.aload_n 0, 1) := by decide +kernel
theorem dMC_transition_1 : decode cMC_transition 1 = .ok (.invokevirtual 39, 3) := by decide +kernel
theorem dMC_transition_4 : decode cMC_transition 4 = .ok (.ifCond .eq 27, 3) := by decide +kernel
theorem dMC_transition_7 : decode cMC_transition 7 = .ok (.aload_n 0, 1) := by decide +kernel
theorem dMC_transition_8 : decode cMC_transition 8 = .ok (.iload_n 1, 1) := by decide +kernel
theorem dMC_transition_9 : decode cMC_transition 9 = .ok (.invokevirtual 69, 3) := by decide +kernel
theorem dMC_transition_12 : decode cMC_transition 12 = .ok (.ifCond .eq 19, 3) := by decide +kernel
theorem dMC_transition_15 : decode cMC_transition 15 = .ok (.aload_n 0, 1) := by decide +kernel
theorem dMC_transition_16 : decode cMC_transition 16 = .ok (.iload_n 2, 1) := by decide +kernel
theorem dMC_transition_17 : decode cMC_transition 17 = .ok (.invokevirtual 72, 3) := by decide +kernel
theorem dMC_transition_20 : decode cMC_transition 20 = .ok (.ifCond .eq 11, 3) := by decide +kernel
theorem dMC_transition_23 : decode cMC_transition 23 = .ok (.aload_n 0, 1) := by decide +kernel
theorem dMC_transition_24 : decode cMC_transition 24 = .ok (.iload_n 3, 1) := by decide +kernel
theorem dMC_transition_25 : decode cMC_transition 25 = .ok (.invokevirtual 75, 3) := by decide +kernel
theorem dMC_transition_28 : decode cMC_transition 28 = .ok (.ifCond .ne 5, 3) := by decide +kernel
theorem dMC_transition_31 : decode cMC_transition 31 = .ok (.iconst (-1), 1) := by decide +kernel
theorem dMC_transition_32 : decode cMC_transition 32 = .ok (.ireturn, 1) := by decide +kernel
theorem dMC_transition_33 : decode cMC_transition 33 = .ok (.aload_n 0, 1) := by decide +kernel
theorem dMC_transition_34 : decode cMC_transition 34 = .ok (.getfield 19, 3) := by decide +kernel
theorem dMC_transition_37 : decode cMC_transition 37 = .ok (.getfield 78, 3) := by decide +kernel
theorem dMC_transition_40 : decode cMC_transition 40 = .ok (.bipush 20, 2) := by decide +kernel
theorem dMC_transition_42 : decode cMC_transition 42 = .ok (.if_icmp .ne 6, 3) := by decide +kernel
theorem dMC_transition_45 : decode cMC_transition 45 = .ok (.bipush (-2), 2) := by decide +kernel
theorem dMC_transition_47 : decode cMC_transition 47 = .ok (.ireturn, 1) := by decide +kernel
theorem dMC_transition_48 : decode cMC_transition 48 = .ok (.iload_n 3, 1) := by decide +kernel
theorem dMC_transition_49 : decode cMC_transition 49 = .ok (.iconst (-1), 1) := by decide +kernel
theorem dMC_transition_50 : decode cMC_transition 50 = .ok (.if_icmp .ne 7, 3) := by decide +kernel
theorem dMC_transition_53 : decode cMC_transition 53 = .ok (.iconst (-1), 1) := by decide +kernel
theorem dMC_transition_54 : decode cMC_transition 54 = .ok (.goto 12, 3) := by decide +kernel
theorem dMC_transition_57 : decode cMC_transition 57 = .ok (.aload_n 0, 1) := by decide +kernel
theorem dMC_transition_58 : decode cMC_transition 58 = .ok (.getfield 10, 3) := by decide +kernel
theorem dMC_transition_61 : decode cMC_transition 61 = .ok (.iload_n 1, 1) := by decide +kernel
theorem dMC_transition_62 : decode cMC_transition 62 = .ok (.iload_n 3, 1) := by decide +kernel
theorem dMC_transition_63 : decode cMC_transition 63 = .ok (.invokevirtual 79, 3) := by decide +kernel
theorem dMC_transition_66 : decode cMC_transition 66 = .ok (.istore 4, 2) := by decide +kernel
theorem dMC_transition_68 : decode cMC_transition 68 = .ok (.aload_n 0, 1) := by decide +kernel
theorem dMC_transition_69 : decode cMC_transition 69 = .ok (.getfield 19, 3) := by decide +kernel
theorem dMC_transition_72 : decode cMC_transition 72 = .ok (.iload_n 1, 1) := by decide +kernel
theorem dMC_transition_73 : decode cMC_transition 73 = .ok (.iload_n 2, 1) := by decide +kernel
theorem dMC_transition_74 : decode cMC_transition 74 = .ok (.iload_n 3, 1) := by decide +kernel
theorem dMC_transition_75 : decode cMC_transition 75 = .ok (.iload 4, 2) := by decide +kernel
theorem dMC_transition_77 : decode cMC_transition 77 = .ok (.invokevirtual 82, 3) := by decide +kernel
theorem dMC_transition_80 : decode cMC_transition 80 = .ok (.ireturn, 1) := by decide +kernel
theorem dMC_guard_0 : decode cMC_guard 0 = .ok (.aload_n 0, 1) := by decide +kernel
theorem dMC_guard_1 : decode cMC_guard 1 = .ok (.invokevirtual 39, 3) := by decide +kernel
theorem dMC_guard_4 : decode cMC_guard 4 = .ok (.ifCond .eq 25, 3) := by decide +kernel
theorem dMC_guard_7 : decode cMC_guard 7 = .ok (.aload_n 0, 1) := by decide +kernel
theorem dMC_guard_8 : decode cMC_guard 8 = .ok (.getfield 19, 3) := by decide +kernel
theorem dMC_guard_11 : decode cMC_guard 11 = .ok (.iload_n 1, 1) := by decide +kernel
theorem dMC_guard_12 : decode cMC_guard 12 = .ok (.invokevirtual 85, 3) := by decide +kernel
theorem dMC_guard_15 : decode cMC_guard 15 = .ok (.ifCond .eq 14, 3) := by decide +kernel
theorem dMC_guard_18 : decode cMC_guard 18 = .ok (.aload_n 0, 1) := by decide +kernel
theorem dMC_guard_19 : decode cMC_guard 19 = .ok (.iload_n 2, 1) := by decide +kernel
theorem dMC_guard_20 : decode cMC_guard 20 = .ok (.iload_n 3, 1) := by decide +kernel
theorem dMC_guard_21 : decode cMC_guard 21 = .ok (.iload 4, 2) := by decide +kernel
theorem dMC_guard_23 : decode cMC_guard 23 = .ok (.invokevirtual 88, 3) := by decide +kernel
theorem dMC_guard_26 : decode cMC_guard 26 = .ok (.ifCond .ne 5, 3) := by decide +kernel
theorem dMC_guard_29 : decode cMC_guard 29 = .ok (.iconst 0, 1) := by decide +kernel
theorem dMC_guard_30 : decode cMC_guard 30 = .ok (.ireturn, 1) := by decide +kernel
theorem dMC_guard_31 : decode cMC_guard 31 = .ok (.aload_n 0, 1) := by decide +kernel
theorem dMC_guard_32 : decode cMC_guard 32 = .ok (.getfield 19, 3) := by decide +kernel
theorem dMC_guard_35 : decode cMC_guard 35 = .ok (.iload_n 1, 1) := by decide +kernel
theorem dMC_guard_36 : decode cMC_guard 36 = .ok (.iload_n 2, 1) := by decide +kernel
theorem dMC_guard_37 : decode cMC_guard 37 = .ok (.iload_n 3, 1) := by decide +kernel
theorem dMC_guard_38 : decode cMC_guard 38 = .ok (.iload 4, 2) := by decide +kernel
theorem dMC_guard_40 : decode cMC_guard 40 = .ok (.invokevirtual 92, 3) := by decide +kernel
theorem dMC_guard_43 : decode cMC_guard 43 = .ok (.iconst 1, 1) := by decide +kernel
theorem dMC_guard_44 : decode cMC_guard 44 = .ok (.ireturn, 1) := by decide +kernel
theorem dMC_action_0 : decode cMC_action 0 = .ok (.aload_n 0, 1) := by decide +kernel
theorem dMC_action_1 : decode cMC_action 1 = .ok (.invokevirtual 39, 3) := by decide +kernel
theorem dMC_action_4 : decode cMC_action 4 = .ok (.ifCond .eq 33, 3) := by decide +kernel
theorem dMC_action_7 : decode cMC_action 7 = .ok (.aload_n 0, 1) := by decide +kernel
theorem dMC_action_8 : decode cMC_action 8 = .ok (.iload_n 1, 1) := by decide +kernel
theorem dMC_action_9 : decode cMC_action 9 = .ok (.invokevirtual 96, 3) := by decide +kernel
theorem dMC_action_12 : decode cMC_action 12 = .ok (.ifCond .eq 25, 3) := by decide +kernel
theorem dMC_action_15 : decode cMC_action 15 = .ok (.iload_n 2, 1) := by decide +kernel
theorem dMC_action_16 : decode cMC_action 16 = .ok (.iload_n 3, 1) := by decide +kernel
theorem dMC_action_17 : decode cMC_action 17 = .ok (.iload 4, 2) := by decide +kernel
theorem dMC_action_19 : decode cMC_action 19 = .ok (.invokestatic 99, 3) := by decide +kernel
theorem dMC_action_22 : decode cMC_action 22 = .ok (.ifCond .eq 15, 3) := by decide +kernel
theorem dMC_action_25 : decode cMC_action 25 = .ok (.aload_n 0, 1) := by decide +kernel
theorem dMC_action_26 : decode cMC_action 26 = .ok (.getfield 26, 3) := by decide +kernel
theorem dMC_action_29 : decode cMC_action 29 = .ok (.getfield 102, 3) := by decide +kernel
theorem dMC_action_32 : decode cMC_action 32 = .ok (.bipush 32, 2) := by decide +kernel
theorem dMC_action_34 : decode cMC_action 34 = .ok (.if_icmp .ne 5, 3) := by decide +kernel
theorem dMC_action_37 : decode cMC_action 37 = .ok (.iconst 0, 1) := by decide +kernel
theorem dMC_action_38 : decode cMC_action 38 = .ok (.ireturn, 1) := by decide +kernel
theorem dMC_action_39 : decode cMC_action 39 = .ok (.aload_n 0, 1) := by decide +kernel
theorem dMC_action_40 : decode cMC_action 40 = .ok (.getfield 26, 3) := by decide +kernel
theorem dMC_action_43 : decode cMC_action 43 = .ok (.iload_n 1, 1) := by decide +kernel
theorem dMC_action_44 : decode cMC_action 44 = .ok (.iload_n 2, 1) := by decide +kernel
theorem dMC_action_45 : decode cMC_action 45 = .ok (.iload_n 3, 1) := by decide +kernel
theorem dMC_action_46 : decode cMC_action 46 = .ok (.iload 4, 2) := by decide +kernel
theorem dMC_action_48 : decode cMC_action 48 = .ok (.invokevirtual 103, 3) := by decide +kernel
theorem dMC_action_51 : decode cMC_action 51 = .ok (.iconst 1, 1) := by decide +kernel
theorem dMC_action_52 : decode cMC_action 52 = .ok (.ireturn, 1) := by decide +kernel
theorem dMC_begin_0 : decode cMC_begin 0 = .ok (.aload_n 0, 1) := by decide +kernel
theorem dMC_begin_1 : decode cMC_begin 1 = .ok (.invokevirtual 39, 3) := by decide +kernel
theorem dMC_begin_4 : decode cMC_begin 4 = .ok (.ifCond .ne 5, 3) := by decide +kernel
theorem dMC_begin_7 : decode cMC_begin 7 = .ok (.iconst (-1), 1) := by decide +kernel
theorem dMC_begin_8 : decode cMC_begin 8 = .ok (.ireturn, 1) := by decide +kernel
theorem dMC_begin_9 : decode cMC_begin 9 = .ok (.aload_n 0, 1) := by decide +kernel
theorem dMC_begin_10 : decode cMC_begin 10 = .ok (.getfield 10, 3) := by decide +kernel
theorem dMC_begin_13 : decode cMC_begin 13 = .ok (.invokevirtual 105, 3) := by decide +kernel
theorem dMC_begin_16 : decode cMC_begin 16 = .ok (.ifCond .ne 6, 3) := by decide +kernel
theorem dMC_begin_19 : decode cMC_begin 19 = .ok (.bipush (-3), 2) := by decide +kernel
theorem dMC_begin_21 : decode cMC_begin 21 = .ok (.ireturn, 1) := by decide +kernel
theorem dMC_begin_22 : decode cMC_begin 22 = .ok (.aload_n 0, 1) := by decide +kernel
theorem dMC_begin_23 : decode cMC_begin 23 = .ok (.getfield 35, 3) := by decide +kernel
theorem dMC_begin_26 : decode cMC_begin 26 = .ok (.invokevirtual 108, 3) := by decide +kernel
theorem dMC_begin_29 : decode cMC_begin 29 = .ok (.aload_n 0, 1) := by decide +kernel
theorem dMC_begin_30 : decode cMC_begin 30 = .ok (.getfield 35, 3) := by decide +kernel
theorem dMC_begin_33 : decode cMC_begin 33 = .ok (.invokevirtual 111, 3) := by decide +kernel
theorem dMC_begin_36 : decode cMC_begin 36 = .ok (.aload_n 0, 1) := by decide +kernel
theorem dMC_begin_37 : decode cMC_begin 37 = .ok (.getfield 35, 3) := by decide +kernel
theorem dMC_begin_40 : decode cMC_begin 40 = .ok (.getfield 114, 3) := by decide +kernel
theorem dMC_begin_43 : decode cMC_begin 43 = .ok (.ireturn, 1) := by decide +kernel
theorem dMC_post_0 : decode cMC_post 0 = .ok (.aload_n 0, 1) := by decide +kernel
theorem dMC_post_1 : decode cMC_post 1 = .ok (.getfield 35, 3) := by decide +kernel
theorem dMC_post_4 : decode cMC_post 4 = .ok (.invokevirtual 117, 3) := by decide +kernel
theorem dMC_post_7 : decode cMC_post 7 = .ok (.ifCond .eq 28, 3) := by decide +kernel
theorem dMC_post_10 : decode cMC_post 10 = .ok (.iload_n 1, 1) := by decide +kernel
theorem dMC_post_11 : decode cMC_post 11 = .ok (.invokestatic 120, 3) := by decide +kernel
theorem dMC_post_14 : decode cMC_post 14 = .ok (.ifCond .eq 21, 3) := by decide +kernel
theorem dMC_post_17 : decode cMC_post 17 = .ok (.aload_n 0, 1) := by decide +kernel
theorem dMC_post_18 : decode cMC_post 18 = .ok (.getfield 35, 3) := by decide +kernel
theorem dMC_post_21 : decode cMC_post 21 = .ok (.getfield 123, 3) := by decide +kernel
theorem dMC_post_24 : decode cMC_post 24 = .ok (.iload_n 1, 1) := by decide +kernel
theorem dMC_post_25 : decode cMC_post 25 = .ok (.invokevirtual 127, 3) := by decide +kernel
theorem dMC_post_28 : decode cMC_post 28 = .ok (.ifCond .eq 7, 3) := by decide +kernel
theorem dMC_post_31 : decode cMC_post 31 = .ok (.iconst 1, 1) := by decide +kernel
theorem dMC_post_32 : decode cMC_post 32 = .ok (.goto 4, 3) := by decide +kernel
theorem dMC_post_35 : decode cMC_post 35 = .ok (.iconst 0, 1) := by decide +kernel
theorem dMC_post_36 : decode cMC_post 36 = .ok (.ireturn, 1) := by decide +kernel
theorem dMC_step_0 : decode cMC_step 0 = .ok (.aload_n 0, 1) := by decide +kernel
theorem dMC_step_1 : decode cMC_step 1 = .ok (.getfield 35, 3) := by decide +kernel
theorem dMC_step_4 : decode cMC_step 4 = .ok (.invokevirtual 117, 3) := by decide +kernel
theorem dMC_step_7 : decode cMC_step 7 = .ok (.ifCond .ne 5, 3) := by decide +kernel
theorem dMC_step_10 : decode cMC_step 10 = .ok (.iconst (-1), 1) := by decide +kernel
theorem dMC_step_11 : decode cMC_step 11 = .ok (.ireturn, 1) := by decide +kernel
theorem dMC_step_12 : decode cMC_step 12 = .ok (.aload_n 0, 1) := by decide +kernel
theorem dMC_step_13 : decode cMC_step 13 = .ok (.getfield 35, 3) := by decide +kernel
theorem dMC_step_16 : decode cMC_step 16 = .ok (.getfield 123, 3) := by decide +kernel
theorem dMC_step_19 : decode cMC_step 19 = .ok (.getfield 132, 3) := by decide +kernel
theorem dMC_step_22 : decode cMC_step 22 = .ok (.ifCond .ne 6, 3) := by decide +kernel
theorem dMC_step_25 : decode cMC_step 25 = .ok (.bipush (-4), 2) := by decide +kernel
theorem dMC_step_27 : decode cMC_step 27 = .ok (.ireturn, 1) := by decide +kernel
theorem dMC_step_28 : decode cMC_step 28 = .ok (.aload_n 0, 1) := by decide +kernel
theorem dMC_step_29 : decode cMC_step 29 = .ok (.getfield 35, 3) := by decide +kernel
theorem dMC_step_32 : decode cMC_step 32 = .ok (.invokevirtual 133, 3) := by decide +kernel
theorem dMC_step_35 : decode cMC_step 35 = .ok (.aload_n 0, 1) := by decide +kernel
theorem dMC_step_36 : decode cMC_step 36 = .ok (.getfield 35, 3) := by decide +kernel
theorem dMC_step_39 : decode cMC_step 39 = .ok (.invokevirtual 111, 3) := by decide +kernel
theorem dMC_step_42 : decode cMC_step 42 = .ok (.aload_n 0, 1) := by decide +kernel
theorem dMC_step_43 : decode cMC_step 43 = .ok (.getfield 35, 3) := by decide +kernel
theorem dMC_step_46 : decode cMC_step 46 = .ok (.getfield 114, 3) := by decide +kernel
theorem dMC_step_49 : decode cMC_step 49 = .ok (.ireturn, 1) := by decide +kernel
theorem dMC_tick_0 : decode cMC_tick 0 = .ok (.aload_n 0, 1) := by decide +kernel
theorem dMC_tick_1 : decode cMC_tick 1 = .ok (.getfield 35, 3) := by decide +kernel
theorem dMC_tick_4 : decode cMC_tick 4 = .ok (.invokevirtual 117, 3) := by decide +kernel
theorem dMC_tick_7 : decode cMC_tick 7 = .ok (.ifCond .eq 14, 3) := by decide +kernel
theorem dMC_tick_10 : decode cMC_tick 10 = .ok (.iload_n 1, 1) := by decide +kernel
theorem dMC_tick_11 : decode cMC_tick 11 = .ok (.iconst 1, 1) := by decide +kernel
theorem dMC_tick_12 : decode cMC_tick 12 = .ok (.if_icmp .lt 9, 3) := by decide +kernel
theorem dMC_tick_15 : decode cMC_tick 15 = .ok (.iload_n 1, 1) := by decide +kernel
theorem dMC_tick_16 : decode cMC_tick 16 = .ok (.bipush 50, 2) := by decide +kernel
theorem dMC_tick_18 : decode cMC_tick 18 = .ok (.if_icmp .le 5, 3) := by decide +kernel
theorem dMC_tick_21 : decode cMC_tick 21 = .ok (.iconst (-1), 1) := by decide +kernel
theorem dMC_tick_22 : decode cMC_tick 22 = .ok (.ireturn, 1) := by decide +kernel
theorem dMC_tick_23 : decode cMC_tick 23 = .ok (.aload_n 0, 1) := by decide +kernel
theorem dMC_tick_24 : decode cMC_tick 24 = .ok (.getfield 35, 3) := by decide +kernel
theorem dMC_tick_27 : decode cMC_tick 27 = .ok (.iload_n 1, 1) := by decide +kernel
theorem dMC_tick_28 : decode cMC_tick 28 = .ok (.invokevirtual 136, 3) := by decide +kernel
theorem dMC_tick_31 : decode cMC_tick 31 = .ok (.aload_n 0, 1) := by decide +kernel
theorem dMC_tick_32 : decode cMC_tick 32 = .ok (.getfield 35, 3) := by decide +kernel
theorem dMC_tick_35 : decode cMC_tick 35 = .ok (.getfield 140, 3) := by decide +kernel
theorem dMC_tick_38 : decode cMC_tick 38 = .ok (.ireturn, 1) := by decide +kernel
theorem dMC_reset_0 : decode cMC_reset 0 = .ok (.aload_n 0, 1) := by decide +kernel
theorem dMC_reset_1 : decode cMC_reset 1 = .ok (.getfield 35, 3) := by decide +kernel
theorem dMC_reset_4 : decode cMC_reset 4 = .ok (.iconst 0, 1) := by decide +kernel
theorem dMC_reset_5 : decode cMC_reset 5 = .ok (.putfield 143, 3) := by decide +kernel
theorem dMC_reset_8 : decode cMC_reset 8 = .ok (.return_, 1) := by decide +kernel
theorem dMC_outcome_0 : decode cMC_outcome 0 = .ok (.aload_n 0, 1) := by decide +kernel
theorem dMC_outcome_1 : decode cMC_outcome 1 = .ok (.getfield 35, 3) := by decide +kernel
theorem dMC_outcome_4 : decode cMC_outcome 4 = .ok (.getfield 143, 3) := by decide +kernel
theorem dMC_outcome_7 : decode cMC_outcome 7 = .ok (.ireturn, 1) := by decide +kernel
theorem dMC_active_0 : decode cMC_active 0 = .ok (.aload_n 0, 1) := by decide +kernel
theorem dMC_active_1 : decode cMC_active 1 = .ok (.invokevirtual 39, 3) := by decide +kernel
theorem dMC_active_4 : decode cMC_active 4 = .ok (.ifCond .eq 7, 3) := by decide +kernel
theorem dMC_active_7 : decode cMC_active 7 = .ok (.iconst 0, 1) := by decide +kernel
theorem dMC_active_8 : decode cMC_active 8 = .ok (.goto 13, 3) := by decide +kernel
theorem dMC_active_11 : decode cMC_active 11 = .ok (.aload_n 0, 1) := by decide +kernel
theorem dMC_active_12 : decode cMC_active 12 = .ok (.getfield 35, 3) := by decide +kernel
theorem dMC_active_15 : decode cMC_active 15 = .ok (.getfield 146, 3) := by decide +kernel
theorem dMC_active_18 : decode cMC_active 18 = .ok (.getfield 150, 3) := by decide +kernel
theorem dMC_active_21 : decode cMC_active 21 = .ok (.ireturn, 1) := by decide +kernel
theorem dMC_remembered_0 : decode cMC_remembered 0 = .ok (.aload_n 0, 1) := by decide +kernel
theorem dMC_remembered_1 : decode cMC_remembered 1 = .ok (.invokevirtual 39, 3) := by decide +kernel
theorem dMC_remembered_4 : decode cMC_remembered 4 = .ok (.ifCond .ne 14, 3) := by decide +kernel
theorem dMC_remembered_7 : decode cMC_remembered 7 = .ok (.aload_n 0, 1) := by decide +kernel
theorem dMC_remembered_8 : decode cMC_remembered 8 = .ok (.getfield 10, 3) := by decide +kernel
theorem dMC_remembered_11 : decode cMC_remembered 11 = .ok (.iload_n 1, 1) := by decide +kernel
theorem dMC_remembered_12 : decode cMC_remembered 12 = .ok (.invokevirtual 155, 3) := by decide +kernel
theorem dMC_remembered_15 : decode cMC_remembered 15 = .ok (.ifCond .ne 5, 3) := by decide +kernel
theorem dMC_remembered_18 : decode cMC_remembered 18 = .ok (.iconst 0, 1) := by decide +kernel
theorem dMC_remembered_19 : decode cMC_remembered 19 = .ok (.ireturn, 1) := by decide +kernel
theorem dMC_remembered_20 : decode cMC_remembered 20 = .ok (.aload_n 0, 1) := by decide +kernel
theorem dMC_remembered_21 : decode cMC_remembered 21 = .ok (.getfield 35, 3) := by decide +kernel
theorem dMC_remembered_24 : decode cMC_remembered 24 = .ok (.getfield 158, 3) := by decide +kernel
theorem dMC_remembered_27 : decode cMC_remembered 27 = .ok (.iload_n 1, 1) := by decide +kernel
theorem dMC_remembered_28 : decode cMC_remembered 28 = .ok (.iaload, 1) := by decide +kernel
theorem dMC_remembered_29 : decode cMC_remembered 29 = .ok (.ireturn, 1) := by decide +kernel
theorem dMC_variable_0 : decode cMC_variable 0 = .ok (.aload_n 0, 1) := by decide +kernel
theorem dMC_variable_1 : decode cMC_variable 1 = .ok (.invokevirtual 39, 3) := by decide +kernel
theorem dMC_variable_4 : decode cMC_variable 4 = .ok (.ifCond .ne 10, 3) := by decide +kernel
theorem dMC_variable_7 : decode cMC_variable 7 = .ok (.iload_n 1, 1) := by decide +kernel
theorem dMC_variable_8 : decode cMC_variable 8 = .ok (.invokestatic 161, 3) := by decide +kernel
theorem dMC_variable_11 : decode cMC_variable 11 = .ok (.ifCond .ne 7, 3) := by decide +kernel
theorem dMC_variable_14 : decode cMC_variable 14 = .ok (.iconst 0, 1) := by decide +kernel
theorem dMC_variable_15 : decode cMC_variable 15 = .ok (.goto 15, 3) := by decide +kernel
theorem dMC_variable_18 : decode cMC_variable 18 = .ok (.aload_n 0, 1) := by decide +kernel
theorem dMC_variable_19 : decode cMC_variable 19 = .ok (.getfield 35, 3) := by decide +kernel
theorem dMC_variable_22 : decode cMC_variable 22 = .ok (.getfield 146, 3) := by decide +kernel
theorem dMC_variable_25 : decode cMC_variable 25 = .ok (.getfield 164, 3) := by decide +kernel
theorem dMC_variable_28 : decode cMC_variable 28 = .ok (.iload_n 1, 1) := by decide +kernel
theorem dMC_variable_29 : decode cMC_variable 29 = .ok (.iaload, 1) := by decide +kernel
theorem dMC_variable_30 : decode cMC_variable 30 = .ok (.ireturn, 1) := by decide +kernel
theorem dMC_listed_0 : decode cMC_listed 0 = .ok (.aload_n 0, 1) := by decide +kernel
theorem dMC_listed_1 : decode cMC_listed 1 = .ok (.invokevirtual 39, 3) := by decide +kernel
theorem dMC_listed_4 : decode cMC_listed 4 = .ok (.ifCond .eq 7, 3) := by decide +kernel
theorem dMC_listed_7 : decode cMC_listed 7 = .ok (.iconst (-1), 1) := by decide +kernel
theorem dMC_listed_8 : decode cMC_listed 8 = .ok (.goto 14, 3) := by decide +kernel
theorem dMC_listed_11 : decode cMC_listed 11 = .ok (.aload_n 0, 1) := by decide +kernel
theorem dMC_listed_12 : decode cMC_listed 12 = .ok (.getfield 35, 3) := by decide +kernel
theorem dMC_listed_15 : decode cMC_listed 15 = .ok (.getfield 167, 3) := by decide +kernel
theorem dMC_listed_18 : decode cMC_listed 18 = .ok (.iload_n 1, 1) := by decide +kernel
theorem dMC_listed_19 : decode cMC_listed 19 = .ok (.invokevirtual 170, 3) := by decide +kernel
theorem dMC_listed_22 : decode cMC_listed 22 = .ok (.ireturn, 1) := by decide +kernel
theorem dMC_waiting_0 : decode cMC_waiting 0 = .ok (.iload_n 1, 1) := by decide +kernel
theorem dMC_waiting_1 : decode cMC_waiting 1 = .ok (.ifCond .lt 8, 3) := by decide +kernel
theorem dMC_waiting_4 : decode cMC_waiting 4 = .ok (.iload_n 1, 1) := by decide +kernel
theorem dMC_waiting_5 : decode cMC_waiting 5 = .ok (.iconst 2, 1) := by decide +kernel
theorem dMC_waiting_6 : decode cMC_waiting 6 = .ok (.if_icmp .le 5, 3) := by decide +kernel
theorem dMC_waiting_9 : decode cMC_waiting 9 = .ok (.iconst (-1), 1) := by decide +kernel
theorem dMC_waiting_10 : decode cMC_waiting 10 = .ok (.ireturn, 1) := by decide +kernel
theorem dMC_waiting_11 : decode cMC_waiting 11 = .ok (.aload_n 0, 1) := by decide +kernel
theorem dMC_waiting_12 : decode cMC_waiting 12 = .ok (.invokevirtual 39, 3) := by decide +kernel
theorem dMC_waiting_15 : decode cMC_waiting 15 = .ok (.ifCond .eq 5, 3) := by decide +kernel
theorem dMC_waiting_18 : decode cMC_waiting 18 = .ok (.iconst 0, 1) := by decide +kernel
theorem dMC_waiting_19 : decode cMC_waiting 19 = .ok (.ireturn, 1) := by decide +kernel
theorem dMC_waiting_20 : decode cMC_waiting 20 = .ok (.iload_n 1, 1) := by decide +kernel
theorem dMC_waiting_21 : decode cMC_waiting 21 = .ok (.iconst 2, 1) := by decide +kernel
theorem dMC_waiting_22 : decode cMC_waiting 22 = .ok (.if_icmp .ne 14, 3) := by decide +kernel
theorem dMC_waiting_25 : decode cMC_waiting 25 = .ok (.aload_n 0, 1) := by decide +kernel
theorem dMC_waiting_26 : decode cMC_waiting 26 = .ok (.getfield 35, 3) := by decide +kernel
theorem dMC_waiting_29 : decode cMC_waiting 29 = .ok (.getfield 174, 3) := by decide +kernel
theorem dMC_waiting_32 : decode cMC_waiting 32 = .ok (.getfield 178, 3) := by decide +kernel
theorem dMC_waiting_35 : decode cMC_waiting 35 = .ok (.ireturn, 1) := by decide +kernel
theorem dMC_waiting_36 : decode cMC_waiting 36 = .ok (.iload_n 1, 1) := by decide +kernel
theorem dMC_waiting_37 : decode cMC_waiting 37 = .ok (.ifCond .ne 16, 3) := by decide +kernel
theorem dMC_waiting_40 : decode cMC_waiting 40 = .ok (.aload_n 0, 1) := by decide +kernel
theorem dMC_waiting_41 : decode cMC_waiting 41 = .ok (.getfield 35, 3) := by decide +kernel
theorem dMC_waiting_44 : decode cMC_waiting 44 = .ok (.getfield 181, 3) := by decide +kernel
theorem dMC_waiting_47 : decode cMC_waiting 47 = .ok (.getfield 132, 3) := by decide +kernel
theorem dMC_waiting_50 : decode cMC_waiting 50 = .ok (.goto 13, 3) := by decide +kernel
theorem dMC_waiting_53 : decode cMC_waiting 53 = .ok (.aload_n 0, 1) := by decide +kernel
theorem dMC_waiting_54 : decode cMC_waiting 54 = .ok (.getfield 35, 3) := by decide +kernel
theorem dMC_waiting_57 : decode cMC_waiting 57 = .ok (.getfield 123, 3) := by decide +kernel
theorem dMC_waiting_60 : decode cMC_waiting 60 = .ok (.getfield 132, 3) := by decide +kernel
theorem dMC_waiting_63 : decode cMC_waiting 63 = .ok (.ireturn, 1) := by decide +kernel
theorem dMC_isBuilding_0 : decode cMC_isBuilding 0 = .ok (.aload_n 0, 1) := by decide +kernel
theorem dMC_isBuilding_1 : decode cMC_isBuilding 1 = .ok (.getfield 35, 3) := by decide +kernel
theorem dMC_isBuilding_4 : decode cMC_isBuilding 4 = .ok (.getfield 143, 3) := by decide +kernel
theorem dMC_isBuilding_7 : decode cMC_isBuilding 7 = .ok (.ifCond .ne 7, 3) := by decide +kernel
theorem dMC_isBuilding_10 : decode cMC_isBuilding 10 = .ok (.iconst 1, 1) := by decide +kernel
theorem dMC_isBuilding_11 : decode cMC_isBuilding 11 = .ok (.goto 4, 3) := by decide +kernel
theorem dMC_isBuilding_14 : decode cMC_isBuilding 14 = .ok (.iconst 0, 1) := by decide +kernel
theorem dMC_isBuilding_15 : decode cMC_isBuilding 15 = .ok (.ireturn, 1) := by decide +kernel
theorem dMC_maySource_0 : decode cMC_maySource 0 = .ok (.aload_n 0, 1) := by decide +kernel
theorem dMC_maySource_1 : decode cMC_maySource 1 = .ok (.getfield 10, 3) := by decide +kernel
theorem dMC_maySource_4 : decode cMC_maySource 4 = .ok (.iload_n 1, 1) := by decide +kernel
theorem dMC_maySource_5 : decode cMC_maySource 5 = .ok (.invokevirtual 55, 3) := by decide +kernel
theorem dMC_maySource_8 : decode cMC_maySource 8 = .ok (.ifCond .eq 20, 3) := by decide +kernel
theorem dMC_maySource_11 : decode cMC_maySource 11 = .ok (.aload_n 0, 1) := by decide +kernel
theorem dMC_maySource_12 : decode cMC_maySource 12 = .ok (.getfield 10, 3) := by decide +kernel
theorem dMC_maySource_15 : decode cMC_maySource 15 = .ok (.getfield 59, 3) := by decide +kernel
theorem dMC_maySource_18 : decode cMC_maySource 18 = .ok (.iload_n 1, 1) := by decide +kernel
theorem dMC_maySource_19 : decode cMC_maySource 19 = .ok (.iaload, 1) := by decide +kernel
theorem dMC_maySource_20 : decode cMC_maySource 20 = .ok (.iconst 3, 1) := by decide +kernel
theorem dMC_maySource_21 : decode cMC_maySource 21 = .ok (.if_icmp .eq 7, 3) := by decide +kernel
theorem dMC_maySource_24 : decode cMC_maySource 24 = .ok (.iconst 1, 1) := by decide +kernel
theorem dMC_maySource_25 : decode cMC_maySource 25 = .ok (.goto 4, 3) := by decide +kernel
theorem dMC_maySource_28 : decode cMC_maySource 28 = .ok (.iconst 0, 1) := by decide +kernel
theorem dMC_maySource_29 : decode cMC_maySource 29 = .ok (.ireturn, 1) := by decide +kernel
theorem dMC_mayAwait_0 : decode cMC_mayAwait 0 = .ok (.iload_n 1, 1) := by decide +kernel
theorem dMC_mayAwait_1 : decode cMC_mayAwait 1 = .ok (.ifCond .eq 24, 3) := by decide +kernel
theorem dMC_mayAwait_4 : decode cMC_mayAwait 4 = .ok (.iload_n 1, 1) := by decide +kernel
theorem dMC_mayAwait_5 : decode cMC_mayAwait 5 = .ok (.invokestatic 120, 3) := by decide +kernel
theorem dMC_mayAwait_8 : decode cMC_mayAwait 8 = .ok (.ifCond .ne 17, 3) := by decide +kernel
theorem dMC_mayAwait_11 : decode cMC_mayAwait 11 = .ok (.aload_n 0, 1) := by decide +kernel
theorem dMC_mayAwait_12 : decode cMC_mayAwait 12 = .ok (.getfield 10, 3) := by decide +kernel
theorem dMC_mayAwait_15 : decode cMC_mayAwait 15 = .ok (.iload_n 1, 1) := by decide +kernel
theorem dMC_mayAwait_16 : decode cMC_mayAwait 16 = .ok (.bipush 100, 2) := by decide +kernel
theorem dMC_mayAwait_18 : decode cMC_mayAwait 18 = .ok (.isub, 1) := by decide +kernel
theorem dMC_mayAwait_19 : decode cMC_mayAwait 19 = .ok (.invokevirtual 55, 3) := by decide +kernel
theorem dMC_mayAwait_22 : decode cMC_mayAwait 22 = .ok (.ifCond .eq 7, 3) := by decide +kernel
theorem dMC_mayAwait_25 : decode cMC_mayAwait 25 = .ok (.iconst 1, 1) := by decide +kernel
theorem dMC_mayAwait_26 : decode cMC_mayAwait 26 = .ok (.goto 4, 3) := by decide +kernel
theorem dMC_mayAwait_29 : decode cMC_mayAwait 29 = .ok (.iconst 0, 1) := by decide +kernel
theorem dMC_mayAwait_30 : decode cMC_mayAwait 30 = .ok (.ireturn, 1) := by decide +kernel
theorem dMC_mayTarget_0 : decode cMC_mayTarget 0 = .ok (.iload_n 1, 1) := by decide +kernel
theorem dMC_mayTarget_1 : decode cMC_mayTarget 1 = .ok (.iconst (-1), 1) := by decide +kernel
theorem dMC_mayTarget_2 : decode cMC_mayTarget 2 = .ok (.if_icmp .eq 14, 3) := by decide +kernel
theorem dMC_mayTarget_5 : decode cMC_mayTarget 5 = .ok (.aload_n 0, 1) := by decide +kernel
theorem dMC_mayTarget_6 : decode cMC_mayTarget 6 = .ok (.getfield 10, 3) := by decide +kernel
theorem dMC_mayTarget_9 : decode cMC_mayTarget 9 = .ok (.iload_n 1, 1) := by decide +kernel
theorem dMC_mayTarget_10 : decode cMC_mayTarget 10 = .ok (.invokevirtual 155, 3) := by decide +kernel
theorem dMC_mayTarget_13 : decode cMC_mayTarget 13 = .ok (.ifCond .eq 7, 3) := by decide +kernel
theorem dMC_mayTarget_16 : decode cMC_mayTarget 16 = .ok (.iconst 1, 1) := by decide +kernel
theorem dMC_mayTarget_17 : decode cMC_mayTarget 17 = .ok (.goto 4, 3) := by decide +kernel
theorem dMC_mayTarget_20 : decode cMC_mayTarget 20 = .ok (.iconst 0, 1) := by decide +kernel
theorem dMC_mayTarget_21 : decode cMC_mayTarget 21 = .ok (.ireturn, 1) := by decide +kernel
theorem dMC_mayGuard_0 : decode cMC_mayGuard 0 = .ok (.iload_n 2, 1) := by decide +kernel
theorem dMC_mayGuard_1 : decode cMC_mayGuard 1 = .ok (.iconst 3, 1) := by decide +kernel
theorem dMC_mayGuard_2 : decode cMC_mayGuard 2 = .ok (.if_icmp .ne 24, 3) := by decide +kernel
theorem dMC_mayGuard_5 : decode cMC_mayGuard 5 = .ok (.iload_n 1, 1) := by decide +kernel
theorem dMC_mayGuard_6 : decode cMC_mayGuard 6 = .ok (.ifCond .ne 18, 3) := by decide +kernel
theorem dMC_mayGuard_9 : decode cMC_mayGuard 9 = .ok (.aload_n 0, 1) := by decide +kernel
theorem dMC_mayGuard_10 : decode cMC_mayGuard 10 = .ok (.getfield 10, 3) := by decide +kernel
theorem dMC_mayGuard_13 : decode cMC_mayGuard 13 = .ok (.iload_n 3, 1) := by decide +kernel
theorem dMC_mayGuard_14 : decode cMC_mayGuard 14 = .ok (.invokevirtual 55, 3) := by decide +kernel
theorem dMC_mayGuard_17 : decode cMC_mayGuard 17 = .ok (.ifCond .eq 7, 3) := by decide +kernel
theorem dMC_mayGuard_20 : decode cMC_mayGuard 20 = .ok (.iconst 1, 1) := by decide +kernel
theorem dMC_mayGuard_21 : decode cMC_mayGuard 21 = .ok (.goto 4, 3) := by decide +kernel
theorem dMC_mayGuard_24 : decode cMC_mayGuard 24 = .ok (.iconst 0, 1) := by decide +kernel
theorem dMC_mayGuard_25 : decode cMC_mayGuard 25 = .ok (.ireturn, 1) := by decide +kernel
theorem dMC_mayGuard_26 : decode cMC_mayGuard 26 = .ok (.iload_n 2, 1) := by decide +kernel
theorem dMC_mayGuard_27 : decode cMC_mayGuard 27 = .ok (.ifCond .lt 19, 3) := by decide +kernel
theorem dMC_mayGuard_30 : decode cMC_mayGuard 30 = .ok (.iload_n 2, 1) := by decide +kernel
theorem dMC_mayGuard_31 : decode cMC_mayGuard 31 = .ok (.iconst 2, 1) := by decide +kernel
theorem dMC_mayGuard_32 : decode cMC_mayGuard 32 = .ok (.if_icmp .gt 14, 3) := by decide +kernel
theorem dMC_mayGuard_35 : decode cMC_mayGuard 35 = .ok (.iload_n 1, 1) := by decide +kernel
theorem dMC_mayGuard_36 : decode cMC_mayGuard 36 = .ok (.invokestatic 161, 3) := by decide +kernel
theorem dMC_mayGuard_39 : decode cMC_mayGuard 39 = .ok (.ifCond .eq 7, 3) := by decide +kernel
theorem dMC_mayGuard_42 : decode cMC_mayGuard 42 = .ok (.iconst 1, 1) := by decide +kernel
theorem dMC_mayGuard_43 : decode cMC_mayGuard 43 = .ok (.goto 4, 3) := by decide +kernel
theorem dMC_mayGuard_46 : decode cMC_mayGuard 46 = .ok (.iconst 0, 1) := by decide +kernel
theorem dMC_mayGuard_47 : decode cMC_mayGuard 47 = .ok (.ireturn, 1) := by decide +kernel
theorem dMC_mayOwn_0 : decode cMC_mayOwn 0 = .ok (.aload_n 0, 1) := by decide +kernel
theorem dMC_mayOwn_1 : decode cMC_mayOwn 1 = .ok (.getfield 19, 3) := by decide +kernel
theorem dMC_mayOwn_4 : decode cMC_mayOwn 4 = .ok (.iload_n 1, 1) := by decide +kernel
theorem dMC_mayOwn_5 : decode cMC_mayOwn 5 = .ok (.invokevirtual 85, 3) := by decide +kernel
theorem dMC_mayOwn_8 : decode cMC_mayOwn 8 = .ok (.ifCond .ne 32, 3) := by decide +kernel
theorem dMC_mayOwn_11 : decode cMC_mayOwn 11 = .ok (.aload_n 0, 1) := by decide +kernel
theorem dMC_mayOwn_12 : decode cMC_mayOwn 12 = .ok (.getfield 10, 3) := by decide +kernel
theorem dMC_mayOwn_15 : decode cMC_mayOwn 15 = .ok (.iload_n 1, 1) := by decide +kernel
theorem dMC_mayOwn_16 : decode cMC_mayOwn 16 = .ok (.bipush 100, 2) := by decide +kernel
theorem dMC_mayOwn_18 : decode cMC_mayOwn 18 = .ok (.isub, 1) := by decide +kernel
theorem dMC_mayOwn_19 : decode cMC_mayOwn 19 = .ok (.invokevirtual 55, 3) := by decide +kernel
theorem dMC_mayOwn_22 : decode cMC_mayOwn 22 = .ok (.ifCond .ne 18, 3) := by decide +kernel
theorem dMC_mayOwn_25 : decode cMC_mayOwn 25 = .ok (.aload_n 0, 1) := by decide +kernel
theorem dMC_mayOwn_26 : decode cMC_mayOwn 26 = .ok (.getfield 10, 3) := by decide +kernel
theorem dMC_mayOwn_29 : decode cMC_mayOwn 29 = .ok (.iload_n 1, 1) := by decide +kernel
theorem dMC_mayOwn_30 : decode cMC_mayOwn 30 = .ok (.sipush 200, 3) := by decide +kernel
theorem dMC_mayOwn_33 : decode cMC_mayOwn 33 = .ok (.isub, 1) := by decide +kernel
theorem dMC_mayOwn_34 : decode cMC_mayOwn 34 = .ok (.invokevirtual 55, 3) := by decide +kernel
theorem dMC_mayOwn_37 : decode cMC_mayOwn 37 = .ok (.ifCond .eq 7, 3) := by decide +kernel
theorem dMC_mayOwn_40 : decode cMC_mayOwn 40 = .ok (.iconst 1, 1) := by decide +kernel
theorem dMC_mayOwn_41 : decode cMC_mayOwn 41 = .ok (.goto 4, 3) := by decide +kernel
theorem dMC_mayOwn_44 : decode cMC_mayOwn 44 = .ok (.iconst 0, 1) := by decide +kernel
theorem dMC_mayOwn_45 : decode cMC_mayOwn 45 = .ok (.ireturn, 1) := by decide +kernel
theorem dMC_mayDo_0 : decode cMC_mayDo 0 = .ok (.iload_n 0, 1) := by decide +kernel
theorem dMC_mayDo_1 : decode cMC_mayDo 1 = .ok (.tableswitch 76 0 3 #[31, 31, 36, 53], 31) := by decide +kernel
theorem dMC_mayDo_32 : decode cMC_mayDo 32 = .ok (.iload_n 1, 1) := by decide +kernel
theorem dMC_mayDo_33 : decode cMC_mayDo 33 = .ok (.invokestatic 161, 3) := by decide +kernel
theorem dMC_mayDo_36 : decode cMC_mayDo 36 = .ok (.ireturn, 1) := by decide +kernel
theorem dMC_mayDo_37 : decode cMC_mayDo 37 = .ok (.iload_n 1, 1) := by decide +kernel
theorem dMC_mayDo_38 : decode cMC_mayDo 38 = .ok (.invokestatic 120, 3) := by decide +kernel
theorem dMC_mayDo_41 : decode cMC_mayDo 41 = .ok (.ifCond .eq 11, 3) := by decide +kernel
theorem dMC_mayDo_44 : decode cMC_mayDo 44 = .ok (.iload_n 2, 1) := by decide +kernel
theorem dMC_mayDo_45 : decode cMC_mayDo 45 = .ok (.ifCond .ne 7, 3) := by decide +kernel
theorem dMC_mayDo_48 : decode cMC_mayDo 48 = .ok (.iconst 1, 1) := by decide +kernel
theorem dMC_mayDo_49 : decode cMC_mayDo 49 = .ok (.goto 4, 3) := by decide +kernel
theorem dMC_mayDo_52 : decode cMC_mayDo 52 = .ok (.iconst 0, 1) := by decide +kernel
theorem dMC_mayDo_53 : decode cMC_mayDo 53 = .ok (.ireturn, 1) := by decide +kernel
theorem dMC_mayDo_54 : decode cMC_mayDo 54 = .ok (.iload_n 1, 1) := by decide +kernel
theorem dMC_mayDo_55 : decode cMC_mayDo 55 = .ok (.invokestatic 120, 3) := by decide +kernel
theorem dMC_mayDo_58 : decode cMC_mayDo 58 = .ok (.ifCond .eq 17, 3) := by decide +kernel
theorem dMC_mayDo_61 : decode cMC_mayDo 61 = .ok (.iload_n 2, 1) := by decide +kernel
theorem dMC_mayDo_62 : decode cMC_mayDo 62 = .ok (.ifCond .lt 13, 3) := by decide +kernel
theorem dMC_mayDo_65 : decode cMC_mayDo 65 = .ok (.iload_n 2, 1) := by decide +kernel
theorem dMC_mayDo_66 : decode cMC_mayDo 66 = .ok (.bipush 50, 2) := by decide +kernel
theorem dMC_mayDo_68 : decode cMC_mayDo 68 = .ok (.if_icmp .gt 7, 3) := by decide +kernel
theorem dMC_mayDo_71 : decode cMC_mayDo 71 = .ok (.iconst 1, 1) := by decide +kernel
theorem dMC_mayDo_72 : decode cMC_mayDo 72 = .ok (.goto 4, 3) := by decide +kernel
theorem dMC_mayDo_75 : decode cMC_mayDo 75 = .ok (.iconst 0, 1) := by decide +kernel
theorem dMC_mayDo_76 : decode cMC_mayDo 76 = .ok (.ireturn, 1) := by decide +kernel
theorem dMC_mayDo_77 : decode cMC_mayDo 77 = .ok (.iconst 0, 1) := by decide +kernel
theorem dMC_mayDo_78 : decode cMC_mayDo 78 = .ok (.ireturn, 1) := by decide +kernel
theorem dMC_isEvent_0 : decode cMC_isEvent 0 = .ok (.iload_n 0, 1) := by decide +kernel
theorem dMC_isEvent_1 : decode cMC_isEvent 1 = .ok (.iconst 1, 1) := by decide +kernel
theorem dMC_isEvent_2 : decode cMC_isEvent 2 = .ok (.if_icmp .lt 13, 3) := by decide +kernel
theorem dMC_isEvent_5 : decode cMC_isEvent 5 = .ok (.iload_n 0, 1) := by decide +kernel
theorem dMC_isEvent_6 : decode cMC_isEvent 6 = .ok (.bipush 20, 2) := by decide +kernel
theorem dMC_isEvent_8 : decode cMC_isEvent 8 = .ok (.if_icmp .gt 7, 3) := by decide +kernel
theorem dMC_isEvent_11 : decode cMC_isEvent 11 = .ok (.iconst 1, 1) := by decide +kernel
theorem dMC_isEvent_12 : decode cMC_isEvent 12 = .ok (.goto 4, 3) := by decide +kernel
theorem dMC_isEvent_15 : decode cMC_isEvent 15 = .ok (.iconst 0, 1) := by decide +kernel
theorem dMC_isEvent_16 : decode cMC_isEvent 16 = .ok (.ireturn, 1) := by decide +kernel
theorem dMC_isVariable_0 : decode cMC_isVariable 0 = .ok (.iload_n 0, 1) := by decide +kernel
theorem dMC_isVariable_1 : decode cMC_isVariable 1 = .ok (.ifCond .lt 12, 3) := by decide +kernel
theorem dMC_isVariable_4 : decode cMC_isVariable 4 = .ok (.iload_n 0, 1) := by decide +kernel
theorem dMC_isVariable_5 : decode cMC_isVariable 5 = .ok (.iconst 4, 1) := by decide +kernel
theorem dMC_isVariable_6 : decode cMC_isVariable 6 = .ok (.if_icmp .ge 7, 3) := by decide +kernel
theorem dMC_isVariable_9 : decode cMC_isVariable 9 = .ok (.iconst 1, 1) := by decide +kernel
theorem dMC_isVariable_10 : decode cMC_isVariable 10 = .ok (.goto 4, 3) := by decide +kernel
theorem dMC_isVariable_13 : decode cMC_isVariable 13 = .ok (.iconst 0, 1) := by decide +kernel
theorem dMC_isVariable_14 : decode cMC_isVariable 14 = .ok (.ireturn, 1) := by decide +kernel
theorem dMC_isIn_0 : decode cMC_isIn 0 = .ok (.iload_n 1, 1) := by decide +kernel
theorem dMC_isIn_1 : decode cMC_isIn 1 = .ok (.iload_n 0, 1) := by decide +kernel
theorem dMC_isIn_2 : decode cMC_isIn 2 = .ok (.ishr, 1) := by decide +kernel
theorem dMC_isIn_3 : decode cMC_isIn 3 = .ok (.iconst 1, 1) := by decide +kernel
theorem dMC_isIn_4 : decode cMC_isIn 4 = .ok (.iand, 1) := by decide +kernel
theorem dMC_isIn_5 : decode cMC_isIn 5 = .ok (.ifCond .eq 7, 3) := by decide +kernel
theorem dMC_isIn_8 : decode cMC_isIn 8 = .ok (.iconst 1, 1) := by decide +kernel
theorem dMC_isIn_9 : decode cMC_isIn 9 = .ok (.goto 4, 3) := by decide +kernel
theorem dMC_isIn_12 : decode cMC_isIn 12 = .ok (.iconst 0, 1) := by decide +kernel
theorem dMC_isIn_13 : decode cMC_isIn 13 = .ok (.ireturn, 1) := by decide +kernel
theorem dMM_init_0 : decode cMM_init 0 = .ok (.aload_n 0, 1) := by decide +kernel
theorem dMM_init_1 : decode cMM_init 1 = .ok (.invokespecial 1, 3) := by decide +kernel
theorem dMM_init_4 : decode cMM_init 4 = .ok (.aload_n 0, 1) := by decide +kernel
theorem dMM_init_5 : decode cMM_init 5 = .ok (.bipush 16, 2) := by decide +kernel
theorem dMM_init_7 : decode cMM_init 7 = .ok (.newarray .int, 2) := by decide +kernel
theorem dMM_init_9 : decode cMM_init 9 = .ok (.putfield 7, 3) := by decide +kernel
theorem dMM_init_12 : decode cMM_init 12 = .ok (.aload_n 0, 1) := by decide +kernel
theorem dMM_init_13 : decode cMM_init 13 = .ok (.bipush 16, 2) := by decide +kernel
theorem dMM_init_15 : decode cMM_init 15 = .ok (.newarray .int, 2) := by decide +kernel
theorem dMM_init_17 : decode cMM_init 17 = .ok (.putfield 13, 3) := by decide +kernel
theorem dMM_init_20 : decode cMM_init 20 = .ok (.aload_n 0, 1) := by decide +kernel
theorem dMM_init_21 : decode cMM_init 21 = .ok (.bipush 16, 2) := by decide +kernel
theorem dMM_init_23 : decode cMM_init 23 = .ok (.newarray .int, 2) := by decide +kernel
theorem dMM_init_25 : decode cMM_init 25 = .ok (.putfield 16, 3) := by decide +kernel
theorem dMM_init_28 : decode cMM_init 28 = .ok (.aload_n 0, 1) := by decide +kernel
theorem dMM_init_29 : decode cMM_init 29 = .ok (.bipush 20, 2) := by decide +kernel
theorem dMM_init_31 : decode cMM_init 31 = .ok (.newarray .int, 2) := by decide +kernel
theorem dMM_init_33 : decode cMM_init 33 = .ok (.putfield 19, 3) := by decide +kernel
theorem dMM_init_36 : decode cMM_init 36 = .ok (.aload_n 0, 1) := by decide +kernel
theorem dMM_init_37 : decode cMM_init 37 = .ok (.bipush 20, 2) := by decide +kernel
theorem dMM_init_39 : decode cMM_init 39 = .ok (.newarray .int, 2) := by decide +kernel
theorem dMM_init_41 : decode cMM_init 41 = .ok (.putfield 22, 3) := by decide +kernel
theorem dMM_init_44 : decode cMM_init 44 = .ok (.aload_n 0, 1) := by decide +kernel
theorem dMM_init_45 : decode cMM_init 45 = .ok (.bipush 20, 2) := by decide +kernel
theorem dMM_init_47 : decode cMM_init 47 = .ok (.newarray .int, 2) := by decide +kernel
theorem dMM_init_49 : decode cMM_init 49 = .ok (.putfield 25, 3) := by decide +kernel
theorem dMM_init_52 : decode cMM_init 52 = .ok (.aload_n 0, 1) := by decide +kernel
theorem dMM_init_53 : decode cMM_init 53 = .ok (.bipush 20, 2) := by decide +kernel
theorem dMM_init_55 : decode cMM_init 55 = .ok (.newarray .boolean, 2) := by decide +kernel
theorem dMM_init_57 : decode cMM_init 57 = .ok (.putfield 28, 3) := by decide +kernel
theorem dMM_init_60 : decode cMM_init 60 = .ok (.aload_n 0, 1) := by decide +kernel
theorem dMM_init_61 : decode cMM_init 61 = .ok (.bipush 20, 2) := by decide +kernel
theorem dMM_init_63 : decode cMM_init 63 = .ok (.newarray .int, 2) := by decide +kernel
theorem dMM_init_65 : decode cMM_init 65 = .ok (.putfield 32, 3) := by decide +kernel
theorem dMM_init_68 : decode cMM_init 68 = .ok (.aload_n 0, 1) := by decide +kernel
theorem dMM_init_69 : decode cMM_init 69 = .ok (.bipush 20, 2) := by decide +kernel
theorem dMM_init_71 : decode cMM_init 71 = .ok (.newarray .int, 2) := by decide +kernel
theorem dMM_init_73 : decode cMM_init 73 = .ok (.putfield 35, 3) := by decide +kernel
theorem dMM_init_76 : decode cMM_init 76 = .ok (.aload_n 0, 1) := by decide +kernel
theorem dMM_init_77 : decode cMM_init 77 = .ok (.bipush 20, 2) := by decide +kernel
theorem dMM_init_79 : decode cMM_init 79 = .ok (.newarray .int, 2) := by decide +kernel
theorem dMM_init_81 : decode cMM_init 81 = .ok (.putfield 38, 3) := by decide +kernel
theorem dMM_init_84 : decode cMM_init 84 = .ok (.aload_n 0, 1) := by decide +kernel
theorem dMM_init_85 : decode cMM_init 85 = .ok (.bipush 32, 2) := by decide +kernel
theorem dMM_init_87 : decode cMM_init 87 = .ok (.newarray .int, 2) := by decide +kernel
theorem dMM_init_89 : decode cMM_init 89 = .ok (.putfield 41, 3) := by decide +kernel
theorem dMM_init_92 : decode cMM_init 92 = .ok (.aload_n 0, 1) := by decide +kernel
theorem dMM_init_93 : decode cMM_init 93 = .ok (.bipush 32, 2) := by decide +kernel
theorem dMM_init_95 : decode cMM_init 95 = .ok (.newarray .int, 2) := by decide +kernel
theorem dMM_init_97 : decode cMM_init 97 = .ok (.putfield 44, 3) := by decide +kernel
theorem dMM_init_100 : decode cMM_init 100 = .ok (.aload_n 0, 1) := by decide +kernel
theorem dMM_init_101 : decode cMM_init 101 = .ok (.bipush 32, 2) := by decide +kernel
theorem dMM_init_103 : decode cMM_init 103 = .ok (.newarray .int, 2) := by decide +kernel
theorem dMM_init_105 : decode cMM_init 105 = .ok (.putfield 47, 3) := by decide +kernel
theorem dMM_init_108 : decode cMM_init 108 = .ok (.aload_n 0, 1) := by decide +kernel
theorem dMM_init_109 : decode cMM_init 109 = .ok (.bipush 32, 2) := by decide +kernel
theorem dMM_init_111 : decode cMM_init 111 = .ok (.newarray .int, 2) := by decide +kernel
theorem dMM_init_113 : decode cMM_init 113 = .ok (.putfield 50, 3) := by decide +kernel
theorem dMM_init_116 : decode cMM_init 116 = .ok (.aload_n 0, 1) := by decide +kernel
theorem dMM_init_117 : decode cMM_init 117 = .ok (.bipush 16, 2) := by decide +kernel
theorem dMM_init_119 : decode cMM_init 119 = .ok (.newarray .boolean, 2) := by decide +kernel
theorem dMM_init_121 : decode cMM_init 121 = .ok (.putfield 53, 3) := by decide +kernel
theorem dMM_init_124 : decode cMM_init 124 = .ok (.aload_n 0, 1) := by decide +kernel
theorem dMM_init_125 : decode cMM_init 125 = .ok (.bipush 16, 2) := by decide +kernel
theorem dMM_init_127 : decode cMM_init 127 = .ok (.newarray .int, 2) := by decide +kernel
theorem dMM_init_129 : decode cMM_init 129 = .ok (.putfield 56, 3) := by decide +kernel
theorem dMM_init_132 : decode cMM_init 132 = .ok (.aload_n 0, 1) := by decide +kernel
theorem dMM_init_133 : decode cMM_init 133 = .ok (.iconst 4, 1) := by decide +kernel
theorem dMM_init_134 : decode cMM_init 134 = .ok (.newarray .int, 2) := by decide +kernel
theorem dMM_init_136 : decode cMM_init 136 = .ok (.putfield 59, 3) := by decide +kernel
theorem dMM_init_139 : decode cMM_init 139 = .ok (.aload_n 0, 1) := by decide +kernel
theorem dMM_init_140 : decode cMM_init 140 = .ok (.bipush 16, 2) := by decide +kernel
theorem dMM_init_142 : decode cMM_init 142 = .ok (.newarray .int, 2) := by decide +kernel
theorem dMM_init_144 : decode cMM_init 144 = .ok (.putfield 62, 3) := by decide +kernel
theorem dMM_init_147 : decode cMM_init 147 = .ok (.aload_n 0, 1) := by decide +kernel
theorem dMM_init_148 : decode cMM_init 148 = .ok (.bipush 16, 2) := by decide +kernel
theorem dMM_init_150 : decode cMM_init 150 = .ok (.newarray .int, 2) := by decide +kernel
theorem dMM_init_152 : decode cMM_init 152 = .ok (.putfield 65, 3) := by decide +kernel
theorem dMM_init_155 : decode cMM_init 155 = .ok (.aload_n 0, 1) := by decide +kernel
theorem dMM_init_156 : decode cMM_init 156 = .ok (.bipush 12, 2) := by decide +kernel
theorem dMM_init_158 : decode cMM_init 158 = .ok (.newarray .int, 2) := by decide +kernel
theorem dMM_init_160 : decode cMM_init 160 = .ok (.putfield 68, 3) := by decide +kernel
theorem dMM_init_163 : decode cMM_init 163 = .ok (.aload_n 0, 1) := by decide +kernel
theorem dMM_init_164 : decode cMM_init 164 = .ok (.bipush 12, 2) := by decide +kernel
theorem dMM_init_166 : decode cMM_init 166 = .ok (.newarray .int, 2) := by decide +kernel
theorem dMM_init_168 : decode cMM_init 168 = .ok (.putfield 71, 3) := by decide +kernel
theorem dMM_init_171 : decode cMM_init 171 = .ok (.aload_n 0, 1) := by decide +kernel
theorem dMM_init_172 : decode cMM_init 172 = .ok (.sipush 200, 3) := by decide +kernel
theorem dMM_init_175 : decode cMM_init 175 = .ok (.newarray .int, 2) := by decide +kernel
theorem dMM_init_177 : decode cMM_init 177 = .ok (.putfield 74, 3) := by decide +kernel
theorem dMM_init_180 : decode cMM_init 180 = .ok (.aload_n 0, 1) := by decide +kernel
theorem dMM_init_181 : decode cMM_init 181 = .ok (.bipush 20, 2) := by decide +kernel
theorem dMM_init_183 : decode cMM_init 183 = .ok (.newarray .int, 2) := by decide +kernel
theorem dMM_init_185 : decode cMM_init 185 = .ok (.putfield 77, 3) := by decide +kernel
theorem dMM_init_188 : decode cMM_init 188 = .ok (.aload_n 0, 1) := by decide +kernel
theorem dMM_init_189 : decode cMM_init 189 = .ok (.bipush 20, 2) := by decide +kernel
theorem dMM_init_191 : decode cMM_init 191 = .ok (.newarray .int, 2) := by decide +kernel
theorem dMM_init_193 : decode cMM_init 193 = .ok (.putfield 80, 3) := by decide +kernel
theorem dMM_init_196 : decode cMM_init 196 = .ok (.aload_n 0, 1) := by decide +kernel
theorem dMM_init_197 : decode cMM_init 197 = .ok (.bipush 16, 2) := by decide +kernel
theorem dMM_init_199 : decode cMM_init 199 = .ok (.newarray .boolean, 2) := by decide +kernel
theorem dMM_init_201 : decode cMM_init 201 = .ok (.putfield 83, 3) := by decide +kernel
theorem dMM_init_204 : decode cMM_init 204 = .ok (.aload_n 0, 1) := by decide +kernel
theorem dMM_init_205 : decode cMM_init 205 = .ok (.bipush 16, 2) := by decide +kernel
theorem dMM_init_207 : decode cMM_init 207 = .ok (.newarray .boolean, 2) := by decide +kernel
theorem dMM_init_209 : decode cMM_init 209 = .ok (.putfield 86, 3) := by decide +kernel
theorem dMM_init_212 : decode cMM_init 212 = .ok (.aload_n 0, 1) := by decide +kernel
theorem dMM_init_213 : decode cMM_init 213 = .ok (.getfield 13, 3) := by decide +kernel
theorem dMM_init_216 : decode cMM_init 216 = .ok (.iconst 0, 1) := by decide +kernel
theorem dMM_init_217 : decode cMM_init 217 = .ok (.iconst 1, 1) := by decide +kernel
theorem dMM_init_218 : decode cMM_init 218 = .ok (.iastore, 1) := by decide +kernel
theorem dMM_init_219 : decode cMM_init 219 = .ok (.return_, 1) := by decide +kernel
theorem dMM_is_0 : decode cMM_is 0 = .ok (.iload_n 1, 1) := by decide +kernel
theorem dMM_is_1 : decode cMM_is 1 = .ok (.iconst 1, 1) := by decide +kernel
theorem dMM_is_2 : decode cMM_is 2 = .ok (.if_icmp .lt 25, 3) := by decide +kernel
theorem dMM_is_5 : decode cMM_is 5 = .ok (.iload_n 1, 1) := by decide +kernel
theorem dMM_is_6 : decode cMM_is 6 = .ok (.aload_n 0, 1) := by decide +kernel
theorem dMM_is_7 : decode cMM_is 7 = .ok (.getfield 89, 3) := by decide +kernel
theorem dMM_is_10 : decode cMM_is 10 = .ok (.if_icmp .gt 17, 3) := by decide +kernel
theorem dMM_is_13 : decode cMM_is 13 = .ok (.aload_n 0, 1) := by decide +kernel
theorem dMM_is_14 : decode cMM_is 14 = .ok (.getfield 13, 3) := by decide +kernel
theorem dMM_is_17 : decode cMM_is 17 = .ok (.iload_n 1, 1) := by decide +kernel
theorem dMM_is_18 : decode cMM_is 18 = .ok (.iaload, 1) := by decide +kernel
theorem dMM_is_19 : decode cMM_is 19 = .ok (.iconst 3, 1) := by decide +kernel
theorem dMM_is_20 : decode cMM_is 20 = .ok (.if_icmp .gt 7, 3) := by decide +kernel
theorem dMM_is_23 : decode cMM_is 23 = .ok (.iconst 1, 1) := by decide +kernel
theorem dMM_is_24 : decode cMM_is 24 = .ok (.goto 4, 3) := by decide +kernel
theorem dMM_is_27 : decode cMM_is 27 = .ok (.iconst 0, 1) := by decide +kernel
theorem dMM_is_28 : decode cMM_is 28 = .ok (.ireturn, 1) := by decide +kernel
theorem dMM_hasChild_0 : decode cMM_hasChild 0 = .ok (.iconst 1, 1) := by decide +kernel
theorem dMM_hasChild_1 : decode cMM_hasChild 1 = .ok (.istore_n 3, 1) := by decide +kernel
theorem dMM_hasChild_2 : decode cMM_hasChild 2 = .ok (.iload_n 3, 1) := by decide +kernel
theorem dMM_hasChild_3 : decode cMM_hasChild 3 = .ok (.aload_n 0, 1) := by decide +kernel
theorem dMM_hasChild_4 : decode cMM_hasChild 4 = .ok (.getfield 89, 3) := by decide +kernel
theorem dMM_hasChild_7 : decode cMM_hasChild 7 = .ok (.if_icmp .gt 35, 3) := by decide +kernel
theorem dMM_hasChild_10 : decode cMM_hasChild 10 = .ok (.aload_n 0, 1) := by decide +kernel
theorem dMM_hasChild_11 : decode cMM_hasChild 11 = .ok (.getfield 7, 3) := by decide +kernel
theorem dMM_hasChild_14 : decode cMM_hasChild 14 = .ok (.iload_n 3, 1) := by decide +kernel
theorem dMM_hasChild_15 : decode cMM_hasChild 15 = .ok (.iaload, 1) := by decide +kernel
theorem dMM_hasChild_16 : decode cMM_hasChild 16 = .ok (.iload_n 1, 1) := by decide +kernel
theorem dMM_hasChild_17 : decode cMM_hasChild 17 = .ok (.if_icmp .ne 19, 3) := by decide +kernel
theorem dMM_hasChild_20 : decode cMM_hasChild 20 = .ok (.iload_n 2, 1) := by decide +kernel
theorem dMM_hasChild_21 : decode cMM_hasChild 21 = .ok (.ifCond .ne 13, 3) := by decide +kernel
theorem dMM_hasChild_24 : decode cMM_hasChild 24 = .ok (.aload_n 0, 1) := by decide +kernel
theorem dMM_hasChild_25 : decode cMM_hasChild 25 = .ok (.getfield 13, 3) := by decide +kernel
theorem dMM_hasChild_28 : decode cMM_hasChild 28 = .ok (.iload_n 3, 1) := by decide +kernel
theorem dMM_hasChild_29 : decode cMM_hasChild 29 = .ok (.iaload, 1) := by decide +kernel
theorem dMM_hasChild_30 : decode cMM_hasChild 30 = .ok (.iconst 3, 1) := by decide +kernel
theorem dMM_hasChild_31 : decode cMM_hasChild 31 = .ok (.if_icmp .gt 5, 3) := by decide +kernel
theorem dMM_hasChild_34 : decode cMM_hasChild 34 = .ok (.iconst 1, 1) := by decide +kernel
theorem dMM_hasChild_35 : decode cMM_hasChild 35 = .ok (.ireturn, 1) := by decide +kernel
theorem dMM_hasChild_36 : decode cMM_hasChild 36 = .ok (.iinc 3 1, 3) := by decide +kernel
theorem dMM_hasChild_39 : decode cMM_hasChild 39 = .ok (.goto (-37), 3) := by decide +kernel
theorem dMM_hasChild_42 : decode cMM_hasChild 42 = .ok (.iconst 0, 1) := by decide +kernel
theorem dMM_hasChild_43 : decode cMM_hasChild 43 = .ok (.ireturn, 1) := by decide +kernel
theorem dMM_compound_0 : decode cMM_compound 0 = .ok (.aload_n 0, 1) := by decide +kernel
theorem dMM_compound_1 : decode cMM_compound 1 = .ok (.getfield 13, 3) := by decide +kernel
theorem dMM_compound_4 : decode cMM_compound 4 = .ok (.iload_n 1, 1) := by decide +kernel
theorem dMM_compound_5 : decode cMM_compound 5 = .ok (.iaload, 1) := by decide +kernel
theorem dMM_compound_6 : decode cMM_compound 6 = .ok (.iconst 1, 1) := by decide +kernel
theorem dMM_compound_7 : decode cMM_compound 7 = .ok (.if_icmp .ne 16, 3) := by decide +kernel
theorem dMM_compound_10 : decode cMM_compound 10 = .ok (.aload_n 0, 1) := by decide +kernel
theorem dMM_compound_11 : decode cMM_compound 11 = .ok (.iload_n 1, 1) := by decide +kernel
theorem dMM_compound_12 : decode cMM_compound 12 = .ok (.iconst 1, 1) := by decide +kernel
theorem dMM_compound_13 : decode cMM_compound 13 = .ok (.invokevirtual 93, 3) := by decide +kernel
theorem dMM_compound_16 : decode cMM_compound 16 = .ok (.ifCond .eq 7, 3) := by decide +kernel
theorem dMM_compound_19 : decode cMM_compound 19 = .ok (.iconst 1, 1) := by decide +kernel
theorem dMM_compound_20 : decode cMM_compound 20 = .ok (.goto 4, 3) := by decide +kernel
theorem dMM_compound_23 : decode cMM_compound 23 = .ok (.iconst 0, 1) := by decide +kernel
theorem dMM_compound_24 : decode cMM_compound 24 = .ok (.ireturn, 1) := by decide +kernel
theorem dMM_below_0 : decode cMM_below 0 = .ok (.iload_n 1, 1) := by decide +kernel
theorem dMM_below_1 : decode cMM_below 1 = .ok (.istore_n 3, 1) := by decide +kernel
theorem dMM_below_2 : decode cMM_below 2 = .ok (.iload_n 3, 1) := by decide +kernel
theorem dMM_below_3 : decode cMM_below 3 = .ok (.ifCond .eq 17, 3) := by decide +kernel
theorem dMM_below_6 : decode cMM_below 6 = .ok (.aload_n 0, 1) := by decide +kernel
theorem dMM_below_7 : decode cMM_below 7 = .ok (.getfield 7, 3) := by decide +kernel
theorem dMM_below_10 : decode cMM_below 10 = .ok (.iload_n 3, 1) := by decide +kernel
theorem dMM_below_11 : decode cMM_below 11 = .ok (.iaload, 1) := by decide +kernel
theorem dMM_below_12 : decode cMM_below 12 = .ok (.istore_n 3, 1) := by decide +kernel
theorem dMM_below_13 : decode cMM_below 13 = .ok (.iload_n 3, 1) := by decide +kernel
theorem dMM_below_14 : decode cMM_below 14 = .ok (.iload_n 2, 1) := by decide +kernel
theorem dMM_below_15 : decode cMM_below 15 = .ok (.if_icmp .ne (-13), 3) := by decide +kernel
theorem dMM_below_18 : decode cMM_below 18 = .ok (.iconst 1, 1) := by decide +kernel
theorem dMM_below_19 : decode cMM_below 19 = .ok (.ireturn, 1) := by decide +kernel
theorem dMM_below_20 : decode cMM_below 20 = .ok (.iconst 0, 1) := by decide +kernel
theorem dMM_below_21 : decode cMM_below 21 = .ok (.ireturn, 1) := by decide +kernel
