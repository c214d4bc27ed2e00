/-! the instructions -/
theorem d_E_init_0 : decode (zb m_E_init) 0 = .ok (.aload_n 0, 1) := by decide +kernel
theorem d_E_init_1 : decode (zb m_E_init) 1 = .ok (.invokespecial 1, 3) := by decide +kernel
theorem d_E_init_4 : decode (zb m_E_init) 4 = .ok (.aload_n 0, 1) := by decide +kernel
theorem d_E_init_5 : decode (zb m_E_init) 5 = .ok (.new 7, 3) := by decide +kernel
theorem d_E_init_8 : decode (zb m_E_init) 8 = .ok (.dup, 1) := by decide +kernel
theorem d_E_init_9 : decode (zb m_E_init) 9 = .ok (.bipush 18, 2) := by decide +kernel
theorem d_E_init_11 : decode (zb m_E_init) 11 = .ok (.invokespecial 11, 3) := by decide +kernel
theorem d_E_init_14 : decode (zb m_E_init) 14 = .ok (.putfield 14, 3) := by decide +kernel
theorem d_E_init_17 : decode (zb m_E_init) 17 = .ok (.aload_n 0, 1) := by decide +kernel
theorem d_E_init_18 : decode (zb m_E_init) 18 = .ok (.new 18, 3) := by decide +kernel
theorem d_E_init_21 : decode (zb m_E_init) 21 = .ok (.dup, 1) := by decide +kernel
theorem d_E_init_22 : decode (zb m_E_init) 22 = .ok (.invokespecial 20, 3) := by decide +kernel
theorem d_E_init_25 : decode (zb m_E_init) 25 = .ok (.putfield 21, 3) := by decide +kernel
theorem d_E_init_28 : decode (zb m_E_init) 28 = .ok (.aload_n 0, 1) := by decide +kernel
theorem d_E_init_29 : decode (zb m_E_init) 29 = .ok (.iconst 2, 1) := by decide +kernel
theorem d_E_init_30 : decode (zb m_E_init) 30 = .ok (.anewarray 18, 3) := by decide +kernel
theorem d_E_init_33 : decode (zb m_E_init) 33 = .ok (.putfield 25, 3) := by decide +kernel
theorem d_E_init_36 : decode (zb m_E_init) 36 = .ok (.aload_n 0, 1) := by decide +kernel
theorem d_E_init_37 : decode (zb m_E_init) 37 = .ok (.iconst 2, 1) := by decide +kernel
theorem d_E_init_38 : decode (zb m_E_init) 38 = .ok (.newarray .boolean, 2) := by decide +kernel
theorem d_E_init_40 : decode (zb m_E_init) 40 = .ok (.putfield 29, 3) := by decide +kernel
theorem d_E_init_43 : decode (zb m_E_init) 43 = .ok (.aload_n 0, 1) := by decide +kernel
theorem d_E_init_44 : decode (zb m_E_init) 44 = .ok (.new 33, 3) := by decide +kernel
theorem d_E_init_47 : decode (zb m_E_init) 47 = .ok (.dup, 1) := by decide +kernel
theorem d_E_init_48 : decode (zb m_E_init) 48 = .ok (.invokespecial 35, 3) := by decide +kernel
theorem d_E_init_51 : decode (zb m_E_init) 51 = .ok (.putfield 36, 3) := by decide +kernel
theorem d_E_init_54 : decode (zb m_E_init) 54 = .ok (.aload_n 0, 1) := by decide +kernel
theorem d_E_init_55 : decode (zb m_E_init) 55 = .ok (.new 40, 3) := by decide +kernel
theorem d_E_init_58 : decode (zb m_E_init) 58 = .ok (.dup, 1) := by decide +kernel
theorem d_E_init_59 : decode (zb m_E_init) 59 = .ok (.invokespecial 42, 3) := by decide +kernel
theorem d_E_init_62 : decode (zb m_E_init) 62 = .ok (.putfield 43, 3) := by decide +kernel
theorem d_E_init_65 : decode (zb m_E_init) 65 = .ok (.aload_n 0, 1) := by decide +kernel
theorem d_E_init_66 : decode (zb m_E_init) 66 = .ok (.new 7, 3) := by decide +kernel
theorem d_E_init_69 : decode (zb m_E_init) 69 = .ok (.dup, 1) := by decide +kernel
theorem d_E_init_70 : decode (zb m_E_init) 70 = .ok (.bipush 60, 2) := by decide +kernel
theorem d_E_init_72 : decode (zb m_E_init) 72 = .ok (.invokespecial 11, 3) := by decide +kernel
theorem d_E_init_75 : decode (zb m_E_init) 75 = .ok (.putfield 47, 3) := by decide +kernel
theorem d_E_init_78 : decode (zb m_E_init) 78 = .ok (.aload_n 0, 1) := by decide +kernel
theorem d_E_init_79 : decode (zb m_E_init) 79 = .ok (.bipush 6, 2) := by decide +kernel
theorem d_E_init_81 : decode (zb m_E_init) 81 = .ok (.newarray .long, 2) := by decide +kernel
theorem d_E_init_83 : decode (zb m_E_init) 83 = .ok (.putfield 50, 3) := by decide +kernel
theorem d_E_init_86 : decode (zb m_E_init) 86 = .ok (.iconst 0, 1) := by decide +kernel
theorem d_E_init_87 : decode (zb m_E_init) 87 = .ok (.istore_n 1, 1) := by decide +kernel
theorem d_E_init_88 : decode (zb m_E_init) 88 = .ok (.iload_n 1, 1) := by decide +kernel
theorem d_E_init_89 : decode (zb m_E_init) 89 = .ok (.iconst 2, 1) := by decide +kernel
theorem d_E_init_90 : decode (zb m_E_init) 90 = .ok (.if_icmp .ge 22, 3) := by decide +kernel
theorem d_E_init_93 : decode (zb m_E_init) 93 = .ok (.aload_n 0, 1) := by decide +kernel
theorem d_E_init_94 : decode (zb m_E_init) 94 = .ok (.getfield 25, 3) := by decide +kernel
theorem d_E_init_97 : decode (zb m_E_init) 97 = .ok (.iload_n 1, 1) := by decide +kernel
theorem d_E_init_98 : decode (zb m_E_init) 98 = .ok (.new 18, 3) := by decide +kernel
theorem d_E_init_101 : decode (zb m_E_init) 101 = .ok (.dup, 1) := by decide +kernel
theorem d_E_init_102 : decode (zb m_E_init) 102 = .ok (.invokespecial 20, 3) := by decide +kernel
theorem d_E_init_105 : decode (zb m_E_init) 105 = .ok (.aastore, 1) := by decide +kernel
theorem d_E_init_106 : decode (zb m_E_init) 106 = .ok (.iinc 1 1, 3) := by decide +kernel
theorem d_E_init_109 : decode (zb m_E_init) 109 = .ok (.goto (-21), 3) := by decide +kernel
theorem d_E_init_112 : decode (zb m_E_init) 112 = .ok (.aload_n 0, 1) := by decide +kernel
theorem d_E_init_113 : decode (zb m_E_init) 113 = .ok (.invokevirtual 54, 3) := by decide +kernel
theorem d_E_init_116 : decode (zb m_E_init) 116 = .ok (.return_, 1) := by decide +kernel
theorem d_E_say_0 : decode (zb m_E_say) 0 = .ok (.iload_n 1, 1) := by decide +kernel
theorem d_E_say_1 : decode (zb m_E_say) 1 = .ok (.bipush 33, 2) := by decide +kernel
theorem d_E_say_3 : decode (zb m_E_say) 3 = .ok (.if_icmp .lt 9, 3) := by decide +kernel
theorem d_E_say_6 : decode (zb m_E_say) 6 = .ok (.iload_n 1, 1) := by decide +kernel
theorem d_E_say_7 : decode (zb m_E_say) 7 = .ok (.bipush 126, 2) := by decide +kernel
theorem d_E_say_9 : decode (zb m_E_say) 9 = .ok (.if_icmp .le 6, 3) := by decide +kernel
theorem d_E_say_12 : decode (zb m_E_say) 12 = .ok (.bipush (-2), 2) := by decide +kernel
theorem d_E_say_14 : decode (zb m_E_say) 14 = .ok (.ireturn, 1) := by decide +kernel
theorem d_E_say_15 : decode (zb m_E_say) 15 = .ok (.aload_n 0, 1) := by decide +kernel
theorem d_E_say_16 : decode (zb m_E_say) 16 = .ok (.getfield 14, 3) := by decide +kernel
theorem d_E_say_19 : decode (zb m_E_say) 19 = .ok (.iload_n 1, 1) := by decide +kernel
theorem d_E_say_20 : decode (zb m_E_say) 20 = .ok (.invokevirtual 57, 3) := by decide +kernel
theorem d_E_say_23 : decode (zb m_E_say) 23 = .ok (.ifCond .eq 13, 3) := by decide +kernel
theorem d_E_say_26 : decode (zb m_E_say) 26 = .ok (.aload_n 0, 1) := by decide +kernel
theorem d_E_say_27 : decode (zb m_E_say) 27 = .ok (.getfield 14, 3) := by decide +kernel
theorem d_E_say_30 : decode (zb m_E_say) 30 = .ok (.invokevirtual 61, 3) := by decide +kernel
theorem d_E_say_33 : decode (zb m_E_say) 33 = .ok (.goto 5, 3) := by decide +kernel
theorem d_E_say_36 : decode (zb m_E_say) 36 = .ok (.bipush (-4), 2) := by decide +kernel
theorem d_E_say_38 : decode (zb m_E_say) 38 = .ok (.ireturn, 1) := by decide +kernel
theorem d_E_wipe_0 : decode (zb m_E_wipe) 0 = .ok (.aload_n 0, 1) := by decide +kernel
theorem d_E_wipe_1 : decode (zb m_E_wipe) 1 = .ok (.getfield 14, 3) := by decide +kernel
theorem d_E_wipe_4 : decode (zb m_E_wipe) 4 = .ok (.invokevirtual 61, 3) := by decide +kernel
theorem d_E_wipe_7 : decode (zb m_E_wipe) 7 = .ok (.istore_n 1, 1) := by decide +kernel
theorem d_E_wipe_8 : decode (zb m_E_wipe) 8 = .ok (.aload_n 0, 1) := by decide +kernel
theorem d_E_wipe_9 : decode (zb m_E_wipe) 9 = .ok (.getfield 14, 3) := by decide +kernel
theorem d_E_wipe_12 : decode (zb m_E_wipe) 12 = .ok (.invokevirtual 65, 3) := by decide +kernel
theorem d_E_wipe_15 : decode (zb m_E_wipe) 15 = .ok (.iload_n 1, 1) := by decide +kernel
theorem d_E_wipe_16 : decode (zb m_E_wipe) 16 = .ok (.ireturn, 1) := by decide +kernel
theorem d_E_fault_0 : decode (zb m_E_fault) 0 = .ok (.iload_n 1, 1) := by decide +kernel
theorem d_E_fault_1 : decode (zb m_E_fault) 1 = .ok (.ifCond .ne 8, 3) := by decide +kernel
theorem d_E_fault_4 : decode (zb m_E_fault) 4 = .ok (.aload_n 0, 1) := by decide +kernel
theorem d_E_fault_5 : decode (zb m_E_fault) 5 = .ok (.invokevirtual 68, 3) := by decide +kernel
theorem d_E_fault_8 : decode (zb m_E_fault) 8 = .ok (.ireturn, 1) := by decide +kernel
theorem d_E_fault_9 : decode (zb m_E_fault) 9 = .ok (.iload_n 1, 1) := by decide +kernel
theorem d_E_fault_10 : decode (zb m_E_fault) 10 = .ok (.iconst 1, 1) := by decide +kernel
theorem d_E_fault_11 : decode (zb m_E_fault) 11 = .ok (.if_icmp .ne 10, 3) := by decide +kernel
theorem d_E_fault_14 : decode (zb m_E_fault) 14 = .ok (.aload_n 0, 1) := by decide +kernel
theorem d_E_fault_15 : decode (zb m_E_fault) 15 = .ok (.invokevirtual 71, 3) := by decide +kernel
theorem d_E_fault_18 : decode (zb m_E_fault) 18 = .ok (.goto 5, 3) := by decide +kernel
theorem d_E_fault_21 : decode (zb m_E_fault) 21 = .ok (.bipush (-2), 2) := by decide +kernel
theorem d_E_fault_23 : decode (zb m_E_fault) 23 = .ok (.ireturn, 1) := by decide +kernel
theorem d_E_example_0 : decode (zb m_E_example) 0 = .ok (.aload_n 0, 1) := by decide +kernel
theorem d_E_example_1 : decode (zb m_E_example) 1 = .ok (.invokevirtual 68, 3) := by decide +kernel
theorem d_E_example_4 : decode (zb m_E_example) 4 = .ok (.bipush (-6), 2) := by decide +kernel
theorem d_E_example_6 : decode (zb m_E_example) 6 = .ok (.if_icmp .eq 6, 3) := by decide +kernel
theorem d_E_example_9 : decode (zb m_E_example) 9 = .ok (.bipush (-5), 2) := by decide +kernel
theorem d_E_example_11 : decode (zb m_E_example) 11 = .ok (.ireturn, 1) := by decide +kernel
theorem d_E_example_12 : decode (zb m_E_example) 12 = .ok (.aload_n 0, 1) := by decide +kernel
theorem d_E_example_13 : decode (zb m_E_example) 13 = .ok (.getfield 21, 3) := by decide +kernel
theorem d_E_example_16 : decode (zb m_E_example) 16 = .ok (.invokevirtual 74, 3) := by decide +kernel
theorem d_E_example_19 : decode (zb m_E_example) 19 = .ok (.iconst 3, 1) := by decide +kernel
theorem d_E_example_20 : decode (zb m_E_example) 20 = .ok (.if_icmp .lt 6, 3) := by decide +kernel
theorem d_E_example_23 : decode (zb m_E_example) 23 = .ok (.bipush (-4), 2) := by decide +kernel
theorem d_E_example_25 : decode (zb m_E_example) 25 = .ok (.ireturn, 1) := by decide +kernel
theorem d_E_example_26 : decode (zb m_E_example) 26 = .ok (.aload_n 0, 1) := by decide +kernel
theorem d_E_example_27 : decode (zb m_E_example) 27 = .ok (.getfield 14, 3) := by decide +kernel
theorem d_E_example_30 : decode (zb m_E_example) 30 = .ok (.iconst 0, 1) := by decide +kernel
theorem d_E_example_31 : decode (zb m_E_example) 31 = .ok (.bipush 12, 2) := by decide +kernel
theorem d_E_example_33 : decode (zb m_E_example) 33 = .ok (.invokevirtual 77, 3) := by decide +kernel
theorem d_E_example_36 : decode (zb m_E_example) 36 = .ok (.istore_n 1, 1) := by decide +kernel
theorem d_E_example_37 : decode (zb m_E_example) 37 = .ok (.aload_n 0, 1) := by decide +kernel
theorem d_E_example_38 : decode (zb m_E_example) 38 = .ok (.getfield 21, 3) := by decide +kernel
theorem d_E_example_41 : decode (zb m_E_example) 41 = .ok (.aload_n 0, 1) := by decide +kernel
theorem d_E_example_42 : decode (zb m_E_example) 42 = .ok (.getfield 14, 3) := by decide +kernel
theorem d_E_example_45 : decode (zb m_E_example) 45 = .ok (.iload_n 1, 1) := by decide +kernel
theorem d_E_example_46 : decode (zb m_E_example) 46 = .ok (.aload_n 0, 1) := by decide +kernel
theorem d_E_example_47 : decode (zb m_E_example) 47 = .ok (.getfield 14, 3) := by decide +kernel
theorem d_E_example_50 : decode (zb m_E_example) 50 = .ok (.iload_n 1, 1) := by decide +kernel
theorem d_E_example_51 : decode (zb m_E_example) 51 = .ok (.iconst 1, 1) := by decide +kernel
theorem d_E_example_52 : decode (zb m_E_example) 52 = .ok (.iadd, 1) := by decide +kernel
theorem d_E_example_53 : decode (zb m_E_example) 53 = .ok (.invokevirtual 81, 3) := by decide +kernel
theorem d_E_example_56 : decode (zb m_E_example) 56 = .ok (.aload_n 0, 1) := by decide +kernel
theorem d_E_example_57 : decode (zb m_E_example) 57 = .ok (.getfield 14, 3) := by decide +kernel
theorem d_E_example_60 : decode (zb m_E_example) 60 = .ok (.invokevirtual 65, 3) := by decide +kernel
theorem d_E_example_63 : decode (zb m_E_example) 63 = .ok (.aload_n 0, 1) := by decide +kernel
theorem d_E_example_64 : decode (zb m_E_example) 64 = .ok (.invokevirtual 85, 3) := by decide +kernel
theorem d_E_example_67 : decode (zb m_E_example) 67 = .ok (.aload_n 0, 1) := by decide +kernel
theorem d_E_example_68 : decode (zb m_E_example) 68 = .ok (.getfield 21, 3) := by decide +kernel
theorem d_E_example_71 : decode (zb m_E_example) 71 = .ok (.invokevirtual 74, 3) := by decide +kernel
theorem d_E_example_74 : decode (zb m_E_example) 74 = .ok (.ireturn, 1) := by decide +kernel
theorem d_E_forget_0 : decode (zb m_E_forget) 0 = .ok (.aload_n 0, 1) := by decide +kernel
theorem d_E_forget_1 : decode (zb m_E_forget) 1 = .ok (.getfield 21, 3) := by decide +kernel
theorem d_E_forget_4 : decode (zb m_E_forget) 4 = .ok (.invokevirtual 74, 3) := by decide +kernel
theorem d_E_forget_7 : decode (zb m_E_forget) 7 = .ok (.ifCond .ne 6, 3) := by decide +kernel
theorem d_E_forget_10 : decode (zb m_E_forget) 10 = .ok (.bipush (-5), 2) := by decide +kernel
theorem d_E_forget_12 : decode (zb m_E_forget) 12 = .ok (.ireturn, 1) := by decide +kernel
theorem d_E_forget_13 : decode (zb m_E_forget) 13 = .ok (.aload_n 0, 1) := by decide +kernel
theorem d_E_forget_14 : decode (zb m_E_forget) 14 = .ok (.getfield 21, 3) := by decide +kernel
theorem d_E_forget_17 : decode (zb m_E_forget) 17 = .ok (.invokevirtual 88, 3) := by decide +kernel
theorem d_E_forget_20 : decode (zb m_E_forget) 20 = .ok (.aload_n 0, 1) := by decide +kernel
theorem d_E_forget_21 : decode (zb m_E_forget) 21 = .ok (.invokevirtual 85, 3) := by decide +kernel
theorem d_E_forget_24 : decode (zb m_E_forget) 24 = .ok (.aload_n 0, 1) := by decide +kernel
theorem d_E_forget_25 : decode (zb m_E_forget) 25 = .ok (.getfield 21, 3) := by decide +kernel
theorem d_E_forget_28 : decode (zb m_E_forget) 28 = .ok (.invokevirtual 74, 3) := by decide +kernel
theorem d_E_forget_31 : decode (zb m_E_forget) 31 = .ok (.ireturn, 1) := by decide +kernel
theorem d_E_pool_0 : decode (zb m_E_pool) 0 = .ok (.aload_n 0, 1) := by decide +kernel
theorem d_E_pool_1 : decode (zb m_E_pool) 1 = .ok (.invokevirtual 71, 3) := by decide +kernel
theorem d_E_pool_4 : decode (zb m_E_pool) 4 = .ok (.bipush (-6), 2) := by decide +kernel
theorem d_E_pool_6 : decode (zb m_E_pool) 6 = .ok (.if_icmp .eq 6, 3) := by decide +kernel
theorem d_E_pool_9 : decode (zb m_E_pool) 9 = .ok (.bipush (-5), 2) := by decide +kernel
theorem d_E_pool_11 : decode (zb m_E_pool) 11 = .ok (.ireturn, 1) := by decide +kernel
theorem d_E_pool_12 : decode (zb m_E_pool) 12 = .ok (.aload_n 0, 1) := by decide +kernel
theorem d_E_pool_13 : decode (zb m_E_pool) 13 = .ok (.getfield 21, 3) := by decide +kernel
theorem d_E_pool_16 : decode (zb m_E_pool) 16 = .ok (.invokevirtual 91, 3) := by decide +kernel
theorem d_E_pool_19 : decode (zb m_E_pool) 19 = .ok (.bipush 6, 2) := by decide +kernel
theorem d_E_pool_21 : decode (zb m_E_pool) 21 = .ok (.if_icmp .lt 6, 3) := by decide +kernel
theorem d_E_pool_24 : decode (zb m_E_pool) 24 = .ok (.bipush (-4), 2) := by decide +kernel
theorem d_E_pool_26 : decode (zb m_E_pool) 26 = .ok (.ireturn, 1) := by decide +kernel
theorem d_E_pool_27 : decode (zb m_E_pool) 27 = .ok (.aload_n 0, 1) := by decide +kernel
theorem d_E_pool_28 : decode (zb m_E_pool) 28 = .ok (.getfield 21, 3) := by decide +kernel
theorem d_E_pool_31 : decode (zb m_E_pool) 31 = .ok (.aload_n 0, 1) := by decide +kernel
theorem d_E_pool_32 : decode (zb m_E_pool) 32 = .ok (.getfield 14, 3) := by decide +kernel
theorem d_E_pool_35 : decode (zb m_E_pool) 35 = .ok (.invokevirtual 94, 3) := by decide +kernel
theorem d_E_pool_38 : decode (zb m_E_pool) 38 = .ok (.aload_n 0, 1) := by decide +kernel
theorem d_E_pool_39 : decode (zb m_E_pool) 39 = .ok (.getfield 14, 3) := by decide +kernel
theorem d_E_pool_42 : decode (zb m_E_pool) 42 = .ok (.invokevirtual 65, 3) := by decide +kernel
theorem d_E_pool_45 : decode (zb m_E_pool) 45 = .ok (.aload_n 0, 1) := by decide +kernel
theorem d_E_pool_46 : decode (zb m_E_pool) 46 = .ok (.invokevirtual 54, 3) := by decide +kernel
theorem d_E_pool_49 : decode (zb m_E_pool) 49 = .ok (.aload_n 0, 1) := by decide +kernel
theorem d_E_pool_50 : decode (zb m_E_pool) 50 = .ok (.getfield 21, 3) := by decide +kernel
theorem d_E_pool_53 : decode (zb m_E_pool) 53 = .ok (.invokevirtual 91, 3) := by decide +kernel
theorem d_E_pool_56 : decode (zb m_E_pool) 56 = .ok (.ireturn, 1) := by decide +kernel
theorem d_E_drain_0 : decode (zb m_E_drain) 0 = .ok (.aload_n 0, 1) := by decide +kernel
theorem d_E_drain_1 : decode (zb m_E_drain) 1 = .ok (.getfield 21, 3) := by decide +kernel
theorem d_E_drain_4 : decode (zb m_E_drain) 4 = .ok (.iload_n 1, 1) := by decide +kernel
theorem d_E_drain_5 : decode (zb m_E_drain) 5 = .ok (.invokevirtual 98, 3) := by decide +kernel
theorem d_E_drain_8 : decode (zb m_E_drain) 8 = .ok (.ifCond .ne 5, 3) := by decide +kernel
theorem d_E_drain_11 : decode (zb m_E_drain) 11 = .ok (.iconst (-1), 1) := by decide +kernel
theorem d_E_drain_12 : decode (zb m_E_drain) 12 = .ok (.ireturn, 1) := by decide +kernel
theorem d_E_drain_13 : decode (zb m_E_drain) 13 = .ok (.aload_n 0, 1) := by decide +kernel
theorem d_E_drain_14 : decode (zb m_E_drain) 14 = .ok (.getfield 21, 3) := by decide +kernel
theorem d_E_drain_17 : decode (zb m_E_drain) 17 = .ok (.iload_n 1, 1) := by decide +kernel
theorem d_E_drain_18 : decode (zb m_E_drain) 18 = .ok (.invokevirtual 101, 3) := by decide +kernel
theorem d_E_drain_21 : decode (zb m_E_drain) 21 = .ok (.aload_n 0, 1) := by decide +kernel
theorem d_E_drain_22 : decode (zb m_E_drain) 22 = .ok (.invokevirtual 54, 3) := by decide +kernel
theorem d_E_drain_25 : decode (zb m_E_drain) 25 = .ok (.aload_n 0, 1) := by decide +kernel
theorem d_E_drain_26 : decode (zb m_E_drain) 26 = .ok (.getfield 21, 3) := by decide +kernel
theorem d_E_drain_29 : decode (zb m_E_drain) 29 = .ok (.invokevirtual 91, 3) := by decide +kernel
theorem d_E_drain_32 : decode (zb m_E_drain) 32 = .ok (.ireturn, 1) := by decide +kernel
theorem d_E_plans_0 : decode (zb m_E_plans) 0 = .ok (.aload_n 0, 1) := by decide +kernel
theorem d_E_plans_1 : decode (zb m_E_plans) 1 = .ok (.getfield 21, 3) := by decide +kernel
theorem d_E_plans_4 : decode (zb m_E_plans) 4 = .ok (.invokevirtual 74, 3) := by decide +kernel
theorem d_E_plans_7 : decode (zb m_E_plans) 7 = .ok (.ifCond .ne 7, 3) := by decide +kernel
theorem d_E_plans_10 : decode (zb m_E_plans) 10 = .ok (.ldc2_w 104, 3) := by decide +kernel
theorem d_E_plans_13 : decode (zb m_E_plans) 13 = .ok (.lreturn, 1) := by decide +kernel
theorem d_E_plans_14 : decode (zb m_E_plans) 14 = .ok (.aload_n 0, 1) := by decide +kernel
theorem d_E_plans_15 : decode (zb m_E_plans) 15 = .ok (.invokevirtual 106, 3) := by decide +kernel
theorem d_E_plans_18 : decode (zb m_E_plans) 18 = .ok (.aload_n 0, 1) := by decide +kernel
theorem d_E_plans_19 : decode (zb m_E_plans) 19 = .ok (.getfield 109, 3) := by decide +kernel
theorem d_E_plans_22 : decode (zb m_E_plans) 22 = .ok (.lreturn, 1) := by decide +kernel
theorem d_E_cost_0 : decode (zb m_E_cost) 0 = .ok (.iload_n 1, 1) := by decide +kernel
theorem d_E_cost_1 : decode (zb m_E_cost) 1 = .ok (.bipush (-2), 2) := by decide +kernel
theorem d_E_cost_3 : decode (zb m_E_cost) 3 = .ok (.if_icmp .ge 6, 3) := by decide +kernel
theorem d_E_cost_6 : decode (zb m_E_cost) 6 = .ok (.bipush (-2), 2) := by decide +kernel
theorem d_E_cost_8 : decode (zb m_E_cost) 8 = .ok (.ireturn, 1) := by decide +kernel
theorem d_E_cost_9 : decode (zb m_E_cost) 9 = .ok (.aload_n 0, 1) := by decide +kernel
theorem d_E_cost_10 : decode (zb m_E_cost) 10 = .ok (.getfield 21, 3) := by decide +kernel
theorem d_E_cost_13 : decode (zb m_E_cost) 13 = .ok (.invokevirtual 74, 3) := by decide +kernel
theorem d_E_cost_16 : decode (zb m_E_cost) 16 = .ok (.ifCond .ne 6, 3) := by decide +kernel
theorem d_E_cost_19 : decode (zb m_E_cost) 19 = .ok (.bipush (-3), 2) := by decide +kernel
theorem d_E_cost_21 : decode (zb m_E_cost) 21 = .ok (.ireturn, 1) := by decide +kernel
theorem d_E_cost_22 : decode (zb m_E_cost) 22 = .ok (.aload_n 0, 1) := by decide +kernel
theorem d_E_cost_23 : decode (zb m_E_cost) 23 = .ok (.invokevirtual 106, 3) := by decide +kernel
theorem d_E_cost_26 : decode (zb m_E_cost) 26 = .ok (.aload_n 0, 1) := by decide +kernel
theorem d_E_cost_27 : decode (zb m_E_cost) 27 = .ok (.getfield 43, 3) := by decide +kernel
theorem d_E_cost_30 : decode (zb m_E_cost) 30 = .ok (.invokevirtual 113, 3) := by decide +kernel
theorem d_E_cost_33 : decode (zb m_E_cost) 33 = .ok (.ifCond .ne 6, 3) := by decide +kernel
theorem d_E_cost_36 : decode (zb m_E_cost) 36 = .ok (.bipush (-6), 2) := by decide +kernel
theorem d_E_cost_38 : decode (zb m_E_cost) 38 = .ok (.ireturn, 1) := by decide +kernel
theorem d_E_cost_39 : decode (zb m_E_cost) 39 = .ok (.iload_n 1, 1) := by decide +kernel
theorem d_E_cost_40 : decode (zb m_E_cost) 40 = .ok (.ifCond .ge 26, 3) := by decide +kernel
theorem d_E_cost_43 : decode (zb m_E_cost) 43 = .ok (.iload_n 1, 1) := by decide +kernel
theorem d_E_cost_44 : decode (zb m_E_cost) 44 = .ok (.iconst (-1), 1) := by decide +kernel
theorem d_E_cost_45 : decode (zb m_E_cost) 45 = .ok (.if_icmp .ne 13, 3) := by decide +kernel
theorem d_E_cost_48 : decode (zb m_E_cost) 48 = .ok (.aload_n 0, 1) := by decide +kernel
theorem d_E_cost_49 : decode (zb m_E_cost) 49 = .ok (.getfield 43, 3) := by decide +kernel
theorem d_E_cost_52 : decode (zb m_E_cost) 52 = .ok (.invokevirtual 114, 3) := by decide +kernel
theorem d_E_cost_55 : decode (zb m_E_cost) 55 = .ok (.goto 10, 3) := by decide +kernel
theorem d_E_cost_58 : decode (zb m_E_cost) 58 = .ok (.aload_n 0, 1) := by decide +kernel
theorem d_E_cost_59 : decode (zb m_E_cost) 59 = .ok (.getfield 43, 3) := by decide +kernel
theorem d_E_cost_62 : decode (zb m_E_cost) 62 = .ok (.invokevirtual 113, 3) := by decide +kernel
theorem d_E_cost_65 : decode (zb m_E_cost) 65 = .ok (.ireturn, 1) := by decide +kernel
theorem d_E_cost_66 : decode (zb m_E_cost) 66 = .ok (.iload_n 1, 1) := by decide +kernel
theorem d_E_cost_67 : decode (zb m_E_cost) 67 = .ok (.aload_n 0, 1) := by decide +kernel
theorem d_E_cost_68 : decode (zb m_E_cost) 68 = .ok (.getfield 43, 3) := by decide +kernel
theorem d_E_cost_71 : decode (zb m_E_cost) 71 = .ok (.invokevirtual 113, 3) := by decide +kernel
theorem d_E_cost_74 : decode (zb m_E_cost) 74 = .ok (.if_icmp .ge 17, 3) := by decide +kernel
theorem d_E_cost_77 : decode (zb m_E_cost) 77 = .ok (.aload_n 0, 1) := by decide +kernel
theorem d_E_cost_78 : decode (zb m_E_cost) 78 = .ok (.getfield 43, 3) := by decide +kernel
theorem d_E_cost_81 : decode (zb m_E_cost) 81 = .ok (.iload_n 1, 1) := by decide +kernel
theorem d_E_cost_82 : decode (zb m_E_cost) 82 = .ok (.invokevirtual 117, 3) := by decide +kernel
theorem d_E_cost_85 : decode (zb m_E_cost) 85 = .ok (.invokevirtual 121, 3) := by decide +kernel
theorem d_E_cost_88 : decode (zb m_E_cost) 88 = .ok (.goto 5, 3) := by decide +kernel
theorem d_E_cost_91 : decode (zb m_E_cost) 91 = .ok (.bipush (-6), 2) := by decide +kernel
theorem d_E_cost_93 : decode (zb m_E_cost) 93 = .ok (.ireturn, 1) := by decide +kernel
theorem d_E_piece_0 : decode (zb m_E_piece) 0 = .ok (.aload_n 0, 1) := by decide +kernel
theorem d_E_piece_1 : decode (zb m_E_piece) 1 = .ok (.getfield 21, 3) := by decide +kernel
theorem d_E_piece_4 : decode (zb m_E_piece) 4 = .ok (.invokevirtual 74, 3) := by decide +kernel
theorem d_E_piece_7 : decode (zb m_E_piece) 7 = .ok (.ifCond .ne 6, 3) := by decide +kernel
theorem d_E_piece_10 : decode (zb m_E_piece) 10 = .ok (.bipush (-3), 2) := by decide +kernel
theorem d_E_piece_12 : decode (zb m_E_piece) 12 = .ok (.ireturn, 1) := by decide +kernel
theorem d_E_piece_13 : decode (zb m_E_piece) 13 = .ok (.aload_n 0, 1) := by decide +kernel
theorem d_E_piece_14 : decode (zb m_E_piece) 14 = .ok (.invokevirtual 106, 3) := by decide +kernel
theorem d_E_piece_17 : decode (zb m_E_piece) 17 = .ok (.iload_n 1, 1) := by decide +kernel
theorem d_E_piece_18 : decode (zb m_E_piece) 18 = .ok (.ifCond .lt 14, 3) := by decide +kernel
theorem d_E_piece_21 : decode (zb m_E_piece) 21 = .ok (.iload_n 1, 1) := by decide +kernel
theorem d_E_piece_22 : decode (zb m_E_piece) 22 = .ok (.aload_n 0, 1) := by decide +kernel
theorem d_E_piece_23 : decode (zb m_E_piece) 23 = .ok (.getfield 43, 3) := by decide +kernel
theorem d_E_piece_26 : decode (zb m_E_piece) 26 = .ok (.invokevirtual 113, 3) := by decide +kernel
theorem d_E_piece_29 : decode (zb m_E_piece) 29 = .ok (.if_icmp .lt 5, 3) := by decide +kernel
theorem d_E_piece_32 : decode (zb m_E_piece) 32 = .ok (.iconst (-1), 1) := by decide +kernel
theorem d_E_piece_33 : decode (zb m_E_piece) 33 = .ok (.ireturn, 1) := by decide +kernel
theorem d_E_piece_34 : decode (zb m_E_piece) 34 = .ok (.iload_n 2, 1) := by decide +kernel
theorem d_E_piece_35 : decode (zb m_E_piece) 35 = .ok (.ifCond .lt 8, 3) := by decide +kernel
theorem d_E_piece_38 : decode (zb m_E_piece) 38 = .ok (.iload_n 2, 1) := by decide +kernel
theorem d_E_piece_39 : decode (zb m_E_piece) 39 = .ok (.iconst 2, 1) := by decide +kernel
theorem d_E_piece_40 : decode (zb m_E_piece) 40 = .ok (.if_icmp .le 8, 3) := by decide +kernel
theorem d_E_piece_43 : decode (zb m_E_piece) 43 = .ok (.bipush (-2), 2) := by decide +kernel
theorem d_E_piece_45 : decode (zb m_E_piece) 45 = .ok (.goto 15, 3) := by decide +kernel
theorem d_E_piece_48 : decode (zb m_E_piece) 48 = .ok (.aload_n 0, 1) := by decide +kernel
theorem d_E_piece_49 : decode (zb m_E_piece) 49 = .ok (.getfield 43, 3) := by decide +kernel
theorem d_E_piece_52 : decode (zb m_E_piece) 52 = .ok (.iload_n 1, 1) := by decide +kernel
theorem d_E_piece_53 : decode (zb m_E_piece) 53 = .ok (.invokevirtual 117, 3) := by decide +kernel
theorem d_E_piece_56 : decode (zb m_E_piece) 56 = .ok (.iload_n 2, 1) := by decide +kernel
theorem d_E_piece_57 : decode (zb m_E_piece) 57 = .ok (.invokevirtual 124, 3) := by decide +kernel
theorem d_E_piece_60 : decode (zb m_E_piece) 60 = .ok (.ireturn, 1) := by decide +kernel
theorem d_E_place_0 : decode (zb m_E_place) 0 = .ok (.aload_n 0, 1) := by decide +kernel
theorem d_E_place_1 : decode (zb m_E_place) 1 = .ok (.invokevirtual 71, 3) := by decide +kernel
theorem d_E_place_4 : decode (zb m_E_place) 4 = .ok (.bipush (-6), 2) := by decide +kernel
theorem d_E_place_6 : decode (zb m_E_place) 6 = .ok (.if_icmp .eq 6, 3) := by decide +kernel
theorem d_E_place_9 : decode (zb m_E_place) 9 = .ok (.bipush (-5), 2) := by decide +kernel
theorem d_E_place_11 : decode (zb m_E_place) 11 = .ok (.ireturn, 1) := by decide +kernel
theorem d_E_place_12 : decode (zb m_E_place) 12 = .ok (.iload_n 1, 1) := by decide +kernel
theorem d_E_place_13 : decode (zb m_E_place) 13 = .ok (.invokestatic 128, 3) := by decide +kernel
theorem d_E_place_16 : decode (zb m_E_place) 16 = .ok (.istore_n 2, 1) := by decide +kernel
theorem d_E_place_17 : decode (zb m_E_place) 17 = .ok (.iload_n 2, 1) := by decide +kernel
theorem d_E_place_18 : decode (zb m_E_place) 18 = .ok (.ifCond .ge 8, 3) := by decide +kernel
theorem d_E_place_21 : decode (zb m_E_place) 21 = .ok (.bipush (-2), 2) := by decide +kernel
theorem d_E_place_23 : decode (zb m_E_place) 23 = .ok (.goto 11, 3) := by decide +kernel
theorem d_E_place_26 : decode (zb m_E_place) 26 = .ok (.aload_n 0, 1) := by decide +kernel
theorem d_E_place_27 : decode (zb m_E_place) 27 = .ok (.getfield 14, 3) := by decide +kernel
theorem d_E_place_30 : decode (zb m_E_place) 30 = .ok (.iload_n 2, 1) := by decide +kernel
theorem d_E_place_31 : decode (zb m_E_place) 31 = .ok (.invokestatic 133, 3) := by decide +kernel
theorem d_E_place_34 : decode (zb m_E_place) 34 = .ok (.ireturn, 1) := by decide +kernel
theorem d_E_makes_0 : decode (zb m_E_makes) 0 = .ok (.aload_n 0, 1) := by decide +kernel
theorem d_E_makes_1 : decode (zb m_E_makes) 1 = .ok (.invokevirtual 71, 3) := by decide +kernel
theorem d_E_makes_4 : decode (zb m_E_makes) 4 = .ok (.bipush (-6), 2) := by decide +kernel
theorem d_E_makes_6 : decode (zb m_E_makes) 6 = .ok (.if_icmp .eq 6, 3) := by decide +kernel
theorem d_E_makes_9 : decode (zb m_E_makes) 9 = .ok (.bipush (-5), 2) := by decide +kernel
theorem d_E_makes_11 : decode (zb m_E_makes) 11 = .ok (.ireturn, 1) := by decide +kernel
theorem d_E_makes_12 : decode (zb m_E_makes) 12 = .ok (.aload_n 0, 1) := by decide +kernel
theorem d_E_makes_13 : decode (zb m_E_makes) 13 = .ok (.getfield 21, 3) := by decide +kernel
theorem d_E_makes_16 : decode (zb m_E_makes) 16 = .ok (.invokevirtual 74, 3) := by decide +kernel
theorem d_E_makes_19 : decode (zb m_E_makes) 19 = .ok (.ifCond .ne 6, 3) := by decide +kernel
theorem d_E_makes_22 : decode (zb m_E_makes) 22 = .ok (.bipush (-3), 2) := by decide +kernel
theorem d_E_makes_24 : decode (zb m_E_makes) 24 = .ok (.ireturn, 1) := by decide +kernel
theorem d_E_makes_25 : decode (zb m_E_makes) 25 = .ok (.aload_n 0, 1) := by decide +kernel
theorem d_E_makes_26 : decode (zb m_E_makes) 26 = .ok (.invokevirtual 106, 3) := by decide +kernel
theorem d_E_makes_29 : decode (zb m_E_makes) 29 = .ok (.aload_n 0, 1) := by decide +kernel
theorem d_E_makes_30 : decode (zb m_E_makes) 30 = .ok (.getfield 43, 3) := by decide +kernel
theorem d_E_makes_33 : decode (zb m_E_makes) 33 = .ok (.invokevirtual 113, 3) := by decide +kernel
theorem d_E_makes_36 : decode (zb m_E_makes) 36 = .ok (.ifCond .ne 6, 3) := by decide +kernel
theorem d_E_makes_39 : decode (zb m_E_makes) 39 = .ok (.bipush (-6), 2) := by decide +kernel
theorem d_E_makes_41 : decode (zb m_E_makes) 41 = .ok (.ireturn, 1) := by decide +kernel
theorem d_E_makes_42 : decode (zb m_E_makes) 42 = .ok (.aload_n 0, 1) := by decide +kernel
theorem d_E_makes_43 : decode (zb m_E_makes) 43 = .ok (.getfield 43, 3) := by decide +kernel
theorem d_E_makes_46 : decode (zb m_E_makes) 46 = .ok (.aload_n 0, 1) := by decide +kernel
theorem d_E_makes_47 : decode (zb m_E_makes) 47 = .ok (.getfield 14, 3) := by decide +kernel
theorem d_E_makes_50 : decode (zb m_E_makes) 50 = .ok (.aload_n 0, 1) := by decide +kernel
theorem d_E_makes_51 : decode (zb m_E_makes) 51 = .ok (.getfield 47, 3) := by decide +kernel
theorem d_E_makes_54 : decode (zb m_E_makes) 54 = .ok (.invokevirtual 137, 3) := by decide +kernel
theorem d_E_makes_57 : decode (zb m_E_makes) 57 = .ok (.iload_n 1, 1) := by decide +kernel
theorem d_E_makes_58 : decode (zb m_E_makes) 58 = .ok (.iconst (-1), 1) := by decide +kernel
theorem d_E_makes_59 : decode (zb m_E_makes) 59 = .ok (.if_icmp .ne 11, 3) := by decide +kernel
theorem d_E_makes_62 : decode (zb m_E_makes) 62 = .ok (.aload_n 0, 1) := by decide +kernel
theorem d_E_makes_63 : decode (zb m_E_makes) 63 = .ok (.getfield 47, 3) := by decide +kernel
theorem d_E_makes_66 : decode (zb m_E_makes) 66 = .ok (.invokevirtual 61, 3) := by decide +kernel
theorem d_E_makes_69 : decode (zb m_E_makes) 69 = .ok (.ireturn, 1) := by decide +kernel
theorem d_E_makes_70 : decode (zb m_E_makes) 70 = .ok (.iload_n 1, 1) := by decide +kernel
theorem d_E_makes_71 : decode (zb m_E_makes) 71 = .ok (.ifCond .lt 25, 3) := by decide +kernel
theorem d_E_makes_74 : decode (zb m_E_makes) 74 = .ok (.iload_n 1, 1) := by decide +kernel
theorem d_E_makes_75 : decode (zb m_E_makes) 75 = .ok (.aload_n 0, 1) := by decide +kernel
theorem d_E_makes_76 : decode (zb m_E_makes) 76 = .ok (.getfield 47, 3) := by decide +kernel
theorem d_E_makes_79 : decode (zb m_E_makes) 79 = .ok (.invokevirtual 61, 3) := by decide +kernel
theorem d_E_makes_82 : decode (zb m_E_makes) 82 = .ok (.if_icmp .ge 14, 3) := by decide +kernel
theorem d_E_makes_85 : decode (zb m_E_makes) 85 = .ok (.aload_n 0, 1) := by decide +kernel
theorem d_E_makes_86 : decode (zb m_E_makes) 86 = .ok (.getfield 47, 3) := by decide +kernel
theorem d_E_makes_89 : decode (zb m_E_makes) 89 = .ok (.iload_n 1, 1) := by decide +kernel
theorem d_E_makes_90 : decode (zb m_E_makes) 90 = .ok (.invokevirtual 141, 3) := by decide +kernel
theorem d_E_makes_93 : decode (zb m_E_makes) 93 = .ok (.goto 5, 3) := by decide +kernel
theorem d_E_makes_96 : decode (zb m_E_makes) 96 = .ok (.bipush (-6), 2) := by decide +kernel
theorem d_E_makes_98 : decode (zb m_E_makes) 98 = .ok (.ireturn, 1) := by decide +kernel
theorem d_E_accept_0 : decode (zb m_E_accept) 0 = .ok (.aload_n 0, 1) := by decide +kernel
theorem d_E_accept_1 : decode (zb m_E_accept) 1 = .ok (.getfield 21, 3) := by decide +kernel
theorem d_E_accept_4 : decode (zb m_E_accept) 4 = .ok (.iload_n 1, 1) := by decide +kernel
theorem d_E_accept_5 : decode (zb m_E_accept) 5 = .ok (.invokevirtual 98, 3) := by decide +kernel
theorem d_E_accept_8 : decode (zb m_E_accept) 8 = .ok (.ifCond .ne 5, 3) := by decide +kernel
theorem d_E_accept_11 : decode (zb m_E_accept) 11 = .ok (.iconst (-1), 1) := by decide +kernel
theorem d_E_accept_12 : decode (zb m_E_accept) 12 = .ok (.ireturn, 1) := by decide +kernel
theorem d_E_accept_13 : decode (zb m_E_accept) 13 = .ok (.aload_n 0, 1) := by decide +kernel
theorem d_E_accept_14 : decode (zb m_E_accept) 14 = .ok (.getfield 21, 3) := by decide +kernel
theorem d_E_accept_17 : decode (zb m_E_accept) 17 = .ok (.invokevirtual 74, 3) := by decide +kernel
theorem d_E_accept_20 : decode (zb m_E_accept) 20 = .ok (.ifCond .ne 6, 3) := by decide +kernel
theorem d_E_accept_23 : decode (zb m_E_accept) 23 = .ok (.bipush (-3), 2) := by decide +kernel
theorem d_E_accept_25 : decode (zb m_E_accept) 25 = .ok (.ireturn, 1) := by decide +kernel
theorem d_E_accept_26 : decode (zb m_E_accept) 26 = .ok (.aload_n 0, 1) := by decide +kernel
theorem d_E_accept_27 : decode (zb m_E_accept) 27 = .ok (.invokevirtual 106, 3) := by decide +kernel
theorem d_E_accept_30 : decode (zb m_E_accept) 30 = .ok (.aload_n 0, 1) := by decide +kernel
theorem d_E_accept_31 : decode (zb m_E_accept) 31 = .ok (.iload_n 1, 1) := by decide +kernel
theorem d_E_accept_32 : decode (zb m_E_accept) 32 = .ok (.invokevirtual 143, 3) := by decide +kernel
theorem d_E_accept_35 : decode (zb m_E_accept) 35 = .ok (.ifCond .ne 6, 3) := by decide +kernel
theorem d_E_accept_38 : decode (zb m_E_accept) 38 = .ok (.bipush (-5), 2) := by decide +kernel
theorem d_E_accept_40 : decode (zb m_E_accept) 40 = .ok (.ireturn, 1) := by decide +kernel
theorem d_E_accept_41 : decode (zb m_E_accept) 41 = .ok (.aload_n 0, 1) := by decide +kernel
theorem d_E_accept_42 : decode (zb m_E_accept) 42 = .ok (.getfield 21, 3) := by decide +kernel
theorem d_E_accept_45 : decode (zb m_E_accept) 45 = .ok (.invokevirtual 74, 3) := by decide +kernel
theorem d_E_accept_48 : decode (zb m_E_accept) 48 = .ok (.iconst 3, 1) := by decide +kernel
theorem d_E_accept_49 : decode (zb m_E_accept) 49 = .ok (.if_icmp .lt 6, 3) := by decide +kernel
theorem d_E_accept_52 : decode (zb m_E_accept) 52 = .ok (.bipush (-4), 2) := by decide +kernel
theorem d_E_accept_54 : decode (zb m_E_accept) 54 = .ok (.ireturn, 1) := by decide +kernel
theorem d_E_accept_55 : decode (zb m_E_accept) 55 = .ok (.aload_n 0, 1) := by decide +kernel
theorem d_E_accept_56 : decode (zb m_E_accept) 56 = .ok (.getfield 21, 3) := by decide +kernel
theorem d_E_accept_59 : decode (zb m_E_accept) 59 = .ok (.iload_n 1, 1) := by decide +kernel
theorem d_E_accept_60 : decode (zb m_E_accept) 60 = .ok (.invokevirtual 146, 3) := by decide +kernel
theorem d_E_accept_63 : decode (zb m_E_accept) 63 = .ok (.astore_n 2, 1) := by decide +kernel
theorem d_E_accept_64 : decode (zb m_E_accept) 64 = .ok (.aload_n 0, 1) := by decide +kernel
theorem d_E_accept_65 : decode (zb m_E_accept) 65 = .ok (.getfield 21, 3) := by decide +kernel
theorem d_E_accept_68 : decode (zb m_E_accept) 68 = .ok (.aload_n 2, 1) := by decide +kernel
theorem d_E_accept_69 : decode (zb m_E_accept) 69 = .ok (.aload_n 2, 1) := by decide +kernel
theorem d_E_accept_70 : decode (zb m_E_accept) 70 = .ok (.invokevirtual 61, 3) := by decide +kernel
theorem d_E_accept_73 : decode (zb m_E_accept) 73 = .ok (.aload_n 0, 1) := by decide +kernel
theorem d_E_accept_74 : decode (zb m_E_accept) 74 = .ok (.getfield 47, 3) := by decide +kernel
theorem d_E_accept_77 : decode (zb m_E_accept) 77 = .ok (.iconst 0, 1) := by decide +kernel
theorem d_E_accept_78 : decode (zb m_E_accept) 78 = .ok (.invokevirtual 81, 3) := by decide +kernel
theorem d_E_accept_81 : decode (zb m_E_accept) 81 = .ok (.aload_n 0, 1) := by decide +kernel
theorem d_E_accept_82 : decode (zb m_E_accept) 82 = .ok (.getfield 21, 3) := by decide +kernel
theorem d_E_accept_85 : decode (zb m_E_accept) 85 = .ok (.iload_n 1, 1) := by decide +kernel
theorem d_E_accept_86 : decode (zb m_E_accept) 86 = .ok (.invokevirtual 101, 3) := by decide +kernel
theorem d_E_accept_89 : decode (zb m_E_accept) 89 = .ok (.aload_n 0, 1) := by decide +kernel
theorem d_E_accept_90 : decode (zb m_E_accept) 90 = .ok (.invokevirtual 85, 3) := by decide +kernel
theorem d_E_accept_93 : decode (zb m_E_accept) 93 = .ok (.aload_n 0, 1) := by decide +kernel
theorem d_E_accept_94 : decode (zb m_E_accept) 94 = .ok (.getfield 21, 3) := by decide +kernel
theorem d_E_accept_97 : decode (zb m_E_accept) 97 = .ok (.invokevirtual 74, 3) := by decide +kernel
theorem d_E_accept_100 : decode (zb m_E_accept) 100 = .ok (.ireturn, 1) := by decide +kernel
theorem d_E_agreeing_0 : decode (zb m_E_agreeing) 0 = .ok (.aload_n 0, 1) := by decide +kernel
theorem d_E_agreeing_1 : decode (zb m_E_agreeing) 1 = .ok (.getfield 21, 3) := by decide +kernel
theorem d_E_agreeing_4 : decode (zb m_E_agreeing) 4 = .ok (.iload_n 1, 1) := by decide +kernel
theorem d_E_agreeing_5 : decode (zb m_E_agreeing) 5 = .ok (.invokevirtual 98, 3) := by decide +kernel
theorem d_E_agreeing_8 : decode (zb m_E_agreeing) 8 = .ok (.ifCond .ne 7, 3) := by decide +kernel
theorem d_E_agreeing_11 : decode (zb m_E_agreeing) 11 = .ok (.ldc2_w 150, 3) := by decide +kernel
theorem d_E_agreeing_14 : decode (zb m_E_agreeing) 14 = .ok (.lreturn, 1) := by decide +kernel
theorem d_E_agreeing_15 : decode (zb m_E_agreeing) 15 = .ok (.aload_n 0, 1) := by decide +kernel
theorem d_E_agreeing_16 : decode (zb m_E_agreeing) 16 = .ok (.getfield 21, 3) := by decide +kernel
theorem d_E_agreeing_19 : decode (zb m_E_agreeing) 19 = .ok (.invokevirtual 74, 3) := by decide +kernel
theorem d_E_agreeing_22 : decode (zb m_E_agreeing) 22 = .ok (.ifCond .ne 7, 3) := by decide +kernel
theorem d_E_agreeing_25 : decode (zb m_E_agreeing) 25 = .ok (.ldc2_w 104, 3) := by decide +kernel
theorem d_E_agreeing_28 : decode (zb m_E_agreeing) 28 = .ok (.lreturn, 1) := by decide +kernel
theorem d_E_agreeing_29 : decode (zb m_E_agreeing) 29 = .ok (.aload_n 0, 1) := by decide +kernel
theorem d_E_agreeing_30 : decode (zb m_E_agreeing) 30 = .ok (.invokevirtual 106, 3) := by decide +kernel
theorem d_E_agreeing_33 : decode (zb m_E_agreeing) 33 = .ok (.aload_n 0, 1) := by decide +kernel
theorem d_E_agreeing_34 : decode (zb m_E_agreeing) 34 = .ok (.iload_n 1, 1) := by decide +kernel
theorem d_E_agreeing_35 : decode (zb m_E_agreeing) 35 = .ok (.invokevirtual 143, 3) := by decide +kernel
theorem d_E_agreeing_38 : decode (zb m_E_agreeing) 38 = .ok (.ifCond .eq 11, 3) := by decide +kernel
theorem d_E_agreeing_41 : decode (zb m_E_agreeing) 41 = .ok (.aload_n 0, 1) := by decide +kernel
theorem d_E_agreeing_42 : decode (zb m_E_agreeing) 42 = .ok (.iload_n 1, 1) := by decide +kernel
theorem d_E_agreeing_43 : decode (zb m_E_agreeing) 43 = .ok (.invokevirtual 152, 3) := by decide +kernel
theorem d_E_agreeing_46 : decode (zb m_E_agreeing) 46 = .ok (.goto 6, 3) := by decide +kernel
theorem d_E_agreeing_49 : decode (zb m_E_agreeing) 49 = .ok (.ldc2_w 156, 3) := by decide +kernel
theorem d_E_agreeing_52 : decode (zb m_E_agreeing) 52 = .ok (.lreturn, 1) := by decide +kernel
theorem d_E_asked_0 : decode (zb m_E_asked) 0 = .ok (.aload_n 0, 1) := by decide +kernel
theorem d_E_asked_1 : decode (zb m_E_asked) 1 = .ok (.getfield 21, 3) := by decide +kernel
theorem d_E_asked_4 : decode (zb m_E_asked) 4 = .ok (.invokevirtual 74, 3) := by decide +kernel
theorem d_E_asked_7 : decode (zb m_E_asked) 7 = .ok (.ifCond .ne 6, 3) := by decide +kernel
theorem d_E_asked_10 : decode (zb m_E_asked) 10 = .ok (.bipush (-3), 2) := by decide +kernel
theorem d_E_asked_12 : decode (zb m_E_asked) 12 = .ok (.ireturn, 1) := by decide +kernel
theorem d_E_asked_13 : decode (zb m_E_asked) 13 = .ok (.aload_n 0, 1) := by decide +kernel
theorem d_E_asked_14 : decode (zb m_E_asked) 14 = .ok (.invokevirtual 106, 3) := by decide +kernel
theorem d_E_asked_17 : decode (zb m_E_asked) 17 = .ok (.bipush (-6), 2) := by decide +kernel
theorem d_E_asked_19 : decode (zb m_E_asked) 19 = .ok (.istore_n 1, 1) := by decide +kernel
theorem d_E_asked_20 : decode (zb m_E_asked) 20 = .ok (.lconst 0, 1) := by decide +kernel
theorem d_E_asked_21 : decode (zb m_E_asked) 21 = .ok (.lstore_n 2, 1) := by decide +kernel
theorem d_E_asked_22 : decode (zb m_E_asked) 22 = .ok (.iconst 0, 1) := by decide +kernel
theorem d_E_asked_23 : decode (zb m_E_asked) 23 = .ok (.istore 4, 2) := by decide +kernel
theorem d_E_asked_25 : decode (zb m_E_asked) 25 = .ok (.iload 4, 2) := by decide +kernel
theorem d_E_asked_27 : decode (zb m_E_asked) 27 = .ok (.aload_n 0, 1) := by decide +kernel
theorem d_E_asked_28 : decode (zb m_E_asked) 28 = .ok (.getfield 21, 3) := by decide +kernel
theorem d_E_asked_31 : decode (zb m_E_asked) 31 = .ok (.invokevirtual 91, 3) := by decide +kernel
theorem d_E_asked_34 : decode (zb m_E_asked) 34 = .ok (.if_icmp .ge 45, 3) := by decide +kernel
theorem d_E_asked_37 : decode (zb m_E_asked) 37 = .ok (.aload_n 0, 1) := by decide +kernel
theorem d_E_asked_38 : decode (zb m_E_asked) 38 = .ok (.iload 4, 2) := by decide +kernel
theorem d_E_asked_40 : decode (zb m_E_asked) 40 = .ok (.invokevirtual 143, 3) := by decide +kernel
theorem d_E_asked_43 : decode (zb m_E_asked) 43 = .ok (.ifCond .eq 30, 3) := by decide +kernel
theorem d_E_asked_46 : decode (zb m_E_asked) 46 = .ok (.aload_n 0, 1) := by decide +kernel
theorem d_E_asked_47 : decode (zb m_E_asked) 47 = .ok (.iload 4, 2) := by decide +kernel
theorem d_E_asked_49 : decode (zb m_E_asked) 49 = .ok (.invokevirtual 152, 3) := by decide +kernel
theorem d_E_asked_52 : decode (zb m_E_asked) 52 = .ok (.lstore 5, 2) := by decide +kernel
theorem d_E_asked_54 : decode (zb m_E_asked) 54 = .ok (.iload_n 1, 1) := by decide +kernel
theorem d_E_asked_55 : decode (zb m_E_asked) 55 = .ok (.bipush (-6), 2) := by decide +kernel
theorem d_E_asked_57 : decode (zb m_E_asked) 57 = .ok (.if_icmp .eq 10, 3) := by decide +kernel
theorem d_E_asked_60 : decode (zb m_E_asked) 60 = .ok (.lload 5, 2) := by decide +kernel
theorem d_E_asked_62 : decode (zb m_E_asked) 62 = .ok (.lload_n 2, 1) := by decide +kernel
theorem d_E_asked_63 : decode (zb m_E_asked) 63 = .ok (.lcmp, 1) := by decide +kernel
theorem d_E_asked_64 : decode (zb m_E_asked) 64 = .ok (.ifCond .ge 9, 3) := by decide +kernel
theorem d_E_asked_67 : decode (zb m_E_asked) 67 = .ok (.iload 4, 2) := by decide +kernel
theorem d_E_asked_69 : decode (zb m_E_asked) 69 = .ok (.istore_n 1, 1) := by decide +kernel
theorem d_E_asked_70 : decode (zb m_E_asked) 70 = .ok (.lload 5, 2) := by decide +kernel
theorem d_E_asked_72 : decode (zb m_E_asked) 72 = .ok (.lstore_n 2, 1) := by decide +kernel
theorem d_E_asked_73 : decode (zb m_E_asked) 73 = .ok (.iinc 4 1, 3) := by decide +kernel
theorem d_E_asked_76 : decode (zb m_E_asked) 76 = .ok (.goto (-51), 3) := by decide +kernel
theorem d_E_asked_79 : decode (zb m_E_asked) 79 = .ok (.iload_n 1, 1) := by decide +kernel
theorem d_E_asked_80 : decode (zb m_E_asked) 80 = .ok (.ireturn, 1) := by decide +kernel
theorem d_E_image_0 : decode (zb m_E_image) 0 = .ok (.iload_n 1, 1) := by decide +kernel
theorem d_E_image_1 : decode (zb m_E_image) 1 = .ok (.ifCond .lt 8, 3) := by decide +kernel
theorem d_E_image_4 : decode (zb m_E_image) 4 = .ok (.iload_n 1, 1) := by decide +kernel
theorem d_E_image_5 : decode (zb m_E_image) 5 = .ok (.iconst 2, 1) := by decide +kernel
theorem d_E_image_6 : decode (zb m_E_image) 6 = .ok (.if_icmp .lt 6, 3) := by decide +kernel
theorem d_E_image_9 : decode (zb m_E_image) 9 = .ok (.bipush (-2), 2) := by decide +kernel
theorem d_E_image_11 : decode (zb m_E_image) 11 = .ok (.ireturn, 1) := by decide +kernel
theorem d_E_image_12 : decode (zb m_E_image) 12 = .ok (.aload_n 0, 1) := by decide +kernel
theorem d_E_image_13 : decode (zb m_E_image) 13 = .ok (.getfield 25, 3) := by decide +kernel
theorem d_E_image_16 : decode (zb m_E_image) 16 = .ok (.iload_n 1, 1) := by decide +kernel
theorem d_E_image_17 : decode (zb m_E_image) 17 = .ok (.aaload, 1) := by decide +kernel
theorem d_E_image_18 : decode (zb m_E_image) 18 = .ok (.aload_n 0, 1) := by decide +kernel
theorem d_E_image_19 : decode (zb m_E_image) 19 = .ok (.getfield 21, 3) := by decide +kernel
theorem d_E_image_22 : decode (zb m_E_image) 22 = .ok (.invokevirtual 158, 3) := by decide +kernel
theorem d_E_image_25 : decode (zb m_E_image) 25 = .ok (.aload_n 0, 1) := by decide +kernel
theorem d_E_image_26 : decode (zb m_E_image) 26 = .ok (.getfield 29, 3) := by decide +kernel
theorem d_E_image_29 : decode (zb m_E_image) 29 = .ok (.iload_n 1, 1) := by decide +kernel
theorem d_E_image_30 : decode (zb m_E_image) 30 = .ok (.iconst 1, 1) := by decide +kernel
theorem d_E_image_31 : decode (zb m_E_image) 31 = .ok (.bastore, 1) := by decide +kernel
theorem d_E_image_32 : decode (zb m_E_image) 32 = .ok (.iconst 1, 1) := by decide +kernel
theorem d_E_image_33 : decode (zb m_E_image) 33 = .ok (.ireturn, 1) := by decide +kernel
theorem d_E_restore_0 : decode (zb m_E_restore) 0 = .ok (.iload_n 1, 1) := by decide +kernel
theorem d_E_restore_1 : decode (zb m_E_restore) 1 = .ok (.ifCond .lt 8, 3) := by decide +kernel
theorem d_E_restore_4 : decode (zb m_E_restore) 4 = .ok (.iload_n 1, 1) := by decide +kernel
theorem d_E_restore_5 : decode (zb m_E_restore) 5 = .ok (.iconst 2, 1) := by decide +kernel
theorem d_E_restore_6 : decode (zb m_E_restore) 6 = .ok (.if_icmp .lt 6, 3) := by decide +kernel
theorem d_E_restore_9 : decode (zb m_E_restore) 9 = .ok (.bipush (-2), 2) := by decide +kernel
theorem d_E_restore_11 : decode (zb m_E_restore) 11 = .ok (.ireturn, 1) := by decide +kernel
theorem d_E_restore_12 : decode (zb m_E_restore) 12 = .ok (.aload_n 0, 1) := by decide +kernel
theorem d_E_restore_13 : decode (zb m_E_restore) 13 = .ok (.getfield 29, 3) := by decide +kernel
theorem d_E_restore_16 : decode (zb m_E_restore) 16 = .ok (.iload_n 1, 1) := by decide +kernel
theorem d_E_restore_17 : decode (zb m_E_restore) 17 = .ok (.baload, 1) := by decide +kernel
theorem d_E_restore_18 : decode (zb m_E_restore) 18 = .ok (.ifCond .ne 6, 3) := by decide +kernel
theorem d_E_restore_21 : decode (zb m_E_restore) 21 = .ok (.bipush (-3), 2) := by decide +kernel
theorem d_E_restore_23 : decode (zb m_E_restore) 23 = .ok (.ireturn, 1) := by decide +kernel
theorem d_E_restore_24 : decode (zb m_E_restore) 24 = .ok (.aload_n 0, 1) := by decide +kernel
theorem d_E_restore_25 : decode (zb m_E_restore) 25 = .ok (.getfield 21, 3) := by decide +kernel
theorem d_E_restore_28 : decode (zb m_E_restore) 28 = .ok (.aload_n 0, 1) := by decide +kernel
theorem d_E_restore_29 : decode (zb m_E_restore) 29 = .ok (.getfield 25, 3) := by decide +kernel
theorem d_E_restore_32 : decode (zb m_E_restore) 32 = .ok (.iload_n 1, 1) := by decide +kernel
theorem d_E_restore_33 : decode (zb m_E_restore) 33 = .ok (.aaload, 1) := by decide +kernel
theorem d_E_restore_34 : decode (zb m_E_restore) 34 = .ok (.invokevirtual 158, 3) := by decide +kernel
theorem d_E_restore_37 : decode (zb m_E_restore) 37 = .ok (.aload_n 0, 1) := by decide +kernel
theorem d_E_restore_38 : decode (zb m_E_restore) 38 = .ok (.invokevirtual 85, 3) := by decide +kernel
theorem d_E_restore_41 : decode (zb m_E_restore) 41 = .ok (.iconst 1, 1) := by decide +kernel
theorem d_E_restore_42 : decode (zb m_E_restore) 42 = .ok (.ireturn, 1) := by decide +kernel
theorem d_E_told_0 : decode (zb m_E_told) 0 = .ok (.iload_n 1, 1) := by decide +kernel
theorem d_E_told_1 : decode (zb m_E_told) 1 = .ok (.ifCond .ne 11, 3) := by decide +kernel
theorem d_E_told_4 : decode (zb m_E_told) 4 = .ok (.aload_n 0, 1) := by decide +kernel
theorem d_E_told_5 : decode (zb m_E_told) 5 = .ok (.getfield 14, 3) := by decide +kernel
theorem d_E_told_8 : decode (zb m_E_told) 8 = .ok (.invokevirtual 61, 3) := by decide +kernel
theorem d_E_told_11 : decode (zb m_E_told) 11 = .ok (.ireturn, 1) := by decide +kernel
theorem d_E_told_12 : decode (zb m_E_told) 12 = .ok (.iload_n 1, 1) := by decide +kernel
theorem d_E_told_13 : decode (zb m_E_told) 13 = .ok (.iconst 1, 1) := by decide +kernel
theorem d_E_told_14 : decode (zb m_E_told) 14 = .ok (.if_icmp .ne 11, 3) := by decide +kernel
theorem d_E_told_17 : decode (zb m_E_told) 17 = .ok (.aload_n 0, 1) := by decide +kernel
theorem d_E_told_18 : decode (zb m_E_told) 18 = .ok (.getfield 21, 3) := by decide +kernel
theorem d_E_told_21 : decode (zb m_E_told) 21 = .ok (.invokevirtual 74, 3) := by decide +kernel
theorem d_E_told_24 : decode (zb m_E_told) 24 = .ok (.ireturn, 1) := by decide +kernel
theorem d_E_told_25 : decode (zb m_E_told) 25 = .ok (.iload_n 1, 1) := by decide +kernel
theorem d_E_told_26 : decode (zb m_E_told) 26 = .ok (.iconst 2, 1) := by decide +kernel
theorem d_E_told_27 : decode (zb m_E_told) 27 = .ok (.if_icmp .ne 11, 3) := by decide +kernel
theorem d_E_told_30 : decode (zb m_E_told) 30 = .ok (.aload_n 0, 1) := by decide +kernel
theorem d_E_told_31 : decode (zb m_E_told) 31 = .ok (.getfield 21, 3) := by decide +kernel
theorem d_E_told_34 : decode (zb m_E_told) 34 = .ok (.invokevirtual 91, 3) := by decide +kernel
theorem d_E_told_37 : decode (zb m_E_told) 37 = .ok (.ireturn, 1) := by decide +kernel
theorem d_E_told_38 : decode (zb m_E_told) 38 = .ok (.iload_n 1, 1) := by decide +kernel
theorem d_E_told_39 : decode (zb m_E_told) 39 = .ok (.bipush 10, 2) := by decide +kernel
theorem d_E_told_41 : decode (zb m_E_told) 41 = .ok (.if_icmp .lt 32, 3) := by decide +kernel
theorem d_E_told_44 : decode (zb m_E_told) 44 = .ok (.iload_n 1, 1) := by decide +kernel
theorem d_E_told_45 : decode (zb m_E_told) 45 = .ok (.bipush 10, 2) := by decide +kernel
theorem d_E_told_47 : decode (zb m_E_told) 47 = .ok (.aload_n 0, 1) := by decide +kernel
theorem d_E_told_48 : decode (zb m_E_told) 48 = .ok (.getfield 21, 3) := by decide +kernel
theorem d_E_told_51 : decode (zb m_E_told) 51 = .ok (.invokevirtual 74, 3) := by decide +kernel
theorem d_E_told_54 : decode (zb m_E_told) 54 = .ok (.iadd, 1) := by decide +kernel
theorem d_E_told_55 : decode (zb m_E_told) 55 = .ok (.if_icmp .ge 18, 3) := by decide +kernel
theorem d_E_told_58 : decode (zb m_E_told) 58 = .ok (.aload_n 0, 1) := by decide +kernel
theorem d_E_told_59 : decode (zb m_E_told) 59 = .ok (.getfield 21, 3) := by decide +kernel
theorem d_E_told_62 : decode (zb m_E_told) 62 = .ok (.iload_n 1, 1) := by decide +kernel
theorem d_E_told_63 : decode (zb m_E_told) 63 = .ok (.bipush 10, 2) := by decide +kernel
theorem d_E_told_65 : decode (zb m_E_told) 65 = .ok (.isub, 1) := by decide +kernel
theorem d_E_told_66 : decode (zb m_E_told) 66 = .ok (.invokevirtual 162, 3) := by decide +kernel
theorem d_E_told_69 : decode (zb m_E_told) 69 = .ok (.invokevirtual 61, 3) := by decide +kernel
theorem d_E_told_72 : decode (zb m_E_told) 72 = .ok (.ireturn, 1) := by decide +kernel
theorem d_E_told_73 : decode (zb m_E_told) 73 = .ok (.iload_n 1, 1) := by decide +kernel
theorem d_E_told_74 : decode (zb m_E_told) 74 = .ok (.bipush 20, 2) := by decide +kernel
theorem d_E_told_76 : decode (zb m_E_told) 76 = .ok (.if_icmp .lt 32, 3) := by decide +kernel
theorem d_E_told_79 : decode (zb m_E_told) 79 = .ok (.iload_n 1, 1) := by decide +kernel
theorem d_E_told_80 : decode (zb m_E_told) 80 = .ok (.bipush 20, 2) := by decide +kernel
theorem d_E_told_82 : decode (zb m_E_told) 82 = .ok (.aload_n 0, 1) := by decide +kernel
theorem d_E_told_83 : decode (zb m_E_told) 83 = .ok (.getfield 21, 3) := by decide +kernel
theorem d_E_told_86 : decode (zb m_E_told) 86 = .ok (.invokevirtual 74, 3) := by decide +kernel
theorem d_E_told_89 : decode (zb m_E_told) 89 = .ok (.iadd, 1) := by decide +kernel
theorem d_E_told_90 : decode (zb m_E_told) 90 = .ok (.if_icmp .ge 18, 3) := by decide +kernel
theorem d_E_told_93 : decode (zb m_E_told) 93 = .ok (.aload_n 0, 1) := by decide +kernel
theorem d_E_told_94 : decode (zb m_E_told) 94 = .ok (.getfield 21, 3) := by decide +kernel
theorem d_E_told_97 : decode (zb m_E_told) 97 = .ok (.iload_n 1, 1) := by decide +kernel
theorem d_E_told_98 : decode (zb m_E_told) 98 = .ok (.bipush 20, 2) := by decide +kernel
theorem d_E_told_100 : decode (zb m_E_told) 100 = .ok (.isub, 1) := by decide +kernel
theorem d_E_told_101 : decode (zb m_E_told) 101 = .ok (.invokevirtual 165, 3) := by decide +kernel
theorem d_E_told_104 : decode (zb m_E_told) 104 = .ok (.invokevirtual 61, 3) := by decide +kernel
theorem d_E_told_107 : decode (zb m_E_told) 107 = .ok (.ireturn, 1) := by decide +kernel
theorem d_E_told_108 : decode (zb m_E_told) 108 = .ok (.iload_n 1, 1) := by decide +kernel
theorem d_E_told_109 : decode (zb m_E_told) 109 = .ok (.bipush 30, 2) := by decide +kernel
theorem d_E_told_111 : decode (zb m_E_told) 111 = .ok (.if_icmp .lt 32, 3) := by decide +kernel
theorem d_E_told_114 : decode (zb m_E_told) 114 = .ok (.aload_n 0, 1) := by decide +kernel
theorem d_E_told_115 : decode (zb m_E_told) 115 = .ok (.getfield 21, 3) := by decide +kernel
theorem d_E_told_118 : decode (zb m_E_told) 118 = .ok (.iload_n 1, 1) := by decide +kernel
theorem d_E_told_119 : decode (zb m_E_told) 119 = .ok (.bipush 30, 2) := by decide +kernel
theorem d_E_told_121 : decode (zb m_E_told) 121 = .ok (.isub, 1) := by decide +kernel
theorem d_E_told_122 : decode (zb m_E_told) 122 = .ok (.invokevirtual 98, 3) := by decide +kernel
theorem d_E_told_125 : decode (zb m_E_told) 125 = .ok (.ifCond .eq 18, 3) := by decide +kernel
theorem d_E_told_128 : decode (zb m_E_told) 128 = .ok (.aload_n 0, 1) := by decide +kernel
theorem d_E_told_129 : decode (zb m_E_told) 129 = .ok (.getfield 21, 3) := by decide +kernel
theorem d_E_told_132 : decode (zb m_E_told) 132 = .ok (.iload_n 1, 1) := by decide +kernel
theorem d_E_told_133 : decode (zb m_E_told) 133 = .ok (.bipush 30, 2) := by decide +kernel
theorem d_E_told_135 : decode (zb m_E_told) 135 = .ok (.isub, 1) := by decide +kernel
theorem d_E_told_136 : decode (zb m_E_told) 136 = .ok (.invokevirtual 146, 3) := by decide +kernel
theorem d_E_told_139 : decode (zb m_E_told) 139 = .ok (.invokevirtual 61, 3) := by decide +kernel
theorem d_E_told_142 : decode (zb m_E_told) 142 = .ok (.ireturn, 1) := by decide +kernel
theorem d_E_told_143 : decode (zb m_E_told) 143 = .ok (.bipush (-2), 2) := by decide +kernel
theorem d_E_told_145 : decode (zb m_E_told) 145 = .ok (.ireturn, 1) := by decide +kernel
theorem d_E_lineFault_0 : decode (zb m_E_lineFault) 0 = .ok (.aload_n 0, 1) := by decide +kernel
theorem d_E_lineFault_1 : decode (zb m_E_lineFault) 1 = .ok (.getfield 14, 3) := by decide +kernel
theorem d_E_lineFault_4 : decode (zb m_E_lineFault) 4 = .ok (.iconst 0, 1) := by decide +kernel
theorem d_E_lineFault_5 : decode (zb m_E_lineFault) 5 = .ok (.bipush 12, 2) := by decide +kernel
theorem d_E_lineFault_7 : decode (zb m_E_lineFault) 7 = .ok (.invokevirtual 77, 3) := by decide +kernel
theorem d_E_lineFault_10 : decode (zb m_E_lineFault) 10 = .ok (.istore_n 1, 1) := by decide +kernel
theorem d_E_lineFault_11 : decode (zb m_E_lineFault) 11 = .ok (.iload_n 1, 1) := by decide +kernel
theorem d_E_lineFault_12 : decode (zb m_E_lineFault) 12 = .ok (.aload_n 0, 1) := by decide +kernel
theorem d_E_lineFault_13 : decode (zb m_E_lineFault) 13 = .ok (.getfield 14, 3) := by decide +kernel
theorem d_E_lineFault_16 : decode (zb m_E_lineFault) 16 = .ok (.invokevirtual 61, 3) := by decide +kernel
theorem d_E_lineFault_19 : decode (zb m_E_lineFault) 19 = .ok (.if_icmp .ne 8, 3) := by decide +kernel
theorem d_E_lineFault_22 : decode (zb m_E_lineFault) 22 = .ok (.bipush (-6), 2) := by decide +kernel
theorem d_E_lineFault_24 : decode (zb m_E_lineFault) 24 = .ok (.goto 4, 3) := by decide +kernel
theorem d_E_lineFault_27 : decode (zb m_E_lineFault) 27 = .ok (.iload_n 1, 1) := by decide +kernel
theorem d_E_lineFault_28 : decode (zb m_E_lineFault) 28 = .ok (.ireturn, 1) := by decide +kernel
theorem d_E_exampleFault_0 : decode (zb m_E_exampleFault) 0 = .ok (.aload_n 0, 1) := by decide +kernel
theorem d_E_exampleFault_1 : decode (zb m_E_exampleFault) 1 = .ok (.getfield 14, 3) := by decide +kernel
theorem d_E_exampleFault_4 : decode (zb m_E_exampleFault) 4 = .ok (.iconst 0, 1) := by decide +kernel
theorem d_E_exampleFault_5 : decode (zb m_E_exampleFault) 5 = .ok (.bipush 12, 2) := by decide +kernel
theorem d_E_exampleFault_7 : decode (zb m_E_exampleFault) 7 = .ok (.invokevirtual 77, 3) := by decide +kernel
theorem d_E_exampleFault_10 : decode (zb m_E_exampleFault) 10 = .ok (.istore_n 1, 1) := by decide +kernel
theorem d_E_exampleFault_11 : decode (zb m_E_exampleFault) 11 = .ok (.aload_n 0, 1) := by decide +kernel
theorem d_E_exampleFault_12 : decode (zb m_E_exampleFault) 12 = .ok (.getfield 14, 3) := by decide +kernel
theorem d_E_exampleFault_15 : decode (zb m_E_exampleFault) 15 = .ok (.iload_n 1, 1) := by decide +kernel
theorem d_E_exampleFault_16 : decode (zb m_E_exampleFault) 16 = .ok (.invokevirtual 141, 3) := by decide +kernel
theorem d_E_exampleFault_19 : decode (zb m_E_exampleFault) 19 = .ok (.bipush 62, 2) := by decide +kernel
theorem d_E_exampleFault_21 : decode (zb m_E_exampleFault) 21 = .ok (.if_icmp .eq 5, 3) := by decide +kernel
theorem d_E_exampleFault_24 : decode (zb m_E_exampleFault) 24 = .ok (.iload_n 1, 1) := by decide +kernel
theorem d_E_exampleFault_25 : decode (zb m_E_exampleFault) 25 = .ok (.ireturn, 1) := by decide +kernel
theorem d_E_exampleFault_26 : decode (zb m_E_exampleFault) 26 = .ok (.aload_n 0, 1) := by decide +kernel
theorem d_E_exampleFault_27 : decode (zb m_E_exampleFault) 27 = .ok (.getfield 14, 3) := by decide +kernel
theorem d_E_exampleFault_30 : decode (zb m_E_exampleFault) 30 = .ok (.iload_n 1, 1) := by decide +kernel
theorem d_E_exampleFault_31 : decode (zb m_E_exampleFault) 31 = .ok (.iconst 1, 1) := by decide +kernel
theorem d_E_exampleFault_32 : decode (zb m_E_exampleFault) 32 = .ok (.iadd, 1) := by decide +kernel
theorem d_E_exampleFault_33 : decode (zb m_E_exampleFault) 33 = .ok (.iconst 5, 1) := by decide +kernel
theorem d_E_exampleFault_34 : decode (zb m_E_exampleFault) 34 = .ok (.invokevirtual 77, 3) := by decide +kernel
theorem d_E_exampleFault_37 : decode (zb m_E_exampleFault) 37 = .ok (.istore_n 2, 1) := by decide +kernel
theorem d_E_exampleFault_38 : decode (zb m_E_exampleFault) 38 = .ok (.iload_n 2, 1) := by decide +kernel
theorem d_E_exampleFault_39 : decode (zb m_E_exampleFault) 39 = .ok (.aload_n 0, 1) := by decide +kernel
theorem d_E_exampleFault_40 : decode (zb m_E_exampleFault) 40 = .ok (.getfield 14, 3) := by decide +kernel
theorem d_E_exampleFault_43 : decode (zb m_E_exampleFault) 43 = .ok (.invokevirtual 61, 3) := by decide +kernel
theorem d_E_exampleFault_46 : decode (zb m_E_exampleFault) 46 = .ok (.if_icmp .ne 15, 3) := by decide +kernel
theorem d_E_exampleFault_49 : decode (zb m_E_exampleFault) 49 = .ok (.iload_n 2, 1) := by decide +kernel
theorem d_E_exampleFault_50 : decode (zb m_E_exampleFault) 50 = .ok (.iload_n 1, 1) := by decide +kernel
theorem d_E_exampleFault_51 : decode (zb m_E_exampleFault) 51 = .ok (.iconst 1, 1) := by decide +kernel
theorem d_E_exampleFault_52 : decode (zb m_E_exampleFault) 52 = .ok (.iadd, 1) := by decide +kernel
theorem d_E_exampleFault_53 : decode (zb m_E_exampleFault) 53 = .ok (.if_icmp .le 8, 3) := by decide +kernel
theorem d_E_exampleFault_56 : decode (zb m_E_exampleFault) 56 = .ok (.bipush (-6), 2) := by decide +kernel
theorem d_E_exampleFault_58 : decode (zb m_E_exampleFault) 58 = .ok (.goto 4, 3) := by decide +kernel
theorem d_E_exampleFault_61 : decode (zb m_E_exampleFault) 61 = .ok (.iload_n 2, 1) := by decide +kernel
theorem d_E_exampleFault_62 : decode (zb m_E_exampleFault) 62 = .ok (.ireturn, 1) := by decide +kernel
theorem d_E_examplesChanged_0 : decode (zb m_E_examplesChanged) 0 = .ok (.aload_n 0, 1) := by decide +kernel
theorem d_E_examplesChanged_1 : decode (zb m_E_examplesChanged) 1 = .ok (.iconst 0, 1) := by decide +kernel
theorem d_E_examplesChanged_2 : decode (zb m_E_examplesChanged) 2 = .ok (.putfield 168, 3) := by decide +kernel
theorem d_E_examplesChanged_5 : decode (zb m_E_examplesChanged) 5 = .ok (.aload_n 0, 1) := by decide +kernel
theorem d_E_examplesChanged_6 : decode (zb m_E_examplesChanged) 6 = .ok (.invokevirtual 54, 3) := by decide +kernel
theorem d_E_examplesChanged_9 : decode (zb m_E_examplesChanged) 9 = .ok (.return_, 1) := by decide +kernel
theorem d_E_poolChanged_0 : decode (zb m_E_poolChanged) 0 = .ok (.iconst 0, 1) := by decide +kernel
theorem d_E_poolChanged_1 : decode (zb m_E_poolChanged) 1 = .ok (.istore_n 1, 1) := by decide +kernel
theorem d_E_poolChanged_2 : decode (zb m_E_poolChanged) 2 = .ok (.iload_n 1, 1) := by decide +kernel
theorem d_E_poolChanged_3 : decode (zb m_E_poolChanged) 3 = .ok (.bipush 6, 2) := by decide +kernel
theorem d_E_poolChanged_5 : decode (zb m_E_poolChanged) 5 = .ok (.if_icmp .ge 18, 3) := by decide +kernel
theorem d_E_poolChanged_8 : decode (zb m_E_poolChanged) 8 = .ok (.aload_n 0, 1) := by decide +kernel
theorem d_E_poolChanged_9 : decode (zb m_E_poolChanged) 9 = .ok (.getfield 50, 3) := by decide +kernel
theorem d_E_poolChanged_12 : decode (zb m_E_poolChanged) 12 = .ok (.iload_n 1, 1) := by decide +kernel
theorem d_E_poolChanged_13 : decode (zb m_E_poolChanged) 13 = .ok (.ldc2_w 150, 3) := by decide +kernel
theorem d_E_poolChanged_16 : decode (zb m_E_poolChanged) 16 = .ok (.lastore, 1) := by decide +kernel
theorem d_E_poolChanged_17 : decode (zb m_E_poolChanged) 17 = .ok (.iinc 1 1, 3) := by decide +kernel
theorem d_E_poolChanged_20 : decode (zb m_E_poolChanged) 20 = .ok (.goto (-18), 3) := by decide +kernel
theorem d_E_poolChanged_23 : decode (zb m_E_poolChanged) 23 = .ok (.return_, 1) := by decide +kernel
theorem d_E_guess_0 : decode (zb m_E_guess) 0 = .ok (.aload_n 0, 1) := by decide +kernel
theorem d_E_guess_1 : decode (zb m_E_guess) 1 = .ok (.getfield 168, 3) := by decide +kernel
theorem d_E_guess_4 : decode (zb m_E_guess) 4 = .ok (.ifCond .eq 4, 3) := by decide +kernel
theorem d_E_guess_7 : decode (zb m_E_guess) 7 = .ok (.return_, 1) := by decide +kernel
theorem d_E_guess_8 : decode (zb m_E_guess) 8 = .ok (.aload_n 0, 1) := by decide +kernel
theorem d_E_guess_9 : decode (zb m_E_guess) 9 = .ok (.getfield 36, 3) := by decide +kernel
theorem d_E_guess_12 : decode (zb m_E_guess) 12 = .ok (.invokevirtual 172, 3) := by decide +kernel
theorem d_E_guess_15 : decode (zb m_E_guess) 15 = .ok (.iconst 0, 1) := by decide +kernel
theorem d_E_guess_16 : decode (zb m_E_guess) 16 = .ok (.istore_n 1, 1) := by decide +kernel
theorem d_E_guess_17 : decode (zb m_E_guess) 17 = .ok (.iload_n 1, 1) := by decide +kernel
theorem d_E_guess_18 : decode (zb m_E_guess) 18 = .ok (.aload_n 0, 1) := by decide +kernel
theorem d_E_guess_19 : decode (zb m_E_guess) 19 = .ok (.getfield 21, 3) := by decide +kernel
theorem d_E_guess_22 : decode (zb m_E_guess) 22 = .ok (.invokevirtual 74, 3) := by decide +kernel
theorem d_E_guess_25 : decode (zb m_E_guess) 25 = .ok (.if_icmp .ge 32, 3) := by decide +kernel
theorem d_E_guess_28 : decode (zb m_E_guess) 28 = .ok (.aload_n 0, 1) := by decide +kernel
theorem d_E_guess_29 : decode (zb m_E_guess) 29 = .ok (.getfield 36, 3) := by decide +kernel
theorem d_E_guess_32 : decode (zb m_E_guess) 32 = .ok (.aload_n 0, 1) := by decide +kernel
theorem d_E_guess_33 : decode (zb m_E_guess) 33 = .ok (.getfield 21, 3) := by decide +kernel
theorem d_E_guess_36 : decode (zb m_E_guess) 36 = .ok (.iload_n 1, 1) := by decide +kernel
theorem d_E_guess_37 : decode (zb m_E_guess) 37 = .ok (.invokevirtual 162, 3) := by decide +kernel
theorem d_E_guess_40 : decode (zb m_E_guess) 40 = .ok (.aload_n 0, 1) := by decide +kernel
theorem d_E_guess_41 : decode (zb m_E_guess) 41 = .ok (.getfield 21, 3) := by decide +kernel
theorem d_E_guess_44 : decode (zb m_E_guess) 44 = .ok (.iload_n 1, 1) := by decide +kernel
theorem d_E_guess_45 : decode (zb m_E_guess) 45 = .ok (.invokevirtual 165, 3) := by decide +kernel
theorem d_E_guess_48 : decode (zb m_E_guess) 48 = .ok (.invokevirtual 173, 3) := by decide +kernel
theorem d_E_guess_51 : decode (zb m_E_guess) 51 = .ok (.iinc 1 1, 3) := by decide +kernel
theorem d_E_guess_54 : decode (zb m_E_guess) 54 = .ok (.goto (-37), 3) := by decide +kernel
theorem d_E_guess_57 : decode (zb m_E_guess) 57 = .ok (.aload_n 0, 1) := by decide +kernel
theorem d_E_guess_58 : decode (zb m_E_guess) 58 = .ok (.aload_n 0, 1) := by decide +kernel
theorem d_E_guess_59 : decode (zb m_E_guess) 59 = .ok (.getfield 36, 3) := by decide +kernel
theorem d_E_guess_62 : decode (zb m_E_guess) 62 = .ok (.invokevirtual 176, 3) := by decide +kernel
theorem d_E_guess_65 : decode (zb m_E_guess) 65 = .ok (.putfield 109, 3) := by decide +kernel
theorem d_E_guess_68 : decode (zb m_E_guess) 68 = .ok (.aload_n 0, 1) := by decide +kernel
theorem d_E_guess_69 : decode (zb m_E_guess) 69 = .ok (.getfield 43, 3) := by decide +kernel
theorem d_E_guess_72 : decode (zb m_E_guess) 72 = .ok (.invokevirtual 180, 3) := by decide +kernel
theorem d_E_guess_75 : decode (zb m_E_guess) 75 = .ok (.aload_n 0, 1) := by decide +kernel
theorem d_E_guess_76 : decode (zb m_E_guess) 76 = .ok (.getfield 109, 3) := by decide +kernel
theorem d_E_guess_79 : decode (zb m_E_guess) 79 = .ok (.lconst 0, 1) := by decide +kernel
theorem d_E_guess_80 : decode (zb m_E_guess) 80 = .ok (.lcmp, 1) := by decide +kernel
theorem d_E_guess_81 : decode (zb m_E_guess) 81 = .ok (.ifCond .eq 21, 3) := by decide +kernel
theorem d_E_guess_84 : decode (zb m_E_guess) 84 = .ok (.aload_n 0, 1) := by decide +kernel
theorem d_E_guess_85 : decode (zb m_E_guess) 85 = .ok (.getfield 36, 3) := by decide +kernel
theorem d_E_guess_88 : decode (zb m_E_guess) 88 = .ok (.invokevirtual 181, 3) := by decide +kernel
theorem d_E_guess_91 : decode (zb m_E_guess) 91 = .ok (.aload_n 0, 1) := by decide +kernel
theorem d_E_guess_92 : decode (zb m_E_guess) 92 = .ok (.getfield 36, 3) := by decide +kernel
theorem d_E_guess_95 : decode (zb m_E_guess) 95 = .ok (.aload_n 0, 1) := by decide +kernel
theorem d_E_guess_96 : decode (zb m_E_guess) 96 = .ok (.getfield 43, 3) := by decide +kernel
theorem d_E_guess_99 : decode (zb m_E_guess) 99 = .ok (.invokevirtual 184, 3) := by decide +kernel
theorem d_E_guess_102 : decode (zb m_E_guess) 102 = .ok (.aload_n 0, 1) := by decide +kernel
theorem d_E_guess_103 : decode (zb m_E_guess) 103 = .ok (.iconst 1, 1) := by decide +kernel
theorem d_E_guess_104 : decode (zb m_E_guess) 104 = .ok (.putfield 168, 3) := by decide +kernel
theorem d_E_guess_107 : decode (zb m_E_guess) 107 = .ok (.return_, 1) := by decide +kernel
theorem d_E_makesResult_0 : decode (zb m_E_makesResult) 0 = .ok (.aload_n 0, 1) := by decide +kernel
theorem d_E_makesResult_1 : decode (zb m_E_makesResult) 1 = .ok (.getfield 43, 3) := by decide +kernel
theorem d_E_makesResult_4 : decode (zb m_E_makesResult) 4 = .ok (.aload_n 0, 1) := by decide +kernel
theorem d_E_makesResult_5 : decode (zb m_E_makesResult) 5 = .ok (.getfield 21, 3) := by decide +kernel
theorem d_E_makesResult_8 : decode (zb m_E_makesResult) 8 = .ok (.iload_n 1, 1) := by decide +kernel
theorem d_E_makesResult_9 : decode (zb m_E_makesResult) 9 = .ok (.invokevirtual 146, 3) := by decide +kernel
theorem d_E_makesResult_12 : decode (zb m_E_makesResult) 12 = .ok (.aload_n 0, 1) := by decide +kernel
theorem d_E_makesResult_13 : decode (zb m_E_makesResult) 13 = .ok (.getfield 47, 3) := by decide +kernel
theorem d_E_makesResult_16 : decode (zb m_E_makesResult) 16 = .ok (.invokevirtual 137, 3) := by decide +kernel
theorem d_E_makesResult_19 : decode (zb m_E_makesResult) 19 = .ok (.aload_n 0, 1) := by decide +kernel
theorem d_E_makesResult_20 : decode (zb m_E_makesResult) 20 = .ok (.getfield 47, 3) := by decide +kernel
theorem d_E_makesResult_23 : decode (zb m_E_makesResult) 23 = .ok (.invokevirtual 61, 3) := by decide +kernel
theorem d_E_makesResult_26 : decode (zb m_E_makesResult) 26 = .ok (.iconst 1, 1) := by decide +kernel
theorem d_E_makesResult_27 : decode (zb m_E_makesResult) 27 = .ok (.if_icmp .lt 18, 3) := by decide +kernel
theorem d_E_makesResult_30 : decode (zb m_E_makesResult) 30 = .ok (.aload_n 0, 1) := by decide +kernel
theorem d_E_makesResult_31 : decode (zb m_E_makesResult) 31 = .ok (.getfield 47, 3) := by decide +kernel
theorem d_E_makesResult_34 : decode (zb m_E_makesResult) 34 = .ok (.invokevirtual 61, 3) := by decide +kernel
theorem d_E_makesResult_37 : decode (zb m_E_makesResult) 37 = .ok (.iconst 5, 1) := by decide +kernel
theorem d_E_makesResult_38 : decode (zb m_E_makesResult) 38 = .ok (.if_icmp .gt 7, 3) := by decide +kernel
theorem d_E_makesResult_41 : decode (zb m_E_makesResult) 41 = .ok (.iconst 1, 1) := by decide +kernel
theorem d_E_makesResult_42 : decode (zb m_E_makesResult) 42 = .ok (.goto 4, 3) := by decide +kernel
theorem d_E_makesResult_45 : decode (zb m_E_makesResult) 45 = .ok (.iconst 0, 1) := by decide +kernel
theorem d_E_makesResult_46 : decode (zb m_E_makesResult) 46 = .ok (.ireturn, 1) := by decide +kernel
theorem d_E_countAgreeing_0 : decode (zb m_E_countAgreeing) 0 = .ok (.iload_n 1, 1) := by decide +kernel
theorem d_E_countAgreeing_1 : decode (zb m_E_countAgreeing) 1 = .ok (.ifCond .lt 9, 3) := by decide +kernel
theorem d_E_countAgreeing_4 : decode (zb m_E_countAgreeing) 4 = .ok (.iload_n 1, 1) := by decide +kernel
theorem d_E_countAgreeing_5 : decode (zb m_E_countAgreeing) 5 = .ok (.bipush 6, 2) := by decide +kernel
theorem d_E_countAgreeing_7 : decode (zb m_E_countAgreeing) 7 = .ok (.if_icmp .lt 5, 3) := by decide +kernel
theorem d_E_countAgreeing_10 : decode (zb m_E_countAgreeing) 10 = .ok (.lconst 0, 1) := by decide +kernel
theorem d_E_countAgreeing_11 : decode (zb m_E_countAgreeing) 11 = .ok (.lreturn, 1) := by decide +kernel
theorem d_E_countAgreeing_12 : decode (zb m_E_countAgreeing) 12 = .ok (.aload_n 0, 1) := by decide +kernel
theorem d_E_countAgreeing_13 : decode (zb m_E_countAgreeing) 13 = .ok (.getfield 50, 3) := by decide +kernel
theorem d_E_countAgreeing_16 : decode (zb m_E_countAgreeing) 16 = .ok (.iload_n 1, 1) := by decide +kernel
theorem d_E_countAgreeing_17 : decode (zb m_E_countAgreeing) 17 = .ok (.laload, 1) := by decide +kernel
theorem d_E_countAgreeing_18 : decode (zb m_E_countAgreeing) 18 = .ok (.ldc2_w 150, 3) := by decide +kernel
theorem d_E_countAgreeing_21 : decode (zb m_E_countAgreeing) 21 = .ok (.lcmp, 1) := by decide +kernel
theorem d_E_countAgreeing_22 : decode (zb m_E_countAgreeing) 22 = .ok (.ifCond .ne 42, 3) := by decide +kernel
theorem d_E_countAgreeing_25 : decode (zb m_E_countAgreeing) 25 = .ok (.aload_n 0, 1) := by decide +kernel
theorem d_E_countAgreeing_26 : decode (zb m_E_countAgreeing) 26 = .ok (.getfield 36, 3) := by decide +kernel
theorem d_E_countAgreeing_29 : decode (zb m_E_countAgreeing) 29 = .ok (.aload_n 0, 1) := by decide +kernel
theorem d_E_countAgreeing_30 : decode (zb m_E_countAgreeing) 30 = .ok (.getfield 21, 3) := by decide +kernel
theorem d_E_countAgreeing_33 : decode (zb m_E_countAgreeing) 33 = .ok (.iload_n 1, 1) := by decide +kernel
theorem d_E_countAgreeing_34 : decode (zb m_E_countAgreeing) 34 = .ok (.invokevirtual 146, 3) := by decide +kernel
theorem d_E_countAgreeing_37 : decode (zb m_E_countAgreeing) 37 = .ok (.aload_n 0, 1) := by decide +kernel
theorem d_E_countAgreeing_38 : decode (zb m_E_countAgreeing) 38 = .ok (.getfield 47, 3) := by decide +kernel
theorem d_E_countAgreeing_41 : decode (zb m_E_countAgreeing) 41 = .ok (.invokevirtual 173, 3) := by decide +kernel
theorem d_E_countAgreeing_44 : decode (zb m_E_countAgreeing) 44 = .ok (.aload_n 0, 1) := by decide +kernel
theorem d_E_countAgreeing_45 : decode (zb m_E_countAgreeing) 45 = .ok (.getfield 50, 3) := by decide +kernel
theorem d_E_countAgreeing_48 : decode (zb m_E_countAgreeing) 48 = .ok (.iload_n 1, 1) := by decide +kernel
theorem d_E_countAgreeing_49 : decode (zb m_E_countAgreeing) 49 = .ok (.aload_n 0, 1) := by decide +kernel
theorem d_E_countAgreeing_50 : decode (zb m_E_countAgreeing) 50 = .ok (.getfield 36, 3) := by decide +kernel
theorem d_E_countAgreeing_53 : decode (zb m_E_countAgreeing) 53 = .ok (.invokevirtual 176, 3) := by decide +kernel
theorem d_E_countAgreeing_56 : decode (zb m_E_countAgreeing) 56 = .ok (.lastore, 1) := by decide +kernel
theorem d_E_countAgreeing_57 : decode (zb m_E_countAgreeing) 57 = .ok (.aload_n 0, 1) := by decide +kernel
theorem d_E_countAgreeing_58 : decode (zb m_E_countAgreeing) 58 = .ok (.getfield 36, 3) := by decide +kernel
theorem d_E_countAgreeing_61 : decode (zb m_E_countAgreeing) 61 = .ok (.invokevirtual 188, 3) := by decide +kernel
theorem d_E_countAgreeing_64 : decode (zb m_E_countAgreeing) 64 = .ok (.aload_n 0, 1) := by decide +kernel
theorem d_E_countAgreeing_65 : decode (zb m_E_countAgreeing) 65 = .ok (.getfield 50, 3) := by decide +kernel
theorem d_E_countAgreeing_68 : decode (zb m_E_countAgreeing) 68 = .ok (.iload_n 1, 1) := by decide +kernel
theorem d_E_countAgreeing_69 : decode (zb m_E_countAgreeing) 69 = .ok (.laload, 1) := by decide +kernel
theorem d_E_countAgreeing_70 : decode (zb m_E_countAgreeing) 70 = .ok (.lreturn, 1) := by decide +kernel
theorem d_Bk_init_0 : decode (zb m_Bk_init) 0 = .ok (.aload_n 0, 1) := by decide +kernel
theorem d_Bk_init_1 : decode (zb m_Bk_init) 1 = .ok (.invokespecial 3, 3) := by decide +kernel
theorem d_Bk_init_4 : decode (zb m_Bk_init) 4 = .ok (.aload_n 0, 1) := by decide +kernel
theorem d_Bk_init_5 : decode (zb m_Bk_init) 5 = .ok (.iconst 3, 1) := by decide +kernel
theorem d_Bk_init_6 : decode (zb m_Bk_init) 6 = .ok (.anewarray 9, 3) := by decide +kernel
theorem d_Bk_init_9 : decode (zb m_Bk_init) 9 = .ok (.putfield 11, 3) := by decide +kernel
theorem d_Bk_init_12 : decode (zb m_Bk_init) 12 = .ok (.aload_n 0, 1) := by decide +kernel
theorem d_Bk_init_13 : decode (zb m_Bk_init) 13 = .ok (.iconst 3, 1) := by decide +kernel
theorem d_Bk_init_14 : decode (zb m_Bk_init) 14 = .ok (.anewarray 9, 3) := by decide +kernel
theorem d_Bk_init_17 : decode (zb m_Bk_init) 17 = .ok (.putfield 17, 3) := by decide +kernel
theorem d_Bk_init_20 : decode (zb m_Bk_init) 20 = .ok (.aload_n 0, 1) := by decide +kernel
theorem d_Bk_init_21 : decode (zb m_Bk_init) 21 = .ok (.bipush 6, 2) := by decide +kernel
theorem d_Bk_init_23 : decode (zb m_Bk_init) 23 = .ok (.anewarray 9, 3) := by decide +kernel
theorem d_Bk_init_26 : decode (zb m_Bk_init) 26 = .ok (.putfield 20, 3) := by decide +kernel
theorem d_Bk_init_29 : decode (zb m_Bk_init) 29 = .ok (.iconst 0, 1) := by decide +kernel
theorem d_Bk_init_30 : decode (zb m_Bk_init) 30 = .ok (.istore_n 1, 1) := by decide +kernel
theorem d_Bk_init_31 : decode (zb m_Bk_init) 31 = .ok (.iload_n 1, 1) := by decide +kernel
theorem d_Bk_init_32 : decode (zb m_Bk_init) 32 = .ok (.iconst 3, 1) := by decide +kernel
theorem d_Bk_init_33 : decode (zb m_Bk_init) 33 = .ok (.if_icmp .ge 38, 3) := by decide +kernel
theorem d_Bk_init_36 : decode (zb m_Bk_init) 36 = .ok (.aload_n 0, 1) := by decide +kernel
theorem d_Bk_init_37 : decode (zb m_Bk_init) 37 = .ok (.getfield 11, 3) := by decide +kernel
theorem d_Bk_init_40 : decode (zb m_Bk_init) 40 = .ok (.iload_n 1, 1) := by decide +kernel
theorem d_Bk_init_41 : decode (zb m_Bk_init) 41 = .ok (.new 9, 3) := by decide +kernel
theorem d_Bk_init_44 : decode (zb m_Bk_init) 44 = .ok (.dup, 1) := by decide +kernel
theorem d_Bk_init_45 : decode (zb m_Bk_init) 45 = .ok (.bipush 12, 2) := by decide +kernel
theorem d_Bk_init_47 : decode (zb m_Bk_init) 47 = .ok (.invokespecial 23, 3) := by decide +kernel
theorem d_Bk_init_50 : decode (zb m_Bk_init) 50 = .ok (.aastore, 1) := by decide +kernel
theorem d_Bk_init_51 : decode (zb m_Bk_init) 51 = .ok (.aload_n 0, 1) := by decide +kernel
theorem d_Bk_init_52 : decode (zb m_Bk_init) 52 = .ok (.getfield 17, 3) := by decide +kernel
theorem d_Bk_init_55 : decode (zb m_Bk_init) 55 = .ok (.iload_n 1, 1) := by decide +kernel
theorem d_Bk_init_56 : decode (zb m_Bk_init) 56 = .ok (.new 9, 3) := by decide +kernel
theorem d_Bk_init_59 : decode (zb m_Bk_init) 59 = .ok (.dup, 1) := by decide +kernel
theorem d_Bk_init_60 : decode (zb m_Bk_init) 60 = .ok (.iconst 5, 1) := by decide +kernel
theorem d_Bk_init_61 : decode (zb m_Bk_init) 61 = .ok (.invokespecial 23, 3) := by decide +kernel
theorem d_Bk_init_64 : decode (zb m_Bk_init) 64 = .ok (.aastore, 1) := by decide +kernel
theorem d_Bk_init_65 : decode (zb m_Bk_init) 65 = .ok (.iinc 1 1, 3) := by decide +kernel
theorem d_Bk_init_68 : decode (zb m_Bk_init) 68 = .ok (.goto (-37), 3) := by decide +kernel
theorem d_Bk_init_71 : decode (zb m_Bk_init) 71 = .ok (.iconst 0, 1) := by decide +kernel
theorem d_Bk_init_72 : decode (zb m_Bk_init) 72 = .ok (.istore_n 1, 1) := by decide +kernel
theorem d_Bk_init_73 : decode (zb m_Bk_init) 73 = .ok (.iload_n 1, 1) := by decide +kernel
theorem d_Bk_init_74 : decode (zb m_Bk_init) 74 = .ok (.bipush 6, 2) := by decide +kernel
theorem d_Bk_init_76 : decode (zb m_Bk_init) 76 = .ok (.if_icmp .ge 24, 3) := by decide +kernel
theorem d_Bk_init_79 : decode (zb m_Bk_init) 79 = .ok (.aload_n 0, 1) := by decide +kernel
theorem d_Bk_init_80 : decode (zb m_Bk_init) 80 = .ok (.getfield 20, 3) := by decide +kernel
theorem d_Bk_init_83 : decode (zb m_Bk_init) 83 = .ok (.iload_n 1, 1) := by decide +kernel
theorem d_Bk_init_84 : decode (zb m_Bk_init) 84 = .ok (.new 9, 3) := by decide +kernel
theorem d_Bk_init_87 : decode (zb m_Bk_init) 87 = .ok (.dup, 1) := by decide +kernel
theorem d_Bk_init_88 : decode (zb m_Bk_init) 88 = .ok (.bipush 12, 2) := by decide +kernel
theorem d_Bk_init_90 : decode (zb m_Bk_init) 90 = .ok (.invokespecial 23, 3) := by decide +kernel
theorem d_Bk_init_93 : decode (zb m_Bk_init) 93 = .ok (.aastore, 1) := by decide +kernel
theorem d_Bk_init_94 : decode (zb m_Bk_init) 94 = .ok (.iinc 1 1, 3) := by decide +kernel
theorem d_Bk_init_97 : decode (zb m_Bk_init) 97 = .ok (.goto (-24), 3) := by decide +kernel
theorem d_Bk_init_100 : decode (zb m_Bk_init) 100 = .ok (.return_, 1) := by decide +kernel
theorem d_Bk_examples_0 : decode (zb m_Bk_examples) 0 = .ok (.aload_n 0, 1) := by decide +kernel
theorem d_Bk_examples_1 : decode (zb m_Bk_examples) 1 = .ok (.getfield 26, 3) := by decide +kernel
theorem d_Bk_examples_4 : decode (zb m_Bk_examples) 4 = .ok (.ireturn, 1) := by decide +kernel
theorem d_Bk_pooled_0 : decode (zb m_Bk_pooled) 0 = .ok (.aload_n 0, 1) := by decide +kernel
theorem d_Bk_pooled_1 : decode (zb m_Bk_pooled) 1 = .ok (.getfield 30, 3) := by decide +kernel
theorem d_Bk_pooled_4 : decode (zb m_Bk_pooled) 4 = .ok (.ireturn, 1) := by decide +kernel
theorem d_Bk_knows_0 : decode (zb m_Bk_knows) 0 = .ok (.iload_n 1, 1) := by decide +kernel
theorem d_Bk_knows_1 : decode (zb m_Bk_knows) 1 = .ok (.ifCond .lt 15, 3) := by decide +kernel
theorem d_Bk_knows_4 : decode (zb m_Bk_knows) 4 = .ok (.iload_n 1, 1) := by decide +kernel
theorem d_Bk_knows_5 : decode (zb m_Bk_knows) 5 = .ok (.aload_n 0, 1) := by decide +kernel
theorem d_Bk_knows_6 : decode (zb m_Bk_knows) 6 = .ok (.getfield 30, 3) := by decide +kernel
theorem d_Bk_knows_9 : decode (zb m_Bk_knows) 9 = .ok (.if_icmp .ge 7, 3) := by decide +kernel
theorem d_Bk_knows_12 : decode (zb m_Bk_knows) 12 = .ok (.iconst 1, 1) := by decide +kernel
theorem d_Bk_knows_13 : decode (zb m_Bk_knows) 13 = .ok (.goto 4, 3) := by decide +kernel
theorem d_Bk_knows_16 : decode (zb m_Bk_knows) 16 = .ok (.iconst 0, 1) := by decide +kernel
theorem d_Bk_knows_17 : decode (zb m_Bk_knows) 17 = .ok (.ireturn, 1) := by decide +kernel
theorem d_Bk_exampleLine_0 : decode (zb m_Bk_exampleLine) 0 = .ok (.aload_n 0, 1) := by decide +kernel
theorem d_Bk_exampleLine_1 : decode (zb m_Bk_exampleLine) 1 = .ok (.getfield 11, 3) := by decide +kernel
theorem d_Bk_exampleLine_4 : decode (zb m_Bk_exampleLine) 4 = .ok (.iload_n 1, 1) := by decide +kernel
theorem d_Bk_exampleLine_5 : decode (zb m_Bk_exampleLine) 5 = .ok (.ifCond .lt 12, 3) := by decide +kernel
theorem d_Bk_exampleLine_8 : decode (zb m_Bk_exampleLine) 8 = .ok (.iload_n 1, 1) := by decide +kernel
theorem d_Bk_exampleLine_9 : decode (zb m_Bk_exampleLine) 9 = .ok (.iconst 3, 1) := by decide +kernel
theorem d_Bk_exampleLine_10 : decode (zb m_Bk_exampleLine) 10 = .ok (.if_icmp .ge 7, 3) := by decide +kernel
theorem d_Bk_exampleLine_13 : decode (zb m_Bk_exampleLine) 13 = .ok (.iload_n 1, 1) := by decide +kernel
theorem d_Bk_exampleLine_14 : decode (zb m_Bk_exampleLine) 14 = .ok (.goto 4, 3) := by decide +kernel
theorem d_Bk_exampleLine_17 : decode (zb m_Bk_exampleLine) 17 = .ok (.iconst 0, 1) := by decide +kernel
theorem d_Bk_exampleLine_18 : decode (zb m_Bk_exampleLine) 18 = .ok (.aaload, 1) := by decide +kernel
theorem d_Bk_exampleLine_19 : decode (zb m_Bk_exampleLine) 19 = .ok (.areturn, 1) := by decide +kernel
theorem d_Bk_result_0 : decode (zb m_Bk_result) 0 = .ok (.aload_n 0, 1) := by decide +kernel
theorem d_Bk_result_1 : decode (zb m_Bk_result) 1 = .ok (.getfield 17, 3) := by decide +kernel
theorem d_Bk_result_4 : decode (zb m_Bk_result) 4 = .ok (.iload_n 1, 1) := by decide +kernel
theorem d_Bk_result_5 : decode (zb m_Bk_result) 5 = .ok (.ifCond .lt 12, 3) := by decide +kernel
theorem d_Bk_result_8 : decode (zb m_Bk_result) 8 = .ok (.iload_n 1, 1) := by decide +kernel
theorem d_Bk_result_9 : decode (zb m_Bk_result) 9 = .ok (.iconst 3, 1) := by decide +kernel
theorem d_Bk_result_10 : decode (zb m_Bk_result) 10 = .ok (.if_icmp .ge 7, 3) := by decide +kernel
theorem d_Bk_result_13 : decode (zb m_Bk_result) 13 = .ok (.iload_n 1, 1) := by decide +kernel
theorem d_Bk_result_14 : decode (zb m_Bk_result) 14 = .ok (.goto 4, 3) := by decide +kernel
theorem d_Bk_result_17 : decode (zb m_Bk_result) 17 = .ok (.iconst 0, 1) := by decide +kernel
theorem d_Bk_result_18 : decode (zb m_Bk_result) 18 = .ok (.aaload, 1) := by decide +kernel
theorem d_Bk_result_19 : decode (zb m_Bk_result) 19 = .ok (.areturn, 1) := by decide +kernel
theorem d_Bk_line_0 : decode (zb m_Bk_line) 0 = .ok (.aload_n 0, 1) := by decide +kernel
theorem d_Bk_line_1 : decode (zb m_Bk_line) 1 = .ok (.getfield 20, 3) := by decide +kernel
theorem d_Bk_line_4 : decode (zb m_Bk_line) 4 = .ok (.iload_n 1, 1) := by decide +kernel
theorem d_Bk_line_5 : decode (zb m_Bk_line) 5 = .ok (.ifCond .lt 13, 3) := by decide +kernel
theorem d_Bk_line_8 : decode (zb m_Bk_line) 8 = .ok (.iload_n 1, 1) := by decide +kernel
theorem d_Bk_line_9 : decode (zb m_Bk_line) 9 = .ok (.bipush 6, 2) := by decide +kernel
theorem d_Bk_line_11 : decode (zb m_Bk_line) 11 = .ok (.if_icmp .ge 7, 3) := by decide +kernel
theorem d_Bk_line_14 : decode (zb m_Bk_line) 14 = .ok (.iload_n 1, 1) := by decide +kernel
theorem d_Bk_line_15 : decode (zb m_Bk_line) 15 = .ok (.goto 4, 3) := by decide +kernel
theorem d_Bk_line_18 : decode (zb m_Bk_line) 18 = .ok (.iconst 0, 1) := by decide +kernel
theorem d_Bk_line_19 : decode (zb m_Bk_line) 19 = .ok (.aaload, 1) := by decide +kernel
theorem d_Bk_line_20 : decode (zb m_Bk_line) 20 = .ok (.areturn, 1) := by decide +kernel
theorem d_Bk_addExample_0 : decode (zb m_Bk_addExample) 0 = .ok (.aload_n 0, 1) := by decide +kernel
theorem d_Bk_addExample_1 : decode (zb m_Bk_addExample) 1 = .ok (.getfield 26, 3) := by decide +kernel
theorem d_Bk_addExample_4 : decode (zb m_Bk_addExample) 4 = .ok (.iconst 3, 1) := by decide +kernel
theorem d_Bk_addExample_5 : decode (zb m_Bk_addExample) 5 = .ok (.if_icmp .ge 71, 3) := by decide +kernel
theorem d_Bk_addExample_8 : decode (zb m_Bk_addExample) 8 = .ok (.aload_n 0, 1) := by decide +kernel
theorem d_Bk_addExample_9 : decode (zb m_Bk_addExample) 9 = .ok (.getfield 11, 3) := by decide +kernel
theorem d_Bk_addExample_12 : decode (zb m_Bk_addExample) 12 = .ok (.aload_n 0, 1) := by decide +kernel
theorem d_Bk_addExample_13 : decode (zb m_Bk_addExample) 13 = .ok (.getfield 26, 3) := by decide +kernel
theorem d_Bk_addExample_16 : decode (zb m_Bk_addExample) 16 = .ok (.aaload, 1) := by decide +kernel
theorem d_Bk_addExample_17 : decode (zb m_Bk_addExample) 17 = .ok (.invokevirtual 33, 3) := by decide +kernel
theorem d_Bk_addExample_20 : decode (zb m_Bk_addExample) 20 = .ok (.aload_n 0, 1) := by decide +kernel
theorem d_Bk_addExample_21 : decode (zb m_Bk_addExample) 21 = .ok (.getfield 11, 3) := by decide +kernel
theorem d_Bk_addExample_24 : decode (zb m_Bk_addExample) 24 = .ok (.aload_n 0, 1) := by decide +kernel
theorem d_Bk_addExample_25 : decode (zb m_Bk_addExample) 25 = .ok (.getfield 26, 3) := by decide +kernel
theorem d_Bk_addExample_28 : decode (zb m_Bk_addExample) 28 = .ok (.aaload, 1) := by decide +kernel
theorem d_Bk_addExample_29 : decode (zb m_Bk_addExample) 29 = .ok (.aload_n 1, 1) := by decide +kernel
theorem d_Bk_addExample_30 : decode (zb m_Bk_addExample) 30 = .ok (.iconst 0, 1) := by decide +kernel
theorem d_Bk_addExample_31 : decode (zb m_Bk_addExample) 31 = .ok (.iload_n 2, 1) := by decide +kernel
theorem d_Bk_addExample_32 : decode (zb m_Bk_addExample) 32 = .ok (.invokevirtual 36, 3) := by decide +kernel
theorem d_Bk_addExample_35 : decode (zb m_Bk_addExample) 35 = .ok (.aload_n 0, 1) := by decide +kernel
theorem d_Bk_addExample_36 : decode (zb m_Bk_addExample) 36 = .ok (.getfield 17, 3) := by decide +kernel
theorem d_Bk_addExample_39 : decode (zb m_Bk_addExample) 39 = .ok (.aload_n 0, 1) := by decide +kernel
theorem d_Bk_addExample_40 : decode (zb m_Bk_addExample) 40 = .ok (.getfield 26, 3) := by decide +kernel
theorem d_Bk_addExample_43 : decode (zb m_Bk_addExample) 43 = .ok (.aaload, 1) := by decide +kernel
theorem d_Bk_addExample_44 : decode (zb m_Bk_addExample) 44 = .ok (.invokevirtual 33, 3) := by decide +kernel
theorem d_Bk_addExample_47 : decode (zb m_Bk_addExample) 47 = .ok (.aload_n 0, 1) := by decide +kernel
theorem d_Bk_addExample_48 : decode (zb m_Bk_addExample) 48 = .ok (.getfield 17, 3) := by decide +kernel
theorem d_Bk_addExample_51 : decode (zb m_Bk_addExample) 51 = .ok (.aload_n 0, 1) := by decide +kernel
theorem d_Bk_addExample_52 : decode (zb m_Bk_addExample) 52 = .ok (.getfield 26, 3) := by decide +kernel
theorem d_Bk_addExample_55 : decode (zb m_Bk_addExample) 55 = .ok (.aaload, 1) := by decide +kernel
theorem d_Bk_addExample_56 : decode (zb m_Bk_addExample) 56 = .ok (.aload_n 3, 1) := by decide +kernel
theorem d_Bk_addExample_57 : decode (zb m_Bk_addExample) 57 = .ok (.iload 4, 2) := by decide +kernel
theorem d_Bk_addExample_59 : decode (zb m_Bk_addExample) 59 = .ok (.aload_n 3, 1) := by decide +kernel
theorem d_Bk_addExample_60 : decode (zb m_Bk_addExample) 60 = .ok (.invokevirtual 40, 3) := by decide +kernel
theorem d_Bk_addExample_63 : decode (zb m_Bk_addExample) 63 = .ok (.invokevirtual 36, 3) := by decide +kernel
theorem d_Bk_addExample_66 : decode (zb m_Bk_addExample) 66 = .ok (.aload_n 0, 1) := by decide +kernel
theorem d_Bk_addExample_67 : decode (zb m_Bk_addExample) 67 = .ok (.dup, 1) := by decide +kernel
theorem d_Bk_addExample_68 : decode (zb m_Bk_addExample) 68 = .ok (.getfield 26, 3) := by decide +kernel
theorem d_Bk_addExample_71 : decode (zb m_Bk_addExample) 71 = .ok (.iconst 1, 1) := by decide +kernel
theorem d_Bk_addExample_72 : decode (zb m_Bk_addExample) 72 = .ok (.iadd, 1) := by decide +kernel
theorem d_Bk_addExample_73 : decode (zb m_Bk_addExample) 73 = .ok (.putfield 26, 3) := by decide +kernel
theorem d_Bk_addExample_76 : decode (zb m_Bk_addExample) 76 = .ok (.return_, 1) := by decide +kernel
theorem d_Bk_dropExample_0 : decode (zb m_Bk_dropExample) 0 = .ok (.aload_n 0, 1) := by decide +kernel
theorem d_Bk_dropExample_1 : decode (zb m_Bk_dropExample) 1 = .ok (.getfield 26, 3) := by decide +kernel
theorem d_Bk_dropExample_4 : decode (zb m_Bk_dropExample) 4 = .ok (.ifCond .le 13, 3) := by decide +kernel
theorem d_Bk_dropExample_7 : decode (zb m_Bk_dropExample) 7 = .ok (.aload_n 0, 1) := by decide +kernel
theorem d_Bk_dropExample_8 : decode (zb m_Bk_dropExample) 8 = .ok (.dup, 1) := by decide +kernel
theorem d_Bk_dropExample_9 : decode (zb m_Bk_dropExample) 9 = .ok (.getfield 26, 3) := by decide +kernel
theorem d_Bk_dropExample_12 : decode (zb m_Bk_dropExample) 12 = .ok (.iconst 1, 1) := by decide +kernel
theorem d_Bk_dropExample_13 : decode (zb m_Bk_dropExample) 13 = .ok (.isub, 1) := by decide +kernel
theorem d_Bk_dropExample_14 : decode (zb m_Bk_dropExample) 14 = .ok (.putfield 26, 3) := by decide +kernel
theorem d_Bk_dropExample_17 : decode (zb m_Bk_dropExample) 17 = .ok (.return_, 1) := by decide +kernel
theorem d_Bk_addLine_0 : decode (zb m_Bk_addLine) 0 = .ok (.aload_n 0, 1) := by decide +kernel
theorem d_Bk_addLine_1 : decode (zb m_Bk_addLine) 1 = .ok (.getfield 30, 3) := by decide +kernel
theorem d_Bk_addLine_4 : decode (zb m_Bk_addLine) 4 = .ok (.bipush 6, 2) := by decide +kernel
theorem d_Bk_addLine_6 : decode (zb m_Bk_addLine) 6 = .ok (.if_icmp .ge 26, 3) := by decide +kernel
theorem d_Bk_addLine_9 : decode (zb m_Bk_addLine) 9 = .ok (.aload_n 0, 1) := by decide +kernel
theorem d_Bk_addLine_10 : decode (zb m_Bk_addLine) 10 = .ok (.getfield 20, 3) := by decide +kernel
theorem d_Bk_addLine_13 : decode (zb m_Bk_addLine) 13 = .ok (.aload_n 0, 1) := by decide +kernel
theorem d_Bk_addLine_14 : decode (zb m_Bk_addLine) 14 = .ok (.getfield 30, 3) := by decide +kernel
theorem d_Bk_addLine_17 : decode (zb m_Bk_addLine) 17 = .ok (.aaload, 1) := by decide +kernel
theorem d_Bk_addLine_18 : decode (zb m_Bk_addLine) 18 = .ok (.aload_n 1, 1) := by decide +kernel
theorem d_Bk_addLine_19 : decode (zb m_Bk_addLine) 19 = .ok (.invokevirtual 44, 3) := by decide +kernel
theorem d_Bk_addLine_22 : decode (zb m_Bk_addLine) 22 = .ok (.aload_n 0, 1) := by decide +kernel
theorem d_Bk_addLine_23 : decode (zb m_Bk_addLine) 23 = .ok (.dup, 1) := by decide +kernel
theorem d_Bk_addLine_24 : decode (zb m_Bk_addLine) 24 = .ok (.getfield 30, 3) := by decide +kernel
theorem d_Bk_addLine_27 : decode (zb m_Bk_addLine) 27 = .ok (.iconst 1, 1) := by decide +kernel
theorem d_Bk_addLine_28 : decode (zb m_Bk_addLine) 28 = .ok (.iadd, 1) := by decide +kernel
theorem d_Bk_addLine_29 : decode (zb m_Bk_addLine) 29 = .ok (.putfield 30, 3) := by decide +kernel
theorem d_Bk_addLine_32 : decode (zb m_Bk_addLine) 32 = .ok (.return_, 1) := by decide +kernel
theorem d_Bk_dropLine_0 : decode (zb m_Bk_dropLine) 0 = .ok (.aload_n 0, 1) := by decide +kernel
theorem d_Bk_dropLine_1 : decode (zb m_Bk_dropLine) 1 = .ok (.iload_n 1, 1) := by decide +kernel
theorem d_Bk_dropLine_2 : decode (zb m_Bk_dropLine) 2 = .ok (.invokevirtual 48, 3) := by decide +kernel
theorem d_Bk_dropLine_5 : decode (zb m_Bk_dropLine) 5 = .ok (.ifCond .eq 48, 3) := by decide +kernel
theorem d_Bk_dropLine_8 : decode (zb m_Bk_dropLine) 8 = .ok (.iload_n 1, 1) := by decide +kernel
theorem d_Bk_dropLine_9 : decode (zb m_Bk_dropLine) 9 = .ok (.istore_n 2, 1) := by decide +kernel
theorem d_Bk_dropLine_10 : decode (zb m_Bk_dropLine) 10 = .ok (.iload_n 2, 1) := by decide +kernel
theorem d_Bk_dropLine_11 : decode (zb m_Bk_dropLine) 11 = .ok (.iconst 1, 1) := by decide +kernel
theorem d_Bk_dropLine_12 : decode (zb m_Bk_dropLine) 12 = .ok (.iadd, 1) := by decide +kernel
theorem d_Bk_dropLine_13 : decode (zb m_Bk_dropLine) 13 = .ok (.aload_n 0, 1) := by decide +kernel
theorem d_Bk_dropLine_14 : decode (zb m_Bk_dropLine) 14 = .ok (.getfield 30, 3) := by decide +kernel
theorem d_Bk_dropLine_17 : decode (zb m_Bk_dropLine) 17 = .ok (.if_icmp .ge 26, 3) := by decide +kernel
theorem d_Bk_dropLine_20 : decode (zb m_Bk_dropLine) 20 = .ok (.aload_n 0, 1) := by decide +kernel
theorem d_Bk_dropLine_21 : decode (zb m_Bk_dropLine) 21 = .ok (.getfield 20, 3) := by decide +kernel
theorem d_Bk_dropLine_24 : decode (zb m_Bk_dropLine) 24 = .ok (.iload_n 2, 1) := by decide +kernel
theorem d_Bk_dropLine_25 : decode (zb m_Bk_dropLine) 25 = .ok (.aaload, 1) := by decide +kernel
theorem d_Bk_dropLine_26 : decode (zb m_Bk_dropLine) 26 = .ok (.aload_n 0, 1) := by decide +kernel
theorem d_Bk_dropLine_27 : decode (zb m_Bk_dropLine) 27 = .ok (.getfield 20, 3) := by decide +kernel
theorem d_Bk_dropLine_30 : decode (zb m_Bk_dropLine) 30 = .ok (.iload_n 2, 1) := by decide +kernel
theorem d_Bk_dropLine_31 : decode (zb m_Bk_dropLine) 31 = .ok (.iconst 1, 1) := by decide +kernel
theorem d_Bk_dropLine_32 : decode (zb m_Bk_dropLine) 32 = .ok (.iadd, 1) := by decide +kernel
theorem d_Bk_dropLine_33 : decode (zb m_Bk_dropLine) 33 = .ok (.aaload, 1) := by decide +kernel
theorem d_Bk_dropLine_34 : decode (zb m_Bk_dropLine) 34 = .ok (.invokevirtual 44, 3) := by decide +kernel
theorem d_Bk_dropLine_37 : decode (zb m_Bk_dropLine) 37 = .ok (.iinc 2 1, 3) := by decide +kernel
theorem d_Bk_dropLine_40 : decode (zb m_Bk_dropLine) 40 = .ok (.goto (-30), 3) := by decide +kernel
theorem d_Bk_dropLine_43 : decode (zb m_Bk_dropLine) 43 = .ok (.aload_n 0, 1) := by decide +kernel
theorem d_Bk_dropLine_44 : decode (zb m_Bk_dropLine) 44 = .ok (.dup, 1) := by decide +kernel
theorem d_Bk_dropLine_45 : decode (zb m_Bk_dropLine) 45 = .ok (.getfield 30, 3) := by decide +kernel
theorem d_Bk_dropLine_48 : decode (zb m_Bk_dropLine) 48 = .ok (.iconst 1, 1) := by decide +kernel
theorem d_Bk_dropLine_49 : decode (zb m_Bk_dropLine) 49 = .ok (.isub, 1) := by decide +kernel
theorem d_Bk_dropLine_50 : decode (zb m_Bk_dropLine) 50 = .ok (.putfield 30, 3) := by decide +kernel
theorem d_Bk_dropLine_53 : decode (zb m_Bk_dropLine) 53 = .ok (.return_, 1) := by decide +kernel
theorem d_Bk_copy_0 : decode (zb m_Bk_copy) 0 = .ok (.aload_n 0, 1) := by decide +kernel
theorem d_Bk_copy_1 : decode (zb m_Bk_copy) 1 = .ok (.aload_n 1, 1) := by decide +kernel
theorem d_Bk_copy_2 : decode (zb m_Bk_copy) 2 = .ok (.getfield 26, 3) := by decide +kernel
theorem d_Bk_copy_5 : decode (zb m_Bk_copy) 5 = .ok (.putfield 26, 3) := by decide +kernel
theorem d_Bk_copy_8 : decode (zb m_Bk_copy) 8 = .ok (.aload_n 0, 1) := by decide +kernel
theorem d_Bk_copy_9 : decode (zb m_Bk_copy) 9 = .ok (.aload_n 1, 1) := by decide +kernel
theorem d_Bk_copy_10 : decode (zb m_Bk_copy) 10 = .ok (.getfield 30, 3) := by decide +kernel
theorem d_Bk_copy_13 : decode (zb m_Bk_copy) 13 = .ok (.putfield 30, 3) := by decide +kernel
theorem d_Bk_copy_16 : decode (zb m_Bk_copy) 16 = .ok (.iconst 0, 1) := by decide +kernel
theorem d_Bk_copy_17 : decode (zb m_Bk_copy) 17 = .ok (.istore_n 2, 1) := by decide +kernel
theorem d_Bk_copy_18 : decode (zb m_Bk_copy) 18 = .ok (.iload_n 2, 1) := by decide +kernel
theorem d_Bk_copy_19 : decode (zb m_Bk_copy) 19 = .ok (.iconst 3, 1) := by decide +kernel
theorem d_Bk_copy_20 : decode (zb m_Bk_copy) 20 = .ok (.if_icmp .ge 39, 3) := by decide +kernel
theorem d_Bk_copy_23 : decode (zb m_Bk_copy) 23 = .ok (.aload_n 0, 1) := by decide +kernel
theorem d_Bk_copy_24 : decode (zb m_Bk_copy) 24 = .ok (.getfield 11, 3) := by decide +kernel
theorem d_Bk_copy_27 : decode (zb m_Bk_copy) 27 = .ok (.iload_n 2, 1) := by decide +kernel
theorem d_Bk_copy_28 : decode (zb m_Bk_copy) 28 = .ok (.aaload, 1) := by decide +kernel
theorem d_Bk_copy_29 : decode (zb m_Bk_copy) 29 = .ok (.aload_n 1, 1) := by decide +kernel
theorem d_Bk_copy_30 : decode (zb m_Bk_copy) 30 = .ok (.getfield 11, 3) := by decide +kernel
theorem d_Bk_copy_33 : decode (zb m_Bk_copy) 33 = .ok (.iload_n 2, 1) := by decide +kernel
theorem d_Bk_copy_34 : decode (zb m_Bk_copy) 34 = .ok (.aaload, 1) := by decide +kernel
theorem d_Bk_copy_35 : decode (zb m_Bk_copy) 35 = .ok (.invokevirtual 44, 3) := by decide +kernel
theorem d_Bk_copy_38 : decode (zb m_Bk_copy) 38 = .ok (.aload_n 0, 1) := by decide +kernel
theorem d_Bk_copy_39 : decode (zb m_Bk_copy) 39 = .ok (.getfield 17, 3) := by decide +kernel
theorem d_Bk_copy_42 : decode (zb m_Bk_copy) 42 = .ok (.iload_n 2, 1) := by decide +kernel
theorem d_Bk_copy_43 : decode (zb m_Bk_copy) 43 = .ok (.aaload, 1) := by decide +kernel
theorem d_Bk_copy_44 : decode (zb m_Bk_copy) 44 = .ok (.aload_n 1, 1) := by decide +kernel
theorem d_Bk_copy_45 : decode (zb m_Bk_copy) 45 = .ok (.getfield 17, 3) := by decide +kernel
theorem d_Bk_copy_48 : decode (zb m_Bk_copy) 48 = .ok (.iload_n 2, 1) := by decide +kernel
theorem d_Bk_copy_49 : decode (zb m_Bk_copy) 49 = .ok (.aaload, 1) := by decide +kernel
theorem d_Bk_copy_50 : decode (zb m_Bk_copy) 50 = .ok (.invokevirtual 44, 3) := by decide +kernel
theorem d_Bk_copy_53 : decode (zb m_Bk_copy) 53 = .ok (.iinc 2 1, 3) := by decide +kernel
theorem d_Bk_copy_56 : decode (zb m_Bk_copy) 56 = .ok (.goto (-38), 3) := by decide +kernel
theorem d_Bk_copy_59 : decode (zb m_Bk_copy) 59 = .ok (.iconst 0, 1) := by decide +kernel
theorem d_Bk_copy_60 : decode (zb m_Bk_copy) 60 = .ok (.istore_n 2, 1) := by decide +kernel
theorem d_Bk_copy_61 : decode (zb m_Bk_copy) 61 = .ok (.iload_n 2, 1) := by decide +kernel
theorem d_Bk_copy_62 : decode (zb m_Bk_copy) 62 = .ok (.bipush 6, 2) := by decide +kernel
theorem d_Bk_copy_64 : decode (zb m_Bk_copy) 64 = .ok (.if_icmp .ge 24, 3) := by decide +kernel
theorem d_Bk_copy_67 : decode (zb m_Bk_copy) 67 = .ok (.aload_n 0, 1) := by decide +kernel
theorem d_Bk_copy_68 : decode (zb m_Bk_copy) 68 = .ok (.getfield 20, 3) := by decide +kernel
theorem d_Bk_copy_71 : decode (zb m_Bk_copy) 71 = .ok (.iload_n 2, 1) := by decide +kernel
theorem d_Bk_copy_72 : decode (zb m_Bk_copy) 72 = .ok (.aaload, 1) := by decide +kernel
theorem d_Bk_copy_73 : decode (zb m_Bk_copy) 73 = .ok (.aload_n 1, 1) := by decide +kernel
theorem d_Bk_copy_74 : decode (zb m_Bk_copy) 74 = .ok (.getfield 20, 3) := by decide +kernel
theorem d_Bk_copy_77 : decode (zb m_Bk_copy) 77 = .ok (.iload_n 2, 1) := by decide +kernel
theorem d_Bk_copy_78 : decode (zb m_Bk_copy) 78 = .ok (.aaload, 1) := by decide +kernel
theorem d_Bk_copy_79 : decode (zb m_Bk_copy) 79 = .ok (.invokevirtual 44, 3) := by decide +kernel
theorem d_Bk_copy_82 : decode (zb m_Bk_copy) 82 = .ok (.iinc 2 1, 3) := by decide +kernel
theorem d_Bk_copy_85 : decode (zb m_Bk_copy) 85 = .ok (.goto (-24), 3) := by decide +kernel
theorem d_Bk_copy_88 : decode (zb m_Bk_copy) 88 = .ok (.return_, 1) := by decide +kernel
theorem d_Ft_init_0 : decode (zb m_Ft_init) 0 = .ok (.aload_n 0, 1) := by decide +kernel
theorem d_Ft_init_1 : decode (zb m_Ft_init) 1 = .ok (.invokespecial 5, 3) := by decide +kernel
theorem d_Ft_init_4 : decode (zb m_Ft_init) 4 = .ok (.aload_n 0, 1) := by decide +kernel
theorem d_Ft_init_5 : decode (zb m_Ft_init) 5 = .ok (.iconst 4, 1) := by decide +kernel
theorem d_Ft_init_6 : decode (zb m_Ft_init) 6 = .ok (.anewarray 11, 3) := by decide +kernel
theorem d_Ft_init_9 : decode (zb m_Ft_init) 9 = .ok (.putfield 13, 3) := by decide +kernel
theorem d_Ft_init_12 : decode (zb m_Ft_init) 12 = .ok (.aload_n 0, 1) := by decide +kernel
theorem d_Ft_init_13 : decode (zb m_Ft_init) 13 = .ok (.iconst 4, 1) := by decide +kernel
theorem d_Ft_init_14 : decode (zb m_Ft_init) 14 = .ok (.newarray .int, 2) := by decide +kernel
theorem d_Ft_init_16 : decode (zb m_Ft_init) 16 = .ok (.putfield 17, 3) := by decide +kernel
theorem d_Ft_init_19 : decode (zb m_Ft_init) 19 = .ok (.aload_n 0, 1) := by decide +kernel
theorem d_Ft_init_20 : decode (zb m_Ft_init) 20 = .ok (.bipush 62, 2) := by decide +kernel
theorem d_Ft_init_22 : decode (zb m_Ft_init) 22 = .ok (.newarray .int, 2) := by decide +kernel
theorem d_Ft_init_24 : decode (zb m_Ft_init) 24 = .ok (.putfield 23, 3) := by decide +kernel
theorem d_Ft_init_27 : decode (zb m_Ft_init) 27 = .ok (.aload_n 0, 1) := by decide +kernel
theorem d_Ft_init_28 : decode (zb m_Ft_init) 28 = .ok (.bipush 62, 2) := by decide +kernel
theorem d_Ft_init_30 : decode (zb m_Ft_init) 30 = .ok (.newarray .int, 2) := by decide +kernel
theorem d_Ft_init_32 : decode (zb m_Ft_init) 32 = .ok (.putfield 26, 3) := by decide +kernel
theorem d_Ft_init_35 : decode (zb m_Ft_init) 35 = .ok (.aload_n 0, 1) := by decide +kernel
theorem d_Ft_init_36 : decode (zb m_Ft_init) 36 = .ok (.bipush 62, 2) := by decide +kernel
theorem d_Ft_init_38 : decode (zb m_Ft_init) 38 = .ok (.newarray .int, 2) := by decide +kernel
theorem d_Ft_init_40 : decode (zb m_Ft_init) 40 = .ok (.putfield 29, 3) := by decide +kernel
theorem d_Ft_init_43 : decode (zb m_Ft_init) 43 = .ok (.aload_n 0, 1) := by decide +kernel
theorem d_Ft_init_44 : decode (zb m_Ft_init) 44 = .ok (.new 32, 3) := by decide +kernel
theorem d_Ft_init_47 : decode (zb m_Ft_init) 47 = .ok (.dup, 1) := by decide +kernel
theorem d_Ft_init_48 : decode (zb m_Ft_init) 48 = .ok (.invokespecial 34, 3) := by decide +kernel
theorem d_Ft_init_51 : decode (zb m_Ft_init) 51 = .ok (.putfield 35, 3) := by decide +kernel
theorem d_Ft_init_54 : decode (zb m_Ft_init) 54 = .ok (.aload_n 0, 1) := by decide +kernel
theorem d_Ft_init_55 : decode (zb m_Ft_init) 55 = .ok (.sipush 1296, 3) := by decide +kernel
theorem d_Ft_init_58 : decode (zb m_Ft_init) 58 = .ok (.newarray .long, 2) := by decide +kernel
theorem d_Ft_init_60 : decode (zb m_Ft_init) 60 = .ok (.putfield 39, 3) := by decide +kernel
theorem d_Ft_init_63 : decode (zb m_Ft_init) 63 = .ok (.aload_n 0, 1) := by decide +kernel
theorem d_Ft_init_64 : decode (zb m_Ft_init) 64 = .ok (.sipush 1296, 3) := by decide +kernel
theorem d_Ft_init_67 : decode (zb m_Ft_init) 67 = .ok (.newarray .int, 2) := by decide +kernel
theorem d_Ft_init_69 : decode (zb m_Ft_init) 69 = .ok (.putfield 43, 3) := by decide +kernel
theorem d_Ft_init_72 : decode (zb m_Ft_init) 72 = .ok (.iconst 0, 1) := by decide +kernel
theorem d_Ft_init_73 : decode (zb m_Ft_init) 73 = .ok (.istore_n 1, 1) := by decide +kernel
theorem d_Ft_init_74 : decode (zb m_Ft_init) 74 = .ok (.iload_n 1, 1) := by decide +kernel
theorem d_Ft_init_75 : decode (zb m_Ft_init) 75 = .ok (.iconst 4, 1) := by decide +kernel
theorem d_Ft_init_76 : decode (zb m_Ft_init) 76 = .ok (.if_icmp .ge 22, 3) := by decide +kernel
theorem d_Ft_init_79 : decode (zb m_Ft_init) 79 = .ok (.aload_n 0, 1) := by decide +kernel
theorem d_Ft_init_80 : decode (zb m_Ft_init) 80 = .ok (.getfield 13, 3) := by decide +kernel
theorem d_Ft_init_83 : decode (zb m_Ft_init) 83 = .ok (.iload_n 1, 1) := by decide +kernel
theorem d_Ft_init_84 : decode (zb m_Ft_init) 84 = .ok (.new 11, 3) := by decide +kernel
theorem d_Ft_init_87 : decode (zb m_Ft_init) 87 = .ok (.dup, 1) := by decide +kernel
theorem d_Ft_init_88 : decode (zb m_Ft_init) 88 = .ok (.invokespecial 46, 3) := by decide +kernel
theorem d_Ft_init_91 : decode (zb m_Ft_init) 91 = .ok (.aastore, 1) := by decide +kernel
theorem d_Ft_init_92 : decode (zb m_Ft_init) 92 = .ok (.iinc 1 1, 3) := by decide +kernel
theorem d_Ft_init_95 : decode (zb m_Ft_init) 95 = .ok (.goto (-21), 3) := by decide +kernel
theorem d_Ft_init_98 : decode (zb m_Ft_init) 98 = .ok (.return_, 1) := by decide +kernel
theorem d_Ft_clear_0 : decode (zb m_Ft_clear) 0 = .ok (.aload_n 0, 1) := by decide +kernel
theorem d_Ft_clear_1 : decode (zb m_Ft_clear) 1 = .ok (.iconst 0, 1) := by decide +kernel
theorem d_Ft_clear_2 : decode (zb m_Ft_clear) 2 = .ok (.putfield 47, 3) := by decide +kernel
theorem d_Ft_clear_5 : decode (zb m_Ft_clear) 5 = .ok (.return_, 1) := by decide +kernel
theorem d_Ft_addRow_0 : decode (zb m_Ft_addRow) 0 = .ok (.aload_n 0, 1) := by decide +kernel
theorem d_Ft_addRow_1 : decode (zb m_Ft_addRow) 1 = .ok (.getfield 47, 3) := by decide +kernel
theorem d_Ft_addRow_4 : decode (zb m_Ft_addRow) 4 = .ok (.iconst 4, 1) := by decide +kernel
theorem d_Ft_addRow_5 : decode (zb m_Ft_addRow) 5 = .ok (.if_icmp .ge 27, 3) := by decide +kernel
theorem d_Ft_addRow_8 : decode (zb m_Ft_addRow) 8 = .ok (.aload_n 0, 1) := by decide +kernel
theorem d_Ft_addRow_9 : decode (zb m_Ft_addRow) 9 = .ok (.getfield 13, 3) := by decide +kernel
theorem d_Ft_addRow_12 : decode (zb m_Ft_addRow) 12 = .ok (.aload_n 0, 1) := by decide +kernel
theorem d_Ft_addRow_13 : decode (zb m_Ft_addRow) 13 = .ok (.getfield 47, 3) := by decide +kernel
theorem d_Ft_addRow_16 : decode (zb m_Ft_addRow) 16 = .ok (.aaload, 1) := by decide +kernel
theorem d_Ft_addRow_17 : decode (zb m_Ft_addRow) 17 = .ok (.aload_n 1, 1) := by decide +kernel
theorem d_Ft_addRow_18 : decode (zb m_Ft_addRow) 18 = .ok (.aload_n 2, 1) := by decide +kernel
theorem d_Ft_addRow_19 : decode (zb m_Ft_addRow) 19 = .ok (.invokevirtual 51, 3) := by decide +kernel
theorem d_Ft_addRow_22 : decode (zb m_Ft_addRow) 22 = .ok (.aload_n 0, 1) := by decide +kernel
theorem d_Ft_addRow_23 : decode (zb m_Ft_addRow) 23 = .ok (.dup, 1) := by decide +kernel
theorem d_Ft_addRow_24 : decode (zb m_Ft_addRow) 24 = .ok (.getfield 47, 3) := by decide +kernel
theorem d_Ft_addRow_27 : decode (zb m_Ft_addRow) 27 = .ok (.iconst 1, 1) := by decide +kernel
theorem d_Ft_addRow_28 : decode (zb m_Ft_addRow) 28 = .ok (.iadd, 1) := by decide +kernel
theorem d_Ft_addRow_29 : decode (zb m_Ft_addRow) 29 = .ok (.putfield 47, 3) := by decide +kernel
theorem d_Ft_addRow_32 : decode (zb m_Ft_addRow) 32 = .ok (.return_, 1) := by decide +kernel
theorem d_Ft_dropRow_0 : decode (zb m_Ft_dropRow) 0 = .ok (.aload_n 0, 1) := by decide +kernel
theorem d_Ft_dropRow_1 : decode (zb m_Ft_dropRow) 1 = .ok (.getfield 47, 3) := by decide +kernel
theorem d_Ft_dropRow_4 : decode (zb m_Ft_dropRow) 4 = .ok (.ifCond .le 13, 3) := by decide +kernel
theorem d_Ft_dropRow_7 : decode (zb m_Ft_dropRow) 7 = .ok (.aload_n 0, 1) := by decide +kernel
theorem d_Ft_dropRow_8 : decode (zb m_Ft_dropRow) 8 = .ok (.dup, 1) := by decide +kernel
theorem d_Ft_dropRow_9 : decode (zb m_Ft_dropRow) 9 = .ok (.getfield 47, 3) := by decide +kernel
theorem d_Ft_dropRow_12 : decode (zb m_Ft_dropRow) 12 = .ok (.iconst 1, 1) := by decide +kernel
theorem d_Ft_dropRow_13 : decode (zb m_Ft_dropRow) 13 = .ok (.isub, 1) := by decide +kernel
theorem d_Ft_dropRow_14 : decode (zb m_Ft_dropRow) 14 = .ok (.putfield 47, 3) := by decide +kernel
theorem d_Ft_dropRow_17 : decode (zb m_Ft_dropRow) 17 = .ok (.return_, 1) := by decide +kernel
theorem d_Ft_count_0 : decode (zb m_Ft_count) 0 = .ok (.aload_n 0, 1) := by decide +kernel
theorem d_Ft_count_1 : decode (zb m_Ft_count) 1 = .ok (.invokevirtual 55, 3) := by decide +kernel
theorem d_Ft_count_4 : decode (zb m_Ft_count) 4 = .ok (.iconst 0, 1) := by decide +kernel
theorem d_Ft_count_5 : decode (zb m_Ft_count) 5 = .ok (.istore_n 1, 1) := by decide +kernel
theorem d_Ft_count_6 : decode (zb m_Ft_count) 6 = .ok (.iload_n 1, 1) := by decide +kernel
theorem d_Ft_count_7 : decode (zb m_Ft_count) 7 = .ok (.sipush 1296, 3) := by decide +kernel
theorem d_Ft_count_10 : decode (zb m_Ft_count) 10 = .ok (.if_icmp .ge 16, 3) := by decide +kernel
theorem d_Ft_count_13 : decode (zb m_Ft_count) 13 = .ok (.aload_n 0, 1) := by decide +kernel
theorem d_Ft_count_14 : decode (zb m_Ft_count) 14 = .ok (.getfield 39, 3) := by decide +kernel
theorem d_Ft_count_17 : decode (zb m_Ft_count) 17 = .ok (.iload_n 1, 1) := by decide +kernel
theorem d_Ft_count_18 : decode (zb m_Ft_count) 18 = .ok (.lconst 0, 1) := by decide +kernel
theorem d_Ft_count_19 : decode (zb m_Ft_count) 19 = .ok (.lastore, 1) := by decide +kernel
theorem d_Ft_count_20 : decode (zb m_Ft_count) 20 = .ok (.iinc 1 1, 3) := by decide +kernel
theorem d_Ft_count_23 : decode (zb m_Ft_count) 23 = .ok (.goto (-17), 3) := by decide +kernel
theorem d_Ft_count_26 : decode (zb m_Ft_count) 26 = .ok (.aload_n 0, 1) := by decide +kernel
theorem d_Ft_count_27 : decode (zb m_Ft_count) 27 = .ok (.getfield 39, 3) := by decide +kernel
theorem d_Ft_count_30 : decode (zb m_Ft_count) 30 = .ok (.iconst 0, 1) := by decide +kernel
theorem d_Ft_count_31 : decode (zb m_Ft_count) 31 = .ok (.lconst 1, 1) := by decide +kernel
theorem d_Ft_count_32 : decode (zb m_Ft_count) 32 = .ok (.lastore, 1) := by decide +kernel
theorem d_Ft_count_33 : decode (zb m_Ft_count) 33 = .ok (.aload_n 0, 1) := by decide +kernel
theorem d_Ft_count_34 : decode (zb m_Ft_count) 34 = .ok (.invokevirtual 58, 3) := by decide +kernel
theorem d_Ft_count_37 : decode (zb m_Ft_count) 37 = .ok (.istore_n 1, 1) := by decide +kernel
theorem d_Ft_count_38 : decode (zb m_Ft_count) 38 = .ok (.iconst 0, 1) := by decide +kernel
theorem d_Ft_count_39 : decode (zb m_Ft_count) 39 = .ok (.istore_n 2, 1) := by decide +kernel
theorem d_Ft_count_40 : decode (zb m_Ft_count) 40 = .ok (.iload_n 2, 1) := by decide +kernel
theorem d_Ft_count_41 : decode (zb m_Ft_count) 41 = .ok (.iload_n 1, 1) := by decide +kernel
theorem d_Ft_count_42 : decode (zb m_Ft_count) 42 = .ok (.if_icmp .ge 72, 3) := by decide +kernel
theorem d_Ft_count_45 : decode (zb m_Ft_count) 45 = .ok (.aload_n 0, 1) := by decide +kernel
theorem d_Ft_count_46 : decode (zb m_Ft_count) 46 = .ok (.getfield 39, 3) := by decide +kernel
theorem d_Ft_count_49 : decode (zb m_Ft_count) 49 = .ok (.iload_n 2, 1) := by decide +kernel
theorem d_Ft_count_50 : decode (zb m_Ft_count) 50 = .ok (.laload, 1) := by decide +kernel
theorem d_Ft_count_51 : decode (zb m_Ft_count) 51 = .ok (.lconst 0, 1) := by decide +kernel
theorem d_Ft_count_52 : decode (zb m_Ft_count) 52 = .ok (.lcmp, 1) := by decide +kernel
theorem d_Ft_count_53 : decode (zb m_Ft_count) 53 = .ok (.ifCond .eq 55, 3) := by decide +kernel
theorem d_Ft_count_56 : decode (zb m_Ft_count) 56 = .ok (.aload_n 0, 1) := by decide +kernel
theorem d_Ft_count_57 : decode (zb m_Ft_count) 57 = .ok (.iload_n 2, 1) := by decide +kernel
theorem d_Ft_count_58 : decode (zb m_Ft_count) 58 = .ok (.invokevirtual 62, 3) := by decide +kernel
theorem d_Ft_count_61 : decode (zb m_Ft_count) 61 = .ok (.iconst 0, 1) := by decide +kernel
theorem d_Ft_count_62 : decode (zb m_Ft_count) 62 = .ok (.istore_n 3, 1) := by decide +kernel
theorem d_Ft_count_63 : decode (zb m_Ft_count) 63 = .ok (.iload_n 3, 1) := by decide +kernel
theorem d_Ft_count_64 : decode (zb m_Ft_count) 64 = .ok (.aload_n 0, 1) := by decide +kernel
theorem d_Ft_count_65 : decode (zb m_Ft_count) 65 = .ok (.getfield 35, 3) := by decide +kernel
theorem d_Ft_count_68 : decode (zb m_Ft_count) 68 = .ok (.invokevirtual 66, 3) := by decide +kernel
theorem d_Ft_count_71 : decode (zb m_Ft_count) 71 = .ok (.if_icmp .ge 37, 3) := by decide +kernel
theorem d_Ft_count_74 : decode (zb m_Ft_count) 74 = .ok (.aload_n 0, 1) := by decide +kernel
theorem d_Ft_count_75 : decode (zb m_Ft_count) 75 = .ok (.aload_n 0, 1) := by decide +kernel
theorem d_Ft_count_76 : decode (zb m_Ft_count) 76 = .ok (.getfield 35, 3) := by decide +kernel
theorem d_Ft_count_79 : decode (zb m_Ft_count) 79 = .ok (.iload_n 3, 1) := by decide +kernel
theorem d_Ft_count_80 : decode (zb m_Ft_count) 80 = .ok (.invokevirtual 68, 3) := by decide +kernel
theorem d_Ft_count_83 : decode (zb m_Ft_count) 83 = .ok (.aload_n 0, 1) := by decide +kernel
theorem d_Ft_count_84 : decode (zb m_Ft_count) 84 = .ok (.getfield 39, 3) := by decide +kernel
theorem d_Ft_count_87 : decode (zb m_Ft_count) 87 = .ok (.iload_n 2, 1) := by decide +kernel
theorem d_Ft_count_88 : decode (zb m_Ft_count) 88 = .ok (.laload, 1) := by decide +kernel
theorem d_Ft_count_89 : decode (zb m_Ft_count) 89 = .ok (.aload_n 0, 1) := by decide +kernel
theorem d_Ft_count_90 : decode (zb m_Ft_count) 90 = .ok (.getfield 35, 3) := by decide +kernel
theorem d_Ft_count_93 : decode (zb m_Ft_count) 93 = .ok (.iload_n 3, 1) := by decide +kernel
theorem d_Ft_count_94 : decode (zb m_Ft_count) 94 = .ok (.invokevirtual 72, 3) := by decide +kernel
theorem d_Ft_count_97 : decode (zb m_Ft_count) 97 = .ok (.i2l, 1) := by decide +kernel
theorem d_Ft_count_98 : decode (zb m_Ft_count) 98 = .ok (.lmul, 1) := by decide +kernel
theorem d_Ft_count_99 : decode (zb m_Ft_count) 99 = .ok (.invokevirtual 75, 3) := by decide +kernel
theorem d_Ft_count_102 : decode (zb m_Ft_count) 102 = .ok (.iinc 3 1, 3) := by decide +kernel
theorem d_Ft_count_105 : decode (zb m_Ft_count) 105 = .ok (.goto (-42), 3) := by decide +kernel
theorem d_Ft_count_108 : decode (zb m_Ft_count) 108 = .ok (.iinc 2 1, 3) := by decide +kernel
theorem d_Ft_count_111 : decode (zb m_Ft_count) 111 = .ok (.goto (-71), 3) := by decide +kernel
theorem d_Ft_count_114 : decode (zb m_Ft_count) 114 = .ok (.aload_n 0, 1) := by decide +kernel
theorem d_Ft_count_115 : decode (zb m_Ft_count) 115 = .ok (.getfield 39, 3) := by decide +kernel
theorem d_Ft_count_118 : decode (zb m_Ft_count) 118 = .ok (.iload_n 1, 1) := by decide +kernel
theorem d_Ft_count_119 : decode (zb m_Ft_count) 119 = .ok (.laload, 1) := by decide +kernel
theorem d_Ft_count_120 : decode (zb m_Ft_count) 120 = .ok (.lreturn, 1) := by decide +kernel
theorem d_Ft_addWays_0 : decode (zb m_Ft_addWays) 0 = .ok (.iload_n 1, 1) := by decide +kernel
theorem d_Ft_addWays_1 : decode (zb m_Ft_addWays) 1 = .ok (.ifCond .lt 20, 3) := by decide +kernel
theorem d_Ft_addWays_4 : decode (zb m_Ft_addWays) 4 = .ok (.iload_n 1, 1) := by decide +kernel
theorem d_Ft_addWays_5 : decode (zb m_Ft_addWays) 5 = .ok (.sipush 1296, 3) := by decide +kernel
theorem d_Ft_addWays_8 : decode (zb m_Ft_addWays) 8 = .ok (.if_icmp .ge 13, 3) := by decide +kernel
theorem d_Ft_addWays_11 : decode (zb m_Ft_addWays) 11 = .ok (.aload_n 0, 1) := by decide +kernel
theorem d_Ft_addWays_12 : decode (zb m_Ft_addWays) 12 = .ok (.getfield 39, 3) := by decide +kernel
theorem d_Ft_addWays_15 : decode (zb m_Ft_addWays) 15 = .ok (.iload_n 1, 1) := by decide +kernel
theorem d_Ft_addWays_16 : decode (zb m_Ft_addWays) 16 = .ok (.dup2, 1) := by decide +kernel
theorem d_Ft_addWays_17 : decode (zb m_Ft_addWays) 17 = .ok (.laload, 1) := by decide +kernel
theorem d_Ft_addWays_18 : decode (zb m_Ft_addWays) 18 = .ok (.lload_n 2, 1) := by decide +kernel
theorem d_Ft_addWays_19 : decode (zb m_Ft_addWays) 19 = .ok (.ladd, 1) := by decide +kernel
theorem d_Ft_addWays_20 : decode (zb m_Ft_addWays) 20 = .ok (.lastore, 1) := by decide +kernel
theorem d_Ft_addWays_21 : decode (zb m_Ft_addWays) 21 = .ok (.return_, 1) := by decide +kernel
theorem d_Ft_weigh_0 : decode (zb m_Ft_weigh) 0 = .ok (.aload_n 0, 1) := by decide +kernel
theorem d_Ft_weigh_1 : decode (zb m_Ft_weigh) 1 = .ok (.invokevirtual 58, 3) := by decide +kernel
theorem d_Ft_weigh_4 : decode (zb m_Ft_weigh) 4 = .ok (.istore_n 1, 1) := by decide +kernel
theorem d_Ft_weigh_5 : decode (zb m_Ft_weigh) 5 = .ok (.aload_n 0, 1) := by decide +kernel
theorem d_Ft_weigh_6 : decode (zb m_Ft_weigh) 6 = .ok (.getfield 43, 3) := by decide +kernel
theorem d_Ft_weigh_9 : decode (zb m_Ft_weigh) 9 = .ok (.iload_n 1, 1) := by decide +kernel
theorem d_Ft_weigh_10 : decode (zb m_Ft_weigh) 10 = .ok (.iconst 0, 1) := by decide +kernel
theorem d_Ft_weigh_11 : decode (zb m_Ft_weigh) 11 = .ok (.iastore, 1) := by decide +kernel
theorem d_Ft_weigh_12 : decode (zb m_Ft_weigh) 12 = .ok (.iload_n 1, 1) := by decide +kernel
theorem d_Ft_weigh_13 : decode (zb m_Ft_weigh) 13 = .ok (.iconst 1, 1) := by decide +kernel
theorem d_Ft_weigh_14 : decode (zb m_Ft_weigh) 14 = .ok (.isub, 1) := by decide +kernel
theorem d_Ft_weigh_15 : decode (zb m_Ft_weigh) 15 = .ok (.istore_n 2, 1) := by decide +kernel
theorem d_Ft_weigh_16 : decode (zb m_Ft_weigh) 16 = .ok (.iload_n 2, 1) := by decide +kernel
theorem d_Ft_weigh_17 : decode (zb m_Ft_weigh) 17 = .ok (.ifCond .lt 84, 3) := by decide +kernel
theorem d_Ft_weigh_20 : decode (zb m_Ft_weigh) 20 = .ok (.aload_n 0, 1) := by decide +kernel
theorem d_Ft_weigh_21 : decode (zb m_Ft_weigh) 21 = .ok (.getfield 39, 3) := by decide +kernel
theorem d_Ft_weigh_24 : decode (zb m_Ft_weigh) 24 = .ok (.iload_n 2, 1) := by decide +kernel
theorem d_Ft_weigh_25 : decode (zb m_Ft_weigh) 25 = .ok (.laload, 1) := by decide +kernel
theorem d_Ft_weigh_26 : decode (zb m_Ft_weigh) 26 = .ok (.lconst 0, 1) := by decide +kernel
theorem d_Ft_weigh_27 : decode (zb m_Ft_weigh) 27 = .ok (.lcmp, 1) := by decide +kernel
theorem d_Ft_weigh_28 : decode (zb m_Ft_weigh) 28 = .ok (.ifCond .eq 67, 3) := by decide +kernel
theorem d_Ft_weigh_31 : decode (zb m_Ft_weigh) 31 = .ok (.aload_n 0, 1) := by decide +kernel
theorem d_Ft_weigh_32 : decode (zb m_Ft_weigh) 32 = .ok (.iload_n 2, 1) := by decide +kernel
theorem d_Ft_weigh_33 : decode (zb m_Ft_weigh) 33 = .ok (.invokevirtual 62, 3) := by decide +kernel
theorem d_Ft_weigh_36 : decode (zb m_Ft_weigh) 36 = .ok (.ldc 79, 2) := by decide +kernel
theorem d_Ft_weigh_38 : decode (zb m_Ft_weigh) 38 = .ok (.istore_n 3, 1) := by decide +kernel
theorem d_Ft_weigh_39 : decode (zb m_Ft_weigh) 39 = .ok (.iconst 0, 1) := by decide +kernel
theorem d_Ft_weigh_40 : decode (zb m_Ft_weigh) 40 = .ok (.istore 4, 2) := by decide +kernel
theorem d_Ft_weigh_42 : decode (zb m_Ft_weigh) 42 = .ok (.iload 4, 2) := by decide +kernel
theorem d_Ft_weigh_44 : decode (zb m_Ft_weigh) 44 = .ok (.aload_n 0, 1) := by decide +kernel
theorem d_Ft_weigh_45 : decode (zb m_Ft_weigh) 45 = .ok (.getfield 35, 3) := by decide +kernel
theorem d_Ft_weigh_48 : decode (zb m_Ft_weigh) 48 = .ok (.invokevirtual 66, 3) := by decide +kernel
theorem d_Ft_weigh_51 : decode (zb m_Ft_weigh) 51 = .ok (.if_icmp .ge 37, 3) := by decide +kernel
theorem d_Ft_weigh_54 : decode (zb m_Ft_weigh) 54 = .ok (.iload_n 3, 1) := by decide +kernel
theorem d_Ft_weigh_55 : decode (zb m_Ft_weigh) 55 = .ok (.aload_n 0, 1) := by decide +kernel
theorem d_Ft_weigh_56 : decode (zb m_Ft_weigh) 56 = .ok (.getfield 35, 3) := by decide +kernel
theorem d_Ft_weigh_59 : decode (zb m_Ft_weigh) 59 = .ok (.iload 4, 2) := by decide +kernel
theorem d_Ft_weigh_61 : decode (zb m_Ft_weigh) 61 = .ok (.invokevirtual 80, 3) := by decide +kernel
theorem d_Ft_weigh_64 : decode (zb m_Ft_weigh) 64 = .ok (.aload_n 0, 1) := by decide +kernel
theorem d_Ft_weigh_65 : decode (zb m_Ft_weigh) 65 = .ok (.aload_n 0, 1) := by decide +kernel
theorem d_Ft_weigh_66 : decode (zb m_Ft_weigh) 66 = .ok (.getfield 35, 3) := by decide +kernel
theorem d_Ft_weigh_69 : decode (zb m_Ft_weigh) 69 = .ok (.iload 4, 2) := by decide +kernel
theorem d_Ft_weigh_71 : decode (zb m_Ft_weigh) 71 = .ok (.invokevirtual 68, 3) := by decide +kernel
theorem d_Ft_weigh_74 : decode (zb m_Ft_weigh) 74 = .ok (.invokevirtual 83, 3) := by decide +kernel
theorem d_Ft_weigh_77 : decode (zb m_Ft_weigh) 77 = .ok (.iadd, 1) := by decide +kernel
theorem d_Ft_weigh_78 : decode (zb m_Ft_weigh) 78 = .ok (.invokestatic 86, 3) := by decide +kernel
theorem d_Ft_weigh_81 : decode (zb m_Ft_weigh) 81 = .ok (.istore_n 3, 1) := by decide +kernel
theorem d_Ft_weigh_82 : decode (zb m_Ft_weigh) 82 = .ok (.iinc 4 1, 3) := by decide +kernel
theorem d_Ft_weigh_85 : decode (zb m_Ft_weigh) 85 = .ok (.goto (-43), 3) := by decide +kernel
theorem d_Ft_weigh_88 : decode (zb m_Ft_weigh) 88 = .ok (.aload_n 0, 1) := by decide +kernel
theorem d_Ft_weigh_89 : decode (zb m_Ft_weigh) 89 = .ok (.getfield 43, 3) := by decide +kernel
theorem d_Ft_weigh_92 : decode (zb m_Ft_weigh) 92 = .ok (.iload_n 2, 1) := by decide +kernel
theorem d_Ft_weigh_93 : decode (zb m_Ft_weigh) 93 = .ok (.iload_n 3, 1) := by decide +kernel
theorem d_Ft_weigh_94 : decode (zb m_Ft_weigh) 94 = .ok (.iastore, 1) := by decide +kernel
theorem d_Ft_weigh_95 : decode (zb m_Ft_weigh) 95 = .ok (.iinc 2 (-1), 3) := by decide +kernel
theorem d_Ft_weigh_98 : decode (zb m_Ft_weigh) 98 = .ok (.goto (-82), 3) := by decide +kernel
theorem d_Ft_weigh_101 : decode (zb m_Ft_weigh) 101 = .ok (.return_, 1) := by decide +kernel
theorem d_Ft_leastFrom_0 : decode (zb m_Ft_leastFrom) 0 = .ok (.iload_n 1, 1) := by decide +kernel
theorem d_Ft_leastFrom_1 : decode (zb m_Ft_leastFrom) 1 = .ok (.ifCond .lt 19, 3) := by decide +kernel
theorem d_Ft_leastFrom_4 : decode (zb m_Ft_leastFrom) 4 = .ok (.iload_n 1, 1) := by decide +kernel
theorem d_Ft_leastFrom_5 : decode (zb m_Ft_leastFrom) 5 = .ok (.sipush 1296, 3) := by decide +kernel
theorem d_Ft_leastFrom_8 : decode (zb m_Ft_leastFrom) 8 = .ok (.if_icmp .ge 12, 3) := by decide +kernel
theorem d_Ft_leastFrom_11 : decode (zb m_Ft_leastFrom) 11 = .ok (.aload_n 0, 1) := by decide +kernel
theorem d_Ft_leastFrom_12 : decode (zb m_Ft_leastFrom) 12 = .ok (.getfield 43, 3) := by decide +kernel
theorem d_Ft_leastFrom_15 : decode (zb m_Ft_leastFrom) 15 = .ok (.iload_n 1, 1) := by decide +kernel
theorem d_Ft_leastFrom_16 : decode (zb m_Ft_leastFrom) 16 = .ok (.iaload, 1) := by decide +kernel
theorem d_Ft_leastFrom_17 : decode (zb m_Ft_leastFrom) 17 = .ok (.goto 5, 3) := by decide +kernel
theorem d_Ft_leastFrom_20 : decode (zb m_Ft_leastFrom) 20 = .ok (.ldc 79, 2) := by decide +kernel
theorem d_Ft_leastFrom_22 : decode (zb m_Ft_leastFrom) 22 = .ok (.ireturn, 1) := by decide +kernel
theorem d_Ft_tell_0 : decode (zb m_Ft_tell) 0 = .ok (.aload_n 0, 1) := by decide +kernel
theorem d_Ft_tell_1 : decode (zb m_Ft_tell) 1 = .ok (.invokevirtual 58, 3) := by decide +kernel
theorem d_Ft_tell_4 : decode (zb m_Ft_tell) 4 = .ok (.istore_n 2, 1) := by decide +kernel
theorem d_Ft_tell_5 : decode (zb m_Ft_tell) 5 = .ok (.iconst 0, 1) := by decide +kernel
theorem d_Ft_tell_6 : decode (zb m_Ft_tell) 6 = .ok (.istore_n 3, 1) := by decide +kernel
theorem d_Ft_tell_7 : decode (zb m_Ft_tell) 7 = .ok (.iconst 0, 1) := by decide +kernel
theorem d_Ft_tell_8 : decode (zb m_Ft_tell) 8 = .ok (.istore 4, 2) := by decide +kernel
theorem d_Ft_tell_10 : decode (zb m_Ft_tell) 10 = .ok (.iload 4, 2) := by decide +kernel
theorem d_Ft_tell_12 : decode (zb m_Ft_tell) 12 = .ok (.iconst 5, 1) := by decide +kernel
theorem d_Ft_tell_13 : decode (zb m_Ft_tell) 13 = .ok (.if_icmp .ge 46, 3) := by decide +kernel
theorem d_Ft_tell_16 : decode (zb m_Ft_tell) 16 = .ok (.iload_n 3, 1) := by decide +kernel
theorem d_Ft_tell_17 : decode (zb m_Ft_tell) 17 = .ok (.iload_n 2, 1) := by decide +kernel
theorem d_Ft_tell_18 : decode (zb m_Ft_tell) 18 = .ok (.if_icmp .ge 41, 3) := by decide +kernel
theorem d_Ft_tell_21 : decode (zb m_Ft_tell) 21 = .ok (.aload_n 0, 1) := by decide +kernel
theorem d_Ft_tell_22 : decode (zb m_Ft_tell) 22 = .ok (.iload_n 3, 1) := by decide +kernel
theorem d_Ft_tell_23 : decode (zb m_Ft_tell) 23 = .ok (.invokevirtual 92, 3) := by decide +kernel
theorem d_Ft_tell_26 : decode (zb m_Ft_tell) 26 = .ok (.aload_n 0, 1) := by decide +kernel
theorem d_Ft_tell_27 : decode (zb m_Ft_tell) 27 = .ok (.iload_n 3, 1) := by decide +kernel
theorem d_Ft_tell_28 : decode (zb m_Ft_tell) 28 = .ok (.aload_n 1, 1) := by decide +kernel
theorem d_Ft_tell_29 : decode (zb m_Ft_tell) 29 = .ok (.invokevirtual 95, 3) := by decide +kernel
theorem d_Ft_tell_32 : decode (zb m_Ft_tell) 32 = .ok (.istore 5, 2) := by decide +kernel
theorem d_Ft_tell_34 : decode (zb m_Ft_tell) 34 = .ok (.iload 5, 2) := by decide +kernel
theorem d_Ft_tell_36 : decode (zb m_Ft_tell) 36 = .ok (.bipush (-6), 2) := by decide +kernel
theorem d_Ft_tell_38 : decode (zb m_Ft_tell) 38 = .ok (.if_icmp .eq 8, 3) := by decide +kernel
theorem d_Ft_tell_41 : decode (zb m_Ft_tell) 41 = .ok (.iload 5, 2) := by decide +kernel
theorem d_Ft_tell_43 : decode (zb m_Ft_tell) 43 = .ok (.goto 9, 3) := by decide +kernel
theorem d_Ft_tell_46 : decode (zb m_Ft_tell) 46 = .ok (.aload_n 0, 1) := by decide +kernel
theorem d_Ft_tell_47 : decode (zb m_Ft_tell) 47 = .ok (.iload_n 3, 1) := by decide +kernel
theorem d_Ft_tell_48 : decode (zb m_Ft_tell) 48 = .ok (.aload_n 1, 1) := by decide +kernel
theorem d_Ft_tell_49 : decode (zb m_Ft_tell) 49 = .ok (.invokevirtual 99, 3) := by decide +kernel
theorem d_Ft_tell_52 : decode (zb m_Ft_tell) 52 = .ok (.istore_n 3, 1) := by decide +kernel
theorem d_Ft_tell_53 : decode (zb m_Ft_tell) 53 = .ok (.iinc 4 1, 3) := by decide +kernel
theorem d_Ft_tell_56 : decode (zb m_Ft_tell) 56 = .ok (.goto (-46), 3) := by decide +kernel
theorem d_Ft_tell_59 : decode (zb m_Ft_tell) 59 = .ok (.return_, 1) := by decide +kernel
theorem d_Ft_tellCut_0 : decode (zb m_Ft_tellCut) 0 = .ok (.iconst 0, 1) := by decide +kernel
theorem d_Ft_tellCut_1 : decode (zb m_Ft_tellCut) 1 = .ok (.istore_n 3, 1) := by decide +kernel
theorem d_Ft_tellCut_2 : decode (zb m_Ft_tellCut) 2 = .ok (.iload_n 3, 1) := by decide +kernel
theorem d_Ft_tellCut_3 : decode (zb m_Ft_tellCut) 3 = .ok (.bipush 62, 2) := by decide +kernel
theorem d_Ft_tellCut_5 : decode (zb m_Ft_tellCut) 5 = .ok (.if_icmp .ge 102, 3) := by decide +kernel
theorem d_Ft_tellCut_8 : decode (zb m_Ft_tellCut) 8 = .ok (.aload_n 0, 1) := by decide +kernel
theorem d_Ft_tellCut_9 : decode (zb m_Ft_tellCut) 9 = .ok (.iload_n 3, 1) := by decide +kernel
theorem d_Ft_tellCut_10 : decode (zb m_Ft_tellCut) 10 = .ok (.invokevirtual 102, 3) := by decide +kernel
theorem d_Ft_tellCut_13 : decode (zb m_Ft_tellCut) 13 = .ok (.ifCond .eq 8, 3) := by decide +kernel
theorem d_Ft_tellCut_16 : decode (zb m_Ft_tellCut) 16 = .ok (.bipush 62, 2) := by decide +kernel
theorem d_Ft_tellCut_18 : decode (zb m_Ft_tellCut) 18 = .ok (.goto 4, 3) := by decide +kernel
theorem d_Ft_tellCut_21 : decode (zb m_Ft_tellCut) 21 = .ok (.iconst 0, 1) := by decide +kernel
theorem d_Ft_tellCut_22 : decode (zb m_Ft_tellCut) 22 = .ok (.istore 4, 2) := by decide +kernel
theorem d_Ft_tellCut_24 : decode (zb m_Ft_tellCut) 24 = .ok (.iconst 0, 1) := by decide +kernel
theorem d_Ft_tellCut_25 : decode (zb m_Ft_tellCut) 25 = .ok (.istore 5, 2) := by decide +kernel
theorem d_Ft_tellCut_27 : decode (zb m_Ft_tellCut) 27 = .ok (.iload 5, 2) := by decide +kernel
theorem d_Ft_tellCut_29 : decode (zb m_Ft_tellCut) 29 = .ok (.iload 4, 2) := by decide +kernel
theorem d_Ft_tellCut_31 : decode (zb m_Ft_tellCut) 31 = .ok (.if_icmp .ge 70, 3) := by decide +kernel
theorem d_Ft_tellCut_34 : decode (zb m_Ft_tellCut) 34 = .ok (.aload_n 0, 1) := by decide +kernel
theorem d_Ft_tellCut_35 : decode (zb m_Ft_tellCut) 35 = .ok (.iload_n 1, 1) := by decide +kernel
theorem d_Ft_tellCut_36 : decode (zb m_Ft_tellCut) 36 = .ok (.iload_n 3, 1) := by decide +kernel
theorem d_Ft_tellCut_37 : decode (zb m_Ft_tellCut) 37 = .ok (.iload 5, 2) := by decide +kernel
theorem d_Ft_tellCut_39 : decode (zb m_Ft_tellCut) 39 = .ok (.invokevirtual 106, 3) := by decide +kernel
theorem d_Ft_tellCut_42 : decode (zb m_Ft_tellCut) 42 = .ok (.istore 6, 2) := by decide +kernel
theorem d_Ft_tellCut_44 : decode (zb m_Ft_tellCut) 44 = .ok (.iload_n 3, 1) := by decide +kernel
theorem d_Ft_tellCut_45 : decode (zb m_Ft_tellCut) 45 = .ok (.invokestatic 110, 3) := by decide +kernel
theorem d_Ft_tellCut_48 : decode (zb m_Ft_tellCut) 48 = .ok (.iload 5, 2) := by decide +kernel
theorem d_Ft_tellCut_50 : decode (zb m_Ft_tellCut) 50 = .ok (.invokestatic 110, 3) := by decide +kernel
theorem d_Ft_tellCut_53 : decode (zb m_Ft_tellCut) 53 = .ok (.invokestatic 111, 3) := by decide +kernel
theorem d_Ft_tellCut_56 : decode (zb m_Ft_tellCut) 56 = .ok (.istore 7, 2) := by decide +kernel
theorem d_Ft_tellCut_58 : decode (zb m_Ft_tellCut) 58 = .ok (.iload 6, 2) := by decide +kernel
theorem d_Ft_tellCut_60 : decode (zb m_Ft_tellCut) 60 = .ok (.bipush (-6), 2) := by decide +kernel
theorem d_Ft_tellCut_62 : decode (zb m_Ft_tellCut) 62 = .ok (.if_icmp .eq 33, 3) := by decide +kernel
theorem d_Ft_tellCut_65 : decode (zb m_Ft_tellCut) 65 = .ok (.iload 7, 2) := by decide +kernel
theorem d_Ft_tellCut_67 : decode (zb m_Ft_tellCut) 67 = .ok (.aload_n 0, 1) := by decide +kernel
theorem d_Ft_tellCut_68 : decode (zb m_Ft_tellCut) 68 = .ok (.iload 6, 2) := by decide +kernel
theorem d_Ft_tellCut_70 : decode (zb m_Ft_tellCut) 70 = .ok (.invokevirtual 83, 3) := by decide +kernel
theorem d_Ft_tellCut_73 : decode (zb m_Ft_tellCut) 73 = .ok (.iadd, 1) := by decide +kernel
theorem d_Ft_tellCut_74 : decode (zb m_Ft_tellCut) 74 = .ok (.aload_n 0, 1) := by decide +kernel
theorem d_Ft_tellCut_75 : decode (zb m_Ft_tellCut) 75 = .ok (.iload_n 1, 1) := by decide +kernel
theorem d_Ft_tellCut_76 : decode (zb m_Ft_tellCut) 76 = .ok (.invokevirtual 83, 3) := by decide +kernel
theorem d_Ft_tellCut_79 : decode (zb m_Ft_tellCut) 79 = .ok (.if_icmp .ne 16, 3) := by decide +kernel
theorem d_Ft_tellCut_82 : decode (zb m_Ft_tellCut) 82 = .ok (.aload_n 2, 1) := by decide +kernel
theorem d_Ft_tellCut_83 : decode (zb m_Ft_tellCut) 83 = .ok (.invokevirtual 116, 3) := by decide +kernel
theorem d_Ft_tellCut_86 : decode (zb m_Ft_tellCut) 86 = .ok (.iload_n 3, 1) := by decide +kernel
theorem d_Ft_tellCut_87 : decode (zb m_Ft_tellCut) 87 = .ok (.iload 5, 2) := by decide +kernel
theorem d_Ft_tellCut_89 : decode (zb m_Ft_tellCut) 89 = .ok (.invokevirtual 122, 3) := by decide +kernel
theorem d_Ft_tellCut_92 : decode (zb m_Ft_tellCut) 92 = .ok (.iload 6, 2) := by decide +kernel
theorem d_Ft_tellCut_94 : decode (zb m_Ft_tellCut) 94 = .ok (.ireturn, 1) := by decide +kernel
theorem d_Ft_tellCut_95 : decode (zb m_Ft_tellCut) 95 = .ok (.iinc 5 1, 3) := by decide +kernel
theorem d_Ft_tellCut_98 : decode (zb m_Ft_tellCut) 98 = .ok (.goto (-71), 3) := by decide +kernel
theorem d_Ft_tellCut_101 : decode (zb m_Ft_tellCut) 101 = .ok (.iinc 3 1, 3) := by decide +kernel
theorem d_Ft_tellCut_104 : decode (zb m_Ft_tellCut) 104 = .ok (.goto (-102), 3) := by decide +kernel
theorem d_Ft_tellCut_107 : decode (zb m_Ft_tellCut) 107 = .ok (.bipush (-6), 2) := by decide +kernel
theorem d_Ft_tellCut_109 : decode (zb m_Ft_tellCut) 109 = .ok (.ireturn, 1) := by decide +kernel
theorem d_Ft_tellText_0 : decode (zb m_Ft_tellText) 0 = .ok (.aload_n 0, 1) := by decide +kernel
theorem d_Ft_tellText_1 : decode (zb m_Ft_tellText) 1 = .ok (.invokevirtual 126, 3) := by decide +kernel
theorem d_Ft_tellText_4 : decode (zb m_Ft_tellText) 4 = .ok (.istore_n 3, 1) := by decide +kernel
theorem d_Ft_tellText_5 : decode (zb m_Ft_tellText) 5 = .ok (.iconst 1, 1) := by decide +kernel
theorem d_Ft_tellText_6 : decode (zb m_Ft_tellText) 6 = .ok (.istore 4, 2) := by decide +kernel
theorem d_Ft_tellText_8 : decode (zb m_Ft_tellText) 8 = .ok (.iload 4, 2) := by decide +kernel
theorem d_Ft_tellText_10 : decode (zb m_Ft_tellText) 10 = .ok (.iload_n 3, 1) := by decide +kernel
theorem d_Ft_tellText_11 : decode (zb m_Ft_tellText) 11 = .ok (.if_icmp .gt 72, 3) := by decide +kernel
theorem d_Ft_tellText_14 : decode (zb m_Ft_tellText) 14 = .ok (.aload_n 0, 1) := by decide +kernel
theorem d_Ft_tellText_15 : decode (zb m_Ft_tellText) 15 = .ok (.iload_n 1, 1) := by decide +kernel
theorem d_Ft_tellText_16 : decode (zb m_Ft_tellText) 16 = .ok (.iload 4, 2) := by decide +kernel
theorem d_Ft_tellText_18 : decode (zb m_Ft_tellText) 18 = .ok (.invokevirtual 129, 3) := by decide +kernel
theorem d_Ft_tellText_21 : decode (zb m_Ft_tellText) 21 = .ok (.istore 5, 2) := by decide +kernel
theorem d_Ft_tellText_23 : decode (zb m_Ft_tellText) 23 = .ok (.iload 4, 2) := by decide +kernel
theorem d_Ft_tellText_25 : decode (zb m_Ft_tellText) 25 = .ok (.invokestatic 132, 3) := by decide +kernel
theorem d_Ft_tellText_28 : decode (zb m_Ft_tellText) 28 = .ok (.aload_n 0, 1) := by decide +kernel
theorem d_Ft_tellText_29 : decode (zb m_Ft_tellText) 29 = .ok (.iload 5, 2) := by decide +kernel
theorem d_Ft_tellText_31 : decode (zb m_Ft_tellText) 31 = .ok (.invokevirtual 83, 3) := by decide +kernel
theorem d_Ft_tellText_34 : decode (zb m_Ft_tellText) 34 = .ok (.iadd, 1) := by decide +kernel
theorem d_Ft_tellText_35 : decode (zb m_Ft_tellText) 35 = .ok (.aload_n 0, 1) := by decide +kernel
theorem d_Ft_tellText_36 : decode (zb m_Ft_tellText) 36 = .ok (.iload_n 1, 1) := by decide +kernel
theorem d_Ft_tellText_37 : decode (zb m_Ft_tellText) 37 = .ok (.invokevirtual 83, 3) := by decide +kernel
theorem d_Ft_tellText_40 : decode (zb m_Ft_tellText) 40 = .ok (.if_icmp .ne 37, 3) := by decide +kernel
theorem d_Ft_tellText_43 : decode (zb m_Ft_tellText) 43 = .ok (.aload_n 2, 1) := by decide +kernel
theorem d_Ft_tellText_44 : decode (zb m_Ft_tellText) 44 = .ok (.invokevirtual 116, 3) := by decide +kernel
theorem d_Ft_tellText_47 : decode (zb m_Ft_tellText) 47 = .ok (.aload_n 0, 1) := by decide +kernel
theorem d_Ft_tellText_48 : decode (zb m_Ft_tellText) 48 = .ok (.getfield 13, 3) := by decide +kernel
theorem d_Ft_tellText_51 : decode (zb m_Ft_tellText) 51 = .ok (.iconst 0, 1) := by decide +kernel
theorem d_Ft_tellText_52 : decode (zb m_Ft_tellText) 52 = .ok (.aaload, 1) := by decide +kernel
theorem d_Ft_tellText_53 : decode (zb m_Ft_tellText) 53 = .ok (.invokevirtual 135, 3) := by decide +kernel
theorem d_Ft_tellText_56 : decode (zb m_Ft_tellText) 56 = .ok (.aload_n 0, 1) := by decide +kernel
theorem d_Ft_tellText_57 : decode (zb m_Ft_tellText) 57 = .ok (.getfield 17, 3) := by decide +kernel
theorem d_Ft_tellText_60 : decode (zb m_Ft_tellText) 60 = .ok (.iconst 0, 1) := by decide +kernel
theorem d_Ft_tellText_61 : decode (zb m_Ft_tellText) 61 = .ok (.iaload, 1) := by decide +kernel
theorem d_Ft_tellText_62 : decode (zb m_Ft_tellText) 62 = .ok (.aload_n 0, 1) := by decide +kernel
theorem d_Ft_tellText_63 : decode (zb m_Ft_tellText) 63 = .ok (.getfield 17, 3) := by decide +kernel
theorem d_Ft_tellText_66 : decode (zb m_Ft_tellText) 66 = .ok (.iconst 0, 1) := by decide +kernel
theorem d_Ft_tellText_67 : decode (zb m_Ft_tellText) 67 = .ok (.iaload, 1) := by decide +kernel
theorem d_Ft_tellText_68 : decode (zb m_Ft_tellText) 68 = .ok (.iload 4, 2) := by decide +kernel
theorem d_Ft_tellText_70 : decode (zb m_Ft_tellText) 70 = .ok (.iadd, 1) := by decide +kernel
theorem d_Ft_tellText_71 : decode (zb m_Ft_tellText) 71 = .ok (.invokevirtual 139, 3) := by decide +kernel
theorem d_Ft_tellText_74 : decode (zb m_Ft_tellText) 74 = .ok (.iload 5, 2) := by decide +kernel
theorem d_Ft_tellText_76 : decode (zb m_Ft_tellText) 76 = .ok (.ireturn, 1) := by decide +kernel
theorem d_Ft_tellText_77 : decode (zb m_Ft_tellText) 77 = .ok (.iinc 4 1, 3) := by decide +kernel
theorem d_Ft_tellText_80 : decode (zb m_Ft_tellText) 80 = .ok (.goto (-72), 3) := by decide +kernel
theorem d_Ft_tellText_83 : decode (zb m_Ft_tellText) 83 = .ok (.aload_n 0, 1) := by decide +kernel
theorem d_Ft_tellText_84 : decode (zb m_Ft_tellText) 84 = .ok (.invokevirtual 58, 3) := by decide +kernel
theorem d_Ft_tellText_87 : decode (zb m_Ft_tellText) 87 = .ok (.ireturn, 1) := by decide +kernel
theorem d_Ft_listMoves_0 : decode (zb m_Ft_listMoves) 0 = .ok (.aload_n 0, 1) := by decide +kernel
theorem d_Ft_listMoves_1 : decode (zb m_Ft_listMoves) 1 = .ok (.getfield 35, 3) := by decide +kernel
theorem d_Ft_listMoves_4 : decode (zb m_Ft_listMoves) 4 = .ok (.invokevirtual 143, 3) := by decide +kernel
theorem d_Ft_listMoves_7 : decode (zb m_Ft_listMoves) 7 = .ok (.aload_n 0, 1) := by decide +kernel
theorem d_Ft_listMoves_8 : decode (zb m_Ft_listMoves) 8 = .ok (.iload_n 1, 1) := by decide +kernel
theorem d_Ft_listMoves_9 : decode (zb m_Ft_listMoves) 9 = .ok (.invokevirtual 92, 3) := by decide +kernel
theorem d_Ft_listMoves_12 : decode (zb m_Ft_listMoves) 12 = .ok (.iconst 0, 1) := by decide +kernel
theorem d_Ft_listMoves_13 : decode (zb m_Ft_listMoves) 13 = .ok (.istore_n 2, 1) := by decide +kernel
theorem d_Ft_listMoves_14 : decode (zb m_Ft_listMoves) 14 = .ok (.iload_n 2, 1) := by decide +kernel
theorem d_Ft_listMoves_15 : decode (zb m_Ft_listMoves) 15 = .ok (.aload_n 0, 1) := by decide +kernel
theorem d_Ft_listMoves_16 : decode (zb m_Ft_listMoves) 16 = .ok (.getfield 146, 3) := by decide +kernel
theorem d_Ft_listMoves_19 : decode (zb m_Ft_listMoves) 19 = .ok (.if_icmp .ge 28, 3) := by decide +kernel
theorem d_Ft_listMoves_22 : decode (zb m_Ft_listMoves) 22 = .ok (.aload_n 0, 1) := by decide +kernel
theorem d_Ft_listMoves_23 : decode (zb m_Ft_listMoves) 23 = .ok (.aload_n 0, 1) := by decide +kernel
theorem d_Ft_listMoves_24 : decode (zb m_Ft_listMoves) 24 = .ok (.getfield 23, 3) := by decide +kernel
theorem d_Ft_listMoves_27 : decode (zb m_Ft_listMoves) 27 = .ok (.iload_n 2, 1) := by decide +kernel
theorem d_Ft_listMoves_28 : decode (zb m_Ft_listMoves) 28 = .ok (.iaload, 1) := by decide +kernel
theorem d_Ft_listMoves_29 : decode (zb m_Ft_listMoves) 29 = .ok (.invokevirtual 102, 3) := by decide +kernel
theorem d_Ft_listMoves_32 : decode (zb m_Ft_listMoves) 32 = .ok (.ifCond .eq 9, 3) := by decide +kernel
theorem d_Ft_listMoves_35 : decode (zb m_Ft_listMoves) 35 = .ok (.aload_n 0, 1) := by decide +kernel
theorem d_Ft_listMoves_36 : decode (zb m_Ft_listMoves) 36 = .ok (.iload_n 1, 1) := by decide +kernel
theorem d_Ft_listMoves_37 : decode (zb m_Ft_listMoves) 37 = .ok (.iload_n 2, 1) := by decide +kernel
theorem d_Ft_listMoves_38 : decode (zb m_Ft_listMoves) 38 = .ok (.invokevirtual 149, 3) := by decide +kernel
theorem d_Ft_listMoves_41 : decode (zb m_Ft_listMoves) 41 = .ok (.iinc 2 1, 3) := by decide +kernel
theorem d_Ft_listMoves_44 : decode (zb m_Ft_listMoves) 44 = .ok (.goto (-30), 3) := by decide +kernel
theorem d_Ft_listMoves_47 : decode (zb m_Ft_listMoves) 47 = .ok (.aload_n 0, 1) := by decide +kernel
theorem d_Ft_listMoves_48 : decode (zb m_Ft_listMoves) 48 = .ok (.invokevirtual 126, 3) := by decide +kernel
theorem d_Ft_listMoves_51 : decode (zb m_Ft_listMoves) 51 = .ok (.istore_n 2, 1) := by decide +kernel
theorem d_Ft_listMoves_52 : decode (zb m_Ft_listMoves) 52 = .ok (.iconst 1, 1) := by decide +kernel
theorem d_Ft_listMoves_53 : decode (zb m_Ft_listMoves) 53 = .ok (.istore_n 3, 1) := by decide +kernel
theorem d_Ft_listMoves_54 : decode (zb m_Ft_listMoves) 54 = .ok (.iload_n 3, 1) := by decide +kernel
theorem d_Ft_listMoves_55 : decode (zb m_Ft_listMoves) 55 = .ok (.iload_n 2, 1) := by decide +kernel
theorem d_Ft_listMoves_56 : decode (zb m_Ft_listMoves) 56 = .ok (.if_icmp .gt 27, 3) := by decide +kernel
theorem d_Ft_listMoves_59 : decode (zb m_Ft_listMoves) 59 = .ok (.aload_n 0, 1) := by decide +kernel
theorem d_Ft_listMoves_60 : decode (zb m_Ft_listMoves) 60 = .ok (.getfield 35, 3) := by decide +kernel
theorem d_Ft_listMoves_63 : decode (zb m_Ft_listMoves) 63 = .ok (.aload_n 0, 1) := by decide +kernel
theorem d_Ft_listMoves_64 : decode (zb m_Ft_listMoves) 64 = .ok (.iload_n 1, 1) := by decide +kernel
theorem d_Ft_listMoves_65 : decode (zb m_Ft_listMoves) 65 = .ok (.iload_n 3, 1) := by decide +kernel
theorem d_Ft_listMoves_66 : decode (zb m_Ft_listMoves) 66 = .ok (.invokevirtual 129, 3) := by decide +kernel
theorem d_Ft_listMoves_69 : decode (zb m_Ft_listMoves) 69 = .ok (.iconst 1, 1) := by decide +kernel
theorem d_Ft_listMoves_70 : decode (zb m_Ft_listMoves) 70 = .ok (.iload_n 3, 1) := by decide +kernel
theorem d_Ft_listMoves_71 : decode (zb m_Ft_listMoves) 71 = .ok (.invokestatic 132, 3) := by decide +kernel
theorem d_Ft_listMoves_74 : decode (zb m_Ft_listMoves) 74 = .ok (.invokevirtual 152, 3) := by decide +kernel
theorem d_Ft_listMoves_77 : decode (zb m_Ft_listMoves) 77 = .ok (.iinc 3 1, 3) := by decide +kernel
theorem d_Ft_listMoves_80 : decode (zb m_Ft_listMoves) 80 = .ok (.goto (-26), 3) := by decide +kernel
theorem d_Ft_listMoves_83 : decode (zb m_Ft_listMoves) 83 = .ok (.return_, 1) := by decide +kernel
theorem d_Ft_listCuts_0 : decode (zb m_Ft_listCuts) 0 = .ok (.iconst 0, 1) := by decide +kernel
theorem d_Ft_listCuts_1 : decode (zb m_Ft_listCuts) 1 = .ok (.istore_n 3, 1) := by decide +kernel
theorem d_Ft_listCuts_2 : decode (zb m_Ft_listCuts) 2 = .ok (.iload_n 3, 1) := by decide +kernel
theorem d_Ft_listCuts_3 : decode (zb m_Ft_listCuts) 3 = .ok (.aload_n 0, 1) := by decide +kernel
theorem d_Ft_listCuts_4 : decode (zb m_Ft_listCuts) 4 = .ok (.getfield 146, 3) := by decide +kernel
theorem d_Ft_listCuts_7 : decode (zb m_Ft_listCuts) 7 = .ok (.if_icmp .ge 76, 3) := by decide +kernel
theorem d_Ft_listCuts_10 : decode (zb m_Ft_listCuts) 10 = .ok (.aload_n 0, 1) := by decide +kernel
theorem d_Ft_listCuts_11 : decode (zb m_Ft_listCuts) 11 = .ok (.iload_n 1, 1) := by decide +kernel
theorem d_Ft_listCuts_12 : decode (zb m_Ft_listCuts) 12 = .ok (.aload_n 0, 1) := by decide +kernel
theorem d_Ft_listCuts_13 : decode (zb m_Ft_listCuts) 13 = .ok (.getfield 23, 3) := by decide +kernel
theorem d_Ft_listCuts_16 : decode (zb m_Ft_listCuts) 16 = .ok (.iload_n 2, 1) := by decide +kernel
theorem d_Ft_listCuts_17 : decode (zb m_Ft_listCuts) 17 = .ok (.iaload, 1) := by decide +kernel
theorem d_Ft_listCuts_18 : decode (zb m_Ft_listCuts) 18 = .ok (.aload_n 0, 1) := by decide +kernel
theorem d_Ft_listCuts_19 : decode (zb m_Ft_listCuts) 19 = .ok (.getfield 23, 3) := by decide +kernel
theorem d_Ft_listCuts_22 : decode (zb m_Ft_listCuts) 22 = .ok (.iload_n 3, 1) := by decide +kernel
theorem d_Ft_listCuts_23 : decode (zb m_Ft_listCuts) 23 = .ok (.iaload, 1) := by decide +kernel
theorem d_Ft_listCuts_24 : decode (zb m_Ft_listCuts) 24 = .ok (.invokevirtual 106, 3) := by decide +kernel
theorem d_Ft_listCuts_27 : decode (zb m_Ft_listCuts) 27 = .ok (.istore 4, 2) := by decide +kernel
theorem d_Ft_listCuts_29 : decode (zb m_Ft_listCuts) 29 = .ok (.iload 4, 2) := by decide +kernel
theorem d_Ft_listCuts_31 : decode (zb m_Ft_listCuts) 31 = .ok (.bipush (-6), 2) := by decide +kernel
theorem d_Ft_listCuts_33 : decode (zb m_Ft_listCuts) 33 = .ok (.if_icmp .eq 44, 3) := by decide +kernel
theorem d_Ft_listCuts_36 : decode (zb m_Ft_listCuts) 36 = .ok (.aload_n 0, 1) := by decide +kernel
theorem d_Ft_listCuts_37 : decode (zb m_Ft_listCuts) 37 = .ok (.getfield 29, 3) := by decide +kernel
theorem d_Ft_listCuts_40 : decode (zb m_Ft_listCuts) 40 = .ok (.iload_n 2, 1) := by decide +kernel
theorem d_Ft_listCuts_41 : decode (zb m_Ft_listCuts) 41 = .ok (.iaload, 1) := by decide +kernel
theorem d_Ft_listCuts_42 : decode (zb m_Ft_listCuts) 42 = .ok (.aload_n 0, 1) := by decide +kernel
theorem d_Ft_listCuts_43 : decode (zb m_Ft_listCuts) 43 = .ok (.getfield 29, 3) := by decide +kernel
theorem d_Ft_listCuts_46 : decode (zb m_Ft_listCuts) 46 = .ok (.iload_n 3, 1) := by decide +kernel
theorem d_Ft_listCuts_47 : decode (zb m_Ft_listCuts) 47 = .ok (.iaload, 1) := by decide +kernel
theorem d_Ft_listCuts_48 : decode (zb m_Ft_listCuts) 48 = .ok (.invokestatic 111, 3) := by decide +kernel
theorem d_Ft_listCuts_51 : decode (zb m_Ft_listCuts) 51 = .ok (.istore 5, 2) := by decide +kernel
theorem d_Ft_listCuts_53 : decode (zb m_Ft_listCuts) 53 = .ok (.aload_n 0, 1) := by decide +kernel
theorem d_Ft_listCuts_54 : decode (zb m_Ft_listCuts) 54 = .ok (.getfield 35, 3) := by decide +kernel
theorem d_Ft_listCuts_57 : decode (zb m_Ft_listCuts) 57 = .ok (.iload 4, 2) := by decide +kernel
theorem d_Ft_listCuts_59 : decode (zb m_Ft_listCuts) 59 = .ok (.aload_n 0, 1) := by decide +kernel
theorem d_Ft_listCuts_60 : decode (zb m_Ft_listCuts) 60 = .ok (.getfield 26, 3) := by decide +kernel
theorem d_Ft_listCuts_63 : decode (zb m_Ft_listCuts) 63 = .ok (.iload_n 2, 1) := by decide +kernel
theorem d_Ft_listCuts_64 : decode (zb m_Ft_listCuts) 64 = .ok (.iaload, 1) := by decide +kernel
theorem d_Ft_listCuts_65 : decode (zb m_Ft_listCuts) 65 = .ok (.aload_n 0, 1) := by decide +kernel
theorem d_Ft_listCuts_66 : decode (zb m_Ft_listCuts) 66 = .ok (.getfield 26, 3) := by decide +kernel
theorem d_Ft_listCuts_69 : decode (zb m_Ft_listCuts) 69 = .ok (.iload_n 3, 1) := by decide +kernel
theorem d_Ft_listCuts_70 : decode (zb m_Ft_listCuts) 70 = .ok (.iaload, 1) := by decide +kernel
theorem d_Ft_listCuts_71 : decode (zb m_Ft_listCuts) 71 = .ok (.imul, 1) := by decide +kernel
theorem d_Ft_listCuts_72 : decode (zb m_Ft_listCuts) 72 = .ok (.iload 5, 2) := by decide +kernel
theorem d_Ft_listCuts_74 : decode (zb m_Ft_listCuts) 74 = .ok (.invokevirtual 152, 3) := by decide +kernel
theorem d_Ft_listCuts_77 : decode (zb m_Ft_listCuts) 77 = .ok (.iinc 3 1, 3) := by decide +kernel
theorem d_Ft_listCuts_80 : decode (zb m_Ft_listCuts) 80 = .ok (.goto (-78), 3) := by decide +kernel
theorem d_Ft_listCuts_83 : decode (zb m_Ft_listCuts) 83 = .ok (.return_, 1) := by decide +kernel
theorem d_Ft_groupMarks_0 : decode (zb m_Ft_groupMarks) 0 = .ok (.aload_n 0, 1) := by decide +kernel
theorem d_Ft_groupMarks_1 : decode (zb m_Ft_groupMarks) 1 = .ok (.iconst 0, 1) := by decide +kernel
theorem d_Ft_groupMarks_2 : decode (zb m_Ft_groupMarks) 2 = .ok (.putfield 146, 3) := by decide +kernel
theorem d_Ft_groupMarks_5 : decode (zb m_Ft_groupMarks) 5 = .ok (.iconst 0, 1) := by decide +kernel
theorem d_Ft_groupMarks_6 : decode (zb m_Ft_groupMarks) 6 = .ok (.istore_n 1, 1) := by decide +kernel
theorem d_Ft_groupMarks_7 : decode (zb m_Ft_groupMarks) 7 = .ok (.iload_n 1, 1) := by decide +kernel
theorem d_Ft_groupMarks_8 : decode (zb m_Ft_groupMarks) 8 = .ok (.bipush 62, 2) := by decide +kernel
theorem d_Ft_groupMarks_10 : decode (zb m_Ft_groupMarks) 10 = .ok (.if_icmp .ge 22, 3) := by decide +kernel
theorem d_Ft_groupMarks_13 : decode (zb m_Ft_groupMarks) 13 = .ok (.aload_n 0, 1) := by decide +kernel
theorem d_Ft_groupMarks_14 : decode (zb m_Ft_groupMarks) 14 = .ok (.iload_n 1, 1) := by decide +kernel
theorem d_Ft_groupMarks_15 : decode (zb m_Ft_groupMarks) 15 = .ok (.invokevirtual 156, 3) := by decide +kernel
theorem d_Ft_groupMarks_18 : decode (zb m_Ft_groupMarks) 18 = .ok (.ifCond .eq 8, 3) := by decide +kernel
theorem d_Ft_groupMarks_21 : decode (zb m_Ft_groupMarks) 21 = .ok (.aload_n 0, 1) := by decide +kernel
theorem d_Ft_groupMarks_22 : decode (zb m_Ft_groupMarks) 22 = .ok (.iload_n 1, 1) := by decide +kernel
theorem d_Ft_groupMarks_23 : decode (zb m_Ft_groupMarks) 23 = .ok (.invokevirtual 159, 3) := by decide +kernel
theorem d_Ft_groupMarks_26 : decode (zb m_Ft_groupMarks) 26 = .ok (.iinc 1 1, 3) := by decide +kernel
theorem d_Ft_groupMarks_29 : decode (zb m_Ft_groupMarks) 29 = .ok (.goto (-22), 3) := by decide +kernel
theorem d_Ft_groupMarks_32 : decode (zb m_Ft_groupMarks) 32 = .ok (.return_, 1) := by decide +kernel
theorem d_Ft_joinGroup_0 : decode (zb m_Ft_joinGroup) 0 = .ok (.iconst 0, 1) := by decide +kernel
theorem d_Ft_joinGroup_1 : decode (zb m_Ft_joinGroup) 1 = .ok (.istore_n 2, 1) := by decide +kernel
theorem d_Ft_joinGroup_2 : decode (zb m_Ft_joinGroup) 2 = .ok (.iload_n 2, 1) := by decide +kernel
theorem d_Ft_joinGroup_3 : decode (zb m_Ft_joinGroup) 3 = .ok (.aload_n 0, 1) := by decide +kernel
theorem d_Ft_joinGroup_4 : decode (zb m_Ft_joinGroup) 4 = .ok (.getfield 146, 3) := by decide +kernel
theorem d_Ft_joinGroup_7 : decode (zb m_Ft_joinGroup) 7 = .ok (.if_icmp .ge 23, 3) := by decide +kernel
theorem d_Ft_joinGroup_10 : decode (zb m_Ft_joinGroup) 10 = .ok (.aload_n 0, 1) := by decide +kernel
theorem d_Ft_joinGroup_11 : decode (zb m_Ft_joinGroup) 11 = .ok (.aload_n 0, 1) := by decide +kernel
theorem d_Ft_joinGroup_12 : decode (zb m_Ft_joinGroup) 12 = .ok (.getfield 23, 3) := by decide +kernel
theorem d_Ft_joinGroup_15 : decode (zb m_Ft_joinGroup) 15 = .ok (.iload_n 2, 1) := by decide +kernel
theorem d_Ft_joinGroup_16 : decode (zb m_Ft_joinGroup) 16 = .ok (.iaload, 1) := by decide +kernel
theorem d_Ft_joinGroup_17 : decode (zb m_Ft_joinGroup) 17 = .ok (.iload_n 1, 1) := by decide +kernel
theorem d_Ft_joinGroup_18 : decode (zb m_Ft_joinGroup) 18 = .ok (.invokevirtual 162, 3) := by decide +kernel
theorem d_Ft_joinGroup_21 : decode (zb m_Ft_joinGroup) 21 = .ok (.ifCond .ne 9, 3) := by decide +kernel
theorem d_Ft_joinGroup_24 : decode (zb m_Ft_joinGroup) 24 = .ok (.iinc 2 1, 3) := by decide +kernel
theorem d_Ft_joinGroup_27 : decode (zb m_Ft_joinGroup) 27 = .ok (.goto (-25), 3) := by decide +kernel
theorem d_Ft_joinGroup_30 : decode (zb m_Ft_joinGroup) 30 = .ok (.iload_n 2, 1) := by decide +kernel
theorem d_Ft_joinGroup_31 : decode (zb m_Ft_joinGroup) 31 = .ok (.bipush 62, 2) := by decide +kernel
theorem d_Ft_joinGroup_33 : decode (zb m_Ft_joinGroup) 33 = .ok (.if_icmp .lt 4, 3) := by decide +kernel
theorem d_Ft_joinGroup_36 : decode (zb m_Ft_joinGroup) 36 = .ok (.return_, 1) := by decide +kernel
theorem d_Ft_joinGroup_37 : decode (zb m_Ft_joinGroup) 37 = .ok (.iload_n 2, 1) := by decide +kernel
theorem d_Ft_joinGroup_38 : decode (zb m_Ft_joinGroup) 38 = .ok (.aload_n 0, 1) := by decide +kernel
theorem d_Ft_joinGroup_39 : decode (zb m_Ft_joinGroup) 39 = .ok (.getfield 146, 3) := by decide +kernel
theorem d_Ft_joinGroup_42 : decode (zb m_Ft_joinGroup) 42 = .ok (.if_icmp .ne 37, 3) := by decide +kernel
theorem d_Ft_joinGroup_45 : decode (zb m_Ft_joinGroup) 45 = .ok (.aload_n 0, 1) := by decide +kernel
theorem d_Ft_joinGroup_46 : decode (zb m_Ft_joinGroup) 46 = .ok (.getfield 23, 3) := by decide +kernel
theorem d_Ft_joinGroup_49 : decode (zb m_Ft_joinGroup) 49 = .ok (.iload_n 2, 1) := by decide +kernel
theorem d_Ft_joinGroup_50 : decode (zb m_Ft_joinGroup) 50 = .ok (.iload_n 1, 1) := by decide +kernel
theorem d_Ft_joinGroup_51 : decode (zb m_Ft_joinGroup) 51 = .ok (.iastore, 1) := by decide +kernel
theorem d_Ft_joinGroup_52 : decode (zb m_Ft_joinGroup) 52 = .ok (.aload_n 0, 1) := by decide +kernel
theorem d_Ft_joinGroup_53 : decode (zb m_Ft_joinGroup) 53 = .ok (.getfield 26, 3) := by decide +kernel
theorem d_Ft_joinGroup_56 : decode (zb m_Ft_joinGroup) 56 = .ok (.iload_n 2, 1) := by decide +kernel
theorem d_Ft_joinGroup_57 : decode (zb m_Ft_joinGroup) 57 = .ok (.iconst 0, 1) := by decide +kernel
theorem d_Ft_joinGroup_58 : decode (zb m_Ft_joinGroup) 58 = .ok (.iastore, 1) := by decide +kernel
theorem d_Ft_joinGroup_59 : decode (zb m_Ft_joinGroup) 59 = .ok (.aload_n 0, 1) := by decide +kernel
theorem d_Ft_joinGroup_60 : decode (zb m_Ft_joinGroup) 60 = .ok (.getfield 29, 3) := by decide +kernel
theorem d_Ft_joinGroup_63 : decode (zb m_Ft_joinGroup) 63 = .ok (.iload_n 2, 1) := by decide +kernel
theorem d_Ft_joinGroup_64 : decode (zb m_Ft_joinGroup) 64 = .ok (.iload_n 1, 1) := by decide +kernel
theorem d_Ft_joinGroup_65 : decode (zb m_Ft_joinGroup) 65 = .ok (.invokestatic 110, 3) := by decide +kernel
theorem d_Ft_joinGroup_68 : decode (zb m_Ft_joinGroup) 68 = .ok (.iastore, 1) := by decide +kernel
theorem d_Ft_joinGroup_69 : decode (zb m_Ft_joinGroup) 69 = .ok (.aload_n 0, 1) := by decide +kernel
theorem d_Ft_joinGroup_70 : decode (zb m_Ft_joinGroup) 70 = .ok (.dup, 1) := by decide +kernel
theorem d_Ft_joinGroup_71 : decode (zb m_Ft_joinGroup) 71 = .ok (.getfield 146, 3) := by decide +kernel
theorem d_Ft_joinGroup_74 : decode (zb m_Ft_joinGroup) 74 = .ok (.iconst 1, 1) := by decide +kernel
theorem d_Ft_joinGroup_75 : decode (zb m_Ft_joinGroup) 75 = .ok (.iadd, 1) := by decide +kernel
theorem d_Ft_joinGroup_76 : decode (zb m_Ft_joinGroup) 76 = .ok (.putfield 146, 3) := by decide +kernel
theorem d_Ft_joinGroup_79 : decode (zb m_Ft_joinGroup) 79 = .ok (.aload_n 0, 1) := by decide +kernel
theorem d_Ft_joinGroup_80 : decode (zb m_Ft_joinGroup) 80 = .ok (.getfield 26, 3) := by decide +kernel
theorem d_Ft_joinGroup_83 : decode (zb m_Ft_joinGroup) 83 = .ok (.iload_n 2, 1) := by decide +kernel
theorem d_Ft_joinGroup_84 : decode (zb m_Ft_joinGroup) 84 = .ok (.dup2, 1) := by decide +kernel
theorem d_Ft_joinGroup_85 : decode (zb m_Ft_joinGroup) 85 = .ok (.iaload, 1) := by decide +kernel
theorem d_Ft_joinGroup_86 : decode (zb m_Ft_joinGroup) 86 = .ok (.iconst 1, 1) := by decide +kernel
theorem d_Ft_joinGroup_87 : decode (zb m_Ft_joinGroup) 87 = .ok (.iadd, 1) := by decide +kernel
theorem d_Ft_joinGroup_88 : decode (zb m_Ft_joinGroup) 88 = .ok (.iastore, 1) := by decide +kernel
theorem d_Ft_joinGroup_89 : decode (zb m_Ft_joinGroup) 89 = .ok (.aload_n 0, 1) := by decide +kernel
theorem d_Ft_joinGroup_90 : decode (zb m_Ft_joinGroup) 90 = .ok (.getfield 29, 3) := by decide +kernel
theorem d_Ft_joinGroup_93 : decode (zb m_Ft_joinGroup) 93 = .ok (.iload_n 2, 1) := by decide +kernel
theorem d_Ft_joinGroup_94 : decode (zb m_Ft_joinGroup) 94 = .ok (.aload_n 0, 1) := by decide +kernel
theorem d_Ft_joinGroup_95 : decode (zb m_Ft_joinGroup) 95 = .ok (.getfield 29, 3) := by decide +kernel
theorem d_Ft_joinGroup_98 : decode (zb m_Ft_joinGroup) 98 = .ok (.iload_n 2, 1) := by decide +kernel
theorem d_Ft_joinGroup_99 : decode (zb m_Ft_joinGroup) 99 = .ok (.iaload, 1) := by decide +kernel
theorem d_Ft_joinGroup_100 : decode (zb m_Ft_joinGroup) 100 = .ok (.iload_n 1, 1) := by decide +kernel
theorem d_Ft_joinGroup_101 : decode (zb m_Ft_joinGroup) 101 = .ok (.invokestatic 110, 3) := by decide +kernel
theorem d_Ft_joinGroup_104 : decode (zb m_Ft_joinGroup) 104 = .ok (.invokestatic 86, 3) := by decide +kernel
theorem d_Ft_joinGroup_107 : decode (zb m_Ft_joinGroup) 107 = .ok (.iastore, 1) := by decide +kernel
theorem d_Ft_joinGroup_108 : decode (zb m_Ft_joinGroup) 108 = .ok (.return_, 1) := by decide +kernel
theorem d_Ft_isToldInAll_0 : decode (zb m_Ft_isToldInAll) 0 = .ok (.iconst 0, 1) := by decide +kernel
theorem d_Ft_isToldInAll_1 : decode (zb m_Ft_isToldInAll) 1 = .ok (.istore_n 2, 1) := by decide +kernel
theorem d_Ft_isToldInAll_2 : decode (zb m_Ft_isToldInAll) 2 = .ok (.iload_n 2, 1) := by decide +kernel
theorem d_Ft_isToldInAll_3 : decode (zb m_Ft_isToldInAll) 3 = .ok (.aload_n 0, 1) := by decide +kernel
theorem d_Ft_isToldInAll_4 : decode (zb m_Ft_isToldInAll) 4 = .ok (.getfield 47, 3) := by decide +kernel
theorem d_Ft_isToldInAll_7 : decode (zb m_Ft_isToldInAll) 7 = .ok (.if_icmp .ge 26, 3) := by decide +kernel
theorem d_Ft_isToldInAll_10 : decode (zb m_Ft_isToldInAll) 10 = .ok (.aload_n 0, 1) := by decide +kernel
theorem d_Ft_isToldInAll_11 : decode (zb m_Ft_isToldInAll) 11 = .ok (.getfield 13, 3) := by decide +kernel
theorem d_Ft_isToldInAll_14 : decode (zb m_Ft_isToldInAll) 14 = .ok (.iload_n 2, 1) := by decide +kernel
theorem d_Ft_isToldInAll_15 : decode (zb m_Ft_isToldInAll) 15 = .ok (.aaload, 1) := by decide +kernel
theorem d_Ft_isToldInAll_16 : decode (zb m_Ft_isToldInAll) 16 = .ok (.iload_n 1, 1) := by decide +kernel
theorem d_Ft_isToldInAll_17 : decode (zb m_Ft_isToldInAll) 17 = .ok (.invokevirtual 166, 3) := by decide +kernel
theorem d_Ft_isToldInAll_20 : decode (zb m_Ft_isToldInAll) 20 = .ok (.bipush (-6), 2) := by decide +kernel
theorem d_Ft_isToldInAll_22 : decode (zb m_Ft_isToldInAll) 22 = .ok (.if_icmp .ne 5, 3) := by decide +kernel
theorem d_Ft_isToldInAll_25 : decode (zb m_Ft_isToldInAll) 25 = .ok (.iconst 0, 1) := by decide +kernel
theorem d_Ft_isToldInAll_26 : decode (zb m_Ft_isToldInAll) 26 = .ok (.ireturn, 1) := by decide +kernel
theorem d_Ft_isToldInAll_27 : decode (zb m_Ft_isToldInAll) 27 = .ok (.iinc 2 1, 3) := by decide +kernel
theorem d_Ft_isToldInAll_30 : decode (zb m_Ft_isToldInAll) 30 = .ok (.goto (-28), 3) := by decide +kernel
theorem d_Ft_isToldInAll_33 : decode (zb m_Ft_isToldInAll) 33 = .ok (.iconst 1, 1) := by decide +kernel
theorem d_Ft_isToldInAll_34 : decode (zb m_Ft_isToldInAll) 34 = .ok (.ireturn, 1) := by decide +kernel
theorem d_Ft_tellSame_0 : decode (zb m_Ft_tellSame) 0 = .ok (.iconst 0, 1) := by decide +kernel
theorem d_Ft_tellSame_1 : decode (zb m_Ft_tellSame) 1 = .ok (.istore_n 3, 1) := by decide +kernel
theorem d_Ft_tellSame_2 : decode (zb m_Ft_tellSame) 2 = .ok (.iload_n 3, 1) := by decide +kernel
theorem d_Ft_tellSame_3 : decode (zb m_Ft_tellSame) 3 = .ok (.aload_n 0, 1) := by decide +kernel
theorem d_Ft_tellSame_4 : decode (zb m_Ft_tellSame) 4 = .ok (.getfield 47, 3) := by decide +kernel
theorem d_Ft_tellSame_7 : decode (zb m_Ft_tellSame) 7 = .ok (.if_icmp .ge 34, 3) := by decide +kernel
theorem d_Ft_tellSame_10 : decode (zb m_Ft_tellSame) 10 = .ok (.aload_n 0, 1) := by decide +kernel
theorem d_Ft_tellSame_11 : decode (zb m_Ft_tellSame) 11 = .ok (.getfield 13, 3) := by decide +kernel
theorem d_Ft_tellSame_14 : decode (zb m_Ft_tellSame) 14 = .ok (.iload_n 3, 1) := by decide +kernel
theorem d_Ft_tellSame_15 : decode (zb m_Ft_tellSame) 15 = .ok (.aaload, 1) := by decide +kernel
theorem d_Ft_tellSame_16 : decode (zb m_Ft_tellSame) 16 = .ok (.iload_n 1, 1) := by decide +kernel
theorem d_Ft_tellSame_17 : decode (zb m_Ft_tellSame) 17 = .ok (.invokevirtual 166, 3) := by decide +kernel
theorem d_Ft_tellSame_20 : decode (zb m_Ft_tellSame) 20 = .ok (.aload_n 0, 1) := by decide +kernel
theorem d_Ft_tellSame_21 : decode (zb m_Ft_tellSame) 21 = .ok (.getfield 13, 3) := by decide +kernel
theorem d_Ft_tellSame_24 : decode (zb m_Ft_tellSame) 24 = .ok (.iload_n 3, 1) := by decide +kernel
theorem d_Ft_tellSame_25 : decode (zb m_Ft_tellSame) 25 = .ok (.aaload, 1) := by decide +kernel
theorem d_Ft_tellSame_26 : decode (zb m_Ft_tellSame) 26 = .ok (.iload_n 2, 1) := by decide +kernel
theorem d_Ft_tellSame_27 : decode (zb m_Ft_tellSame) 27 = .ok (.invokevirtual 166, 3) := by decide +kernel
theorem d_Ft_tellSame_30 : decode (zb m_Ft_tellSame) 30 = .ok (.if_icmp .eq 5, 3) := by decide +kernel
theorem d_Ft_tellSame_33 : decode (zb m_Ft_tellSame) 33 = .ok (.iconst 0, 1) := by decide +kernel
theorem d_Ft_tellSame_34 : decode (zb m_Ft_tellSame) 34 = .ok (.ireturn, 1) := by decide +kernel
theorem d_Ft_tellSame_35 : decode (zb m_Ft_tellSame) 35 = .ok (.iinc 3 1, 3) := by decide +kernel
theorem d_Ft_tellSame_38 : decode (zb m_Ft_tellSame) 38 = .ok (.goto (-36), 3) := by decide +kernel
theorem d_Ft_tellSame_41 : decode (zb m_Ft_tellSame) 41 = .ok (.iconst 1, 1) := by decide +kernel
theorem d_Ft_tellSame_42 : decode (zb m_Ft_tellSame) 42 = .ok (.ireturn, 1) := by decide +kernel
theorem d_Ft_reach_0 : decode (zb m_Ft_reach) 0 = .ok (.iload_n 1, 1) := by decide +kernel
theorem d_Ft_reach_1 : decode (zb m_Ft_reach) 1 = .ok (.istore_n 2, 1) := by decide +kernel
theorem d_Ft_reach_2 : decode (zb m_Ft_reach) 2 = .ok (.iconst 0, 1) := by decide +kernel
theorem d_Ft_reach_3 : decode (zb m_Ft_reach) 3 = .ok (.istore_n 3, 1) := by decide +kernel
theorem d_Ft_reach_4 : decode (zb m_Ft_reach) 4 = .ok (.iload_n 3, 1) := by decide +kernel
theorem d_Ft_reach_5 : decode (zb m_Ft_reach) 5 = .ok (.aload_n 0, 1) := by decide +kernel
theorem d_Ft_reach_6 : decode (zb m_Ft_reach) 6 = .ok (.getfield 47, 3) := by decide +kernel
theorem d_Ft_reach_9 : decode (zb m_Ft_reach) 9 = .ok (.if_icmp .ge 24, 3) := by decide +kernel
theorem d_Ft_reach_12 : decode (zb m_Ft_reach) 12 = .ok (.aload_n 0, 1) := by decide +kernel
theorem d_Ft_reach_13 : decode (zb m_Ft_reach) 13 = .ok (.getfield 17, 3) := by decide +kernel
theorem d_Ft_reach_16 : decode (zb m_Ft_reach) 16 = .ok (.iload_n 3, 1) := by decide +kernel
theorem d_Ft_reach_17 : decode (zb m_Ft_reach) 17 = .ok (.iload_n 2, 1) := by decide +kernel
theorem d_Ft_reach_18 : decode (zb m_Ft_reach) 18 = .ok (.bipush 6, 2) := by decide +kernel
theorem d_Ft_reach_20 : decode (zb m_Ft_reach) 20 = .ok (.irem, 1) := by decide +kernel
theorem d_Ft_reach_21 : decode (zb m_Ft_reach) 21 = .ok (.iastore, 1) := by decide +kernel
theorem d_Ft_reach_22 : decode (zb m_Ft_reach) 22 = .ok (.iload_n 2, 1) := by decide +kernel
theorem d_Ft_reach_23 : decode (zb m_Ft_reach) 23 = .ok (.bipush 6, 2) := by decide +kernel
theorem d_Ft_reach_25 : decode (zb m_Ft_reach) 25 = .ok (.idiv, 1) := by decide +kernel
theorem d_Ft_reach_26 : decode (zb m_Ft_reach) 26 = .ok (.istore_n 2, 1) := by decide +kernel
theorem d_Ft_reach_27 : decode (zb m_Ft_reach) 27 = .ok (.iinc 3 1, 3) := by decide +kernel
theorem d_Ft_reach_30 : decode (zb m_Ft_reach) 30 = .ok (.goto (-26), 3) := by decide +kernel
theorem d_Ft_reach_33 : decode (zb m_Ft_reach) 33 = .ok (.return_, 1) := by decide +kernel
theorem d_Ft_canBegin_0 : decode (zb m_Ft_canBegin) 0 = .ok (.iconst 0, 1) := by decide +kernel
theorem d_Ft_canBegin_1 : decode (zb m_Ft_canBegin) 1 = .ok (.istore_n 2, 1) := by decide +kernel
theorem d_Ft_canBegin_2 : decode (zb m_Ft_canBegin) 2 = .ok (.iload_n 2, 1) := by decide +kernel
theorem d_Ft_canBegin_3 : decode (zb m_Ft_canBegin) 3 = .ok (.aload_n 0, 1) := by decide +kernel
theorem d_Ft_canBegin_4 : decode (zb m_Ft_canBegin) 4 = .ok (.getfield 47, 3) := by decide +kernel
theorem d_Ft_canBegin_7 : decode (zb m_Ft_canBegin) 7 = .ok (.if_icmp .ge 39, 3) := by decide +kernel
theorem d_Ft_canBegin_10 : decode (zb m_Ft_canBegin) 10 = .ok (.aload_n 0, 1) := by decide +kernel
theorem d_Ft_canBegin_11 : decode (zb m_Ft_canBegin) 11 = .ok (.getfield 13, 3) := by decide +kernel
theorem d_Ft_canBegin_14 : decode (zb m_Ft_canBegin) 14 = .ok (.iload_n 2, 1) := by decide +kernel
theorem d_Ft_canBegin_15 : decode (zb m_Ft_canBegin) 15 = .ok (.aaload, 1) := by decide +kernel
theorem d_Ft_canBegin_16 : decode (zb m_Ft_canBegin) 16 = .ok (.aload_n 0, 1) := by decide +kernel
theorem d_Ft_canBegin_17 : decode (zb m_Ft_canBegin) 17 = .ok (.getfield 13, 3) := by decide +kernel
theorem d_Ft_canBegin_20 : decode (zb m_Ft_canBegin) 20 = .ok (.iload_n 2, 1) := by decide +kernel
theorem d_Ft_canBegin_21 : decode (zb m_Ft_canBegin) 21 = .ok (.aaload, 1) := by decide +kernel
theorem d_Ft_canBegin_22 : decode (zb m_Ft_canBegin) 22 = .ok (.iload_n 1, 1) := by decide +kernel
theorem d_Ft_canBegin_23 : decode (zb m_Ft_canBegin) 23 = .ok (.invokevirtual 166, 3) := by decide +kernel
theorem d_Ft_canBegin_26 : decode (zb m_Ft_canBegin) 26 = .ok (.aload_n 0, 1) := by decide +kernel
theorem d_Ft_canBegin_27 : decode (zb m_Ft_canBegin) 27 = .ok (.getfield 17, 3) := by decide +kernel
theorem d_Ft_canBegin_30 : decode (zb m_Ft_canBegin) 30 = .ok (.iload_n 2, 1) := by decide +kernel
theorem d_Ft_canBegin_31 : decode (zb m_Ft_canBegin) 31 = .ok (.iaload, 1) := by decide +kernel
theorem d_Ft_canBegin_32 : decode (zb m_Ft_canBegin) 32 = .ok (.invokevirtual 169, 3) := by decide +kernel
theorem d_Ft_canBegin_35 : decode (zb m_Ft_canBegin) 35 = .ok (.ifCond .ne 5, 3) := by decide +kernel
theorem d_Ft_canBegin_38 : decode (zb m_Ft_canBegin) 38 = .ok (.iconst 0, 1) := by decide +kernel
theorem d_Ft_canBegin_39 : decode (zb m_Ft_canBegin) 39 = .ok (.ireturn, 1) := by decide +kernel
theorem d_Ft_canBegin_40 : decode (zb m_Ft_canBegin) 40 = .ok (.iinc 2 1, 3) := by decide +kernel
theorem d_Ft_canBegin_43 : decode (zb m_Ft_canBegin) 43 = .ok (.goto (-41), 3) := by decide +kernel
theorem d_Ft_canBegin_46 : decode (zb m_Ft_canBegin) 46 = .ok (.iconst 1, 1) := by decide +kernel
theorem d_Ft_canBegin_47 : decode (zb m_Ft_canBegin) 47 = .ok (.ireturn, 1) := by decide +kernel
theorem d_Ft_cutTarget_0 : decode (zb m_Ft_cutTarget) 0 = .ok (.iload_n 1, 1) := by decide +kernel
theorem d_Ft_cutTarget_1 : decode (zb m_Ft_cutTarget) 1 = .ok (.istore 4, 2) := by decide +kernel
theorem d_Ft_cutTarget_3 : decode (zb m_Ft_cutTarget) 3 = .ok (.iconst 1, 1) := by decide +kernel
theorem d_Ft_cutTarget_4 : decode (zb m_Ft_cutTarget) 4 = .ok (.istore 5, 2) := by decide +kernel
theorem d_Ft_cutTarget_6 : decode (zb m_Ft_cutTarget) 6 = .ok (.iconst 0, 1) := by decide +kernel
theorem d_Ft_cutTarget_7 : decode (zb m_Ft_cutTarget) 7 = .ok (.istore 6, 2) := by decide +kernel
theorem d_Ft_cutTarget_9 : decode (zb m_Ft_cutTarget) 9 = .ok (.iload 6, 2) := by decide +kernel
theorem d_Ft_cutTarget_11 : decode (zb m_Ft_cutTarget) 11 = .ok (.aload_n 0, 1) := by decide +kernel
theorem d_Ft_cutTarget_12 : decode (zb m_Ft_cutTarget) 12 = .ok (.getfield 47, 3) := by decide +kernel
theorem d_Ft_cutTarget_15 : decode (zb m_Ft_cutTarget) 15 = .ok (.if_icmp .ge 55, 3) := by decide +kernel
theorem d_Ft_cutTarget_18 : decode (zb m_Ft_cutTarget) 18 = .ok (.aload_n 0, 1) := by decide +kernel
theorem d_Ft_cutTarget_19 : decode (zb m_Ft_cutTarget) 19 = .ok (.getfield 13, 3) := by decide +kernel
theorem d_Ft_cutTarget_22 : decode (zb m_Ft_cutTarget) 22 = .ok (.iload 6, 2) := by decide +kernel
theorem d_Ft_cutTarget_24 : decode (zb m_Ft_cutTarget) 24 = .ok (.aaload, 1) := by decide +kernel
theorem d_Ft_cutTarget_25 : decode (zb m_Ft_cutTarget) 25 = .ok (.iload_n 2, 1) := by decide +kernel
theorem d_Ft_cutTarget_26 : decode (zb m_Ft_cutTarget) 26 = .ok (.iload_n 3, 1) := by decide +kernel
theorem d_Ft_cutTarget_27 : decode (zb m_Ft_cutTarget) 27 = .ok (.aload_n 0, 1) := by decide +kernel
theorem d_Ft_cutTarget_28 : decode (zb m_Ft_cutTarget) 28 = .ok (.getfield 17, 3) := by decide +kernel
theorem d_Ft_cutTarget_31 : decode (zb m_Ft_cutTarget) 31 = .ok (.iload 6, 2) := by decide +kernel
theorem d_Ft_cutTarget_33 : decode (zb m_Ft_cutTarget) 33 = .ok (.iaload, 1) := by decide +kernel
theorem d_Ft_cutTarget_34 : decode (zb m_Ft_cutTarget) 34 = .ok (.invokevirtual 172, 3) := by decide +kernel
theorem d_Ft_cutTarget_37 : decode (zb m_Ft_cutTarget) 37 = .ok (.istore 7, 2) := by decide +kernel
theorem d_Ft_cutTarget_39 : decode (zb m_Ft_cutTarget) 39 = .ok (.iload 7, 2) := by decide +kernel
theorem d_Ft_cutTarget_41 : decode (zb m_Ft_cutTarget) 41 = .ok (.ifCond .ne 6, 3) := by decide +kernel
theorem d_Ft_cutTarget_44 : decode (zb m_Ft_cutTarget) 44 = .ok (.bipush (-6), 2) := by decide +kernel
theorem d_Ft_cutTarget_46 : decode (zb m_Ft_cutTarget) 46 = .ok (.ireturn, 1) := by decide +kernel
theorem d_Ft_cutTarget_47 : decode (zb m_Ft_cutTarget) 47 = .ok (.iload 4, 2) := by decide +kernel
theorem d_Ft_cutTarget_49 : decode (zb m_Ft_cutTarget) 49 = .ok (.iload 7, 2) := by decide +kernel
theorem d_Ft_cutTarget_51 : decode (zb m_Ft_cutTarget) 51 = .ok (.iload 5, 2) := by decide +kernel
theorem d_Ft_cutTarget_53 : decode (zb m_Ft_cutTarget) 53 = .ok (.imul, 1) := by decide +kernel
theorem d_Ft_cutTarget_54 : decode (zb m_Ft_cutTarget) 54 = .ok (.iadd, 1) := by decide +kernel
theorem d_Ft_cutTarget_55 : decode (zb m_Ft_cutTarget) 55 = .ok (.istore 4, 2) := by decide +kernel
theorem d_Ft_cutTarget_57 : decode (zb m_Ft_cutTarget) 57 = .ok (.iload 5, 2) := by decide +kernel
theorem d_Ft_cutTarget_59 : decode (zb m_Ft_cutTarget) 59 = .ok (.bipush 6, 2) := by decide +kernel
theorem d_Ft_cutTarget_61 : decode (zb m_Ft_cutTarget) 61 = .ok (.imul, 1) := by decide +kernel
theorem d_Ft_cutTarget_62 : decode (zb m_Ft_cutTarget) 62 = .ok (.istore 5, 2) := by decide +kernel
theorem d_Ft_cutTarget_64 : decode (zb m_Ft_cutTarget) 64 = .ok (.iinc 6 1, 3) := by decide +kernel
theorem d_Ft_cutTarget_67 : decode (zb m_Ft_cutTarget) 67 = .ok (.goto (-58), 3) := by decide +kernel
theorem d_Ft_cutTarget_70 : decode (zb m_Ft_cutTarget) 70 = .ok (.iload 4, 2) := by decide +kernel
theorem d_Ft_cutTarget_72 : decode (zb m_Ft_cutTarget) 72 = .ok (.ireturn, 1) := by decide +kernel
theorem d_Ft_textTarget_0 : decode (zb m_Ft_textTarget) 0 = .ok (.iload_n 1, 1) := by decide +kernel
theorem d_Ft_textTarget_1 : decode (zb m_Ft_textTarget) 1 = .ok (.istore_n 3, 1) := by decide +kernel
theorem d_Ft_textTarget_2 : decode (zb m_Ft_textTarget) 2 = .ok (.iconst 1, 1) := by decide +kernel
theorem d_Ft_textTarget_3 : decode (zb m_Ft_textTarget) 3 = .ok (.istore 4, 2) := by decide +kernel
theorem d_Ft_textTarget_5 : decode (zb m_Ft_textTarget) 5 = .ok (.iconst 0, 1) := by decide +kernel
theorem d_Ft_textTarget_6 : decode (zb m_Ft_textTarget) 6 = .ok (.istore 5, 2) := by decide +kernel
theorem d_Ft_textTarget_8 : decode (zb m_Ft_textTarget) 8 = .ok (.iload 5, 2) := by decide +kernel
theorem d_Ft_textTarget_10 : decode (zb m_Ft_textTarget) 10 = .ok (.aload_n 0, 1) := by decide +kernel
theorem d_Ft_textTarget_11 : decode (zb m_Ft_textTarget) 11 = .ok (.getfield 47, 3) := by decide +kernel
theorem d_Ft_textTarget_14 : decode (zb m_Ft_textTarget) 14 = .ok (.if_icmp .ge 23, 3) := by decide +kernel
theorem d_Ft_textTarget_17 : decode (zb m_Ft_textTarget) 17 = .ok (.iload_n 3, 1) := by decide +kernel
theorem d_Ft_textTarget_18 : decode (zb m_Ft_textTarget) 18 = .ok (.iload_n 2, 1) := by decide +kernel
theorem d_Ft_textTarget_19 : decode (zb m_Ft_textTarget) 19 = .ok (.iload 4, 2) := by decide +kernel
theorem d_Ft_textTarget_21 : decode (zb m_Ft_textTarget) 21 = .ok (.imul, 1) := by decide +kernel
theorem d_Ft_textTarget_22 : decode (zb m_Ft_textTarget) 22 = .ok (.iadd, 1) := by decide +kernel
theorem d_Ft_textTarget_23 : decode (zb m_Ft_textTarget) 23 = .ok (.istore_n 3, 1) := by decide +kernel
theorem d_Ft_textTarget_24 : decode (zb m_Ft_textTarget) 24 = .ok (.iload 4, 2) := by decide +kernel
theorem d_Ft_textTarget_26 : decode (zb m_Ft_textTarget) 26 = .ok (.bipush 6, 2) := by decide +kernel
theorem d_Ft_textTarget_28 : decode (zb m_Ft_textTarget) 28 = .ok (.imul, 1) := by decide +kernel
theorem d_Ft_textTarget_29 : decode (zb m_Ft_textTarget) 29 = .ok (.istore 4, 2) := by decide +kernel
theorem d_Ft_textTarget_31 : decode (zb m_Ft_textTarget) 31 = .ok (.iinc 5 1, 3) := by decide +kernel
theorem d_Ft_textTarget_34 : decode (zb m_Ft_textTarget) 34 = .ok (.goto (-26), 3) := by decide +kernel
theorem d_Ft_textTarget_37 : decode (zb m_Ft_textTarget) 37 = .ok (.iload_n 3, 1) := by decide +kernel
theorem d_Ft_textTarget_38 : decode (zb m_Ft_textTarget) 38 = .ok (.ireturn, 1) := by decide +kernel
theorem d_Ft_longestText_0 : decode (zb m_Ft_longestText) 0 = .ok (.iconst 0, 1) := by decide +kernel
theorem d_Ft_longestText_1 : decode (zb m_Ft_longestText) 1 = .ok (.istore_n 1, 1) := by decide +kernel
theorem d_Ft_longestText_2 : decode (zb m_Ft_longestText) 2 = .ok (.iload_n 1, 1) := by decide +kernel
theorem d_Ft_longestText_3 : decode (zb m_Ft_longestText) 3 = .ok (.iconst 5, 1) := by decide +kernel
theorem d_Ft_longestText_4 : decode (zb m_Ft_longestText) 4 = .ok (.if_icmp .ge 17, 3) := by decide +kernel
theorem d_Ft_longestText_7 : decode (zb m_Ft_longestText) 7 = .ok (.aload_n 0, 1) := by decide +kernel
theorem d_Ft_longestText_8 : decode (zb m_Ft_longestText) 8 = .ok (.iload_n 1, 1) := by decide +kernel
theorem d_Ft_longestText_9 : decode (zb m_Ft_longestText) 9 = .ok (.invokevirtual 175, 3) := by decide +kernel
theorem d_Ft_longestText_12 : decode (zb m_Ft_longestText) 12 = .ok (.ifCond .eq 9, 3) := by decide +kernel
theorem d_Ft_longestText_15 : decode (zb m_Ft_longestText) 15 = .ok (.iinc 1 1, 3) := by decide +kernel
theorem d_Ft_longestText_18 : decode (zb m_Ft_longestText) 18 = .ok (.goto (-16), 3) := by decide +kernel
theorem d_Ft_longestText_21 : decode (zb m_Ft_longestText) 21 = .ok (.iload_n 1, 1) := by decide +kernel
theorem d_Ft_longestText_22 : decode (zb m_Ft_longestText) 22 = .ok (.ireturn, 1) := by decide +kernel
theorem d_Ft_isNextInAll_0 : decode (zb m_Ft_isNextInAll) 0 = .ok (.aload_n 0, 1) := by decide +kernel
theorem d_Ft_isNextInAll_1 : decode (zb m_Ft_isNextInAll) 1 = .ok (.getfield 13, 3) := by decide +kernel
theorem d_Ft_isNextInAll_4 : decode (zb m_Ft_isNextInAll) 4 = .ok (.iconst 0, 1) := by decide +kernel
theorem d_Ft_isNextInAll_5 : decode (zb m_Ft_isNextInAll) 5 = .ok (.aaload, 1) := by decide +kernel
theorem d_Ft_isNextInAll_6 : decode (zb m_Ft_isNextInAll) 6 = .ok (.invokevirtual 135, 3) := by decide +kernel
theorem d_Ft_isNextInAll_9 : decode (zb m_Ft_isNextInAll) 9 = .ok (.aload_n 0, 1) := by decide +kernel
theorem d_Ft_isNextInAll_10 : decode (zb m_Ft_isNextInAll) 10 = .ok (.getfield 17, 3) := by decide +kernel
theorem d_Ft_isNextInAll_13 : decode (zb m_Ft_isNextInAll) 13 = .ok (.iconst 0, 1) := by decide +kernel
theorem d_Ft_isNextInAll_14 : decode (zb m_Ft_isNextInAll) 14 = .ok (.iaload, 1) := by decide +kernel
theorem d_Ft_isNextInAll_15 : decode (zb m_Ft_isNextInAll) 15 = .ok (.iload_n 1, 1) := by decide +kernel
theorem d_Ft_isNextInAll_16 : decode (zb m_Ft_isNextInAll) 16 = .ok (.iadd, 1) := by decide +kernel
theorem d_Ft_isNextInAll_17 : decode (zb m_Ft_isNextInAll) 17 = .ok (.invokevirtual 178, 3) := by decide +kernel
theorem d_Ft_isNextInAll_20 : decode (zb m_Ft_isNextInAll) 20 = .ok (.istore_n 2, 1) := by decide +kernel
theorem d_Ft_isNextInAll_21 : decode (zb m_Ft_isNextInAll) 21 = .ok (.iconst 0, 1) := by decide +kernel
theorem d_Ft_isNextInAll_22 : decode (zb m_Ft_isNextInAll) 22 = .ok (.istore_n 3, 1) := by decide +kernel
theorem d_Ft_isNextInAll_23 : decode (zb m_Ft_isNextInAll) 23 = .ok (.iload_n 3, 1) := by decide +kernel
theorem d_Ft_isNextInAll_24 : decode (zb m_Ft_isNextInAll) 24 = .ok (.aload_n 0, 1) := by decide +kernel
theorem d_Ft_isNextInAll_25 : decode (zb m_Ft_isNextInAll) 25 = .ok (.getfield 47, 3) := by decide +kernel
theorem d_Ft_isNextInAll_28 : decode (zb m_Ft_isNextInAll) 28 = .ok (.if_icmp .ge 35, 3) := by decide +kernel
theorem d_Ft_isNextInAll_31 : decode (zb m_Ft_isNextInAll) 31 = .ok (.aload_n 0, 1) := by decide +kernel
theorem d_Ft_isNextInAll_32 : decode (zb m_Ft_isNextInAll) 32 = .ok (.getfield 13, 3) := by decide +kernel
theorem d_Ft_isNextInAll_35 : decode (zb m_Ft_isNextInAll) 35 = .ok (.iload_n 3, 1) := by decide +kernel
theorem d_Ft_isNextInAll_36 : decode (zb m_Ft_isNextInAll) 36 = .ok (.aaload, 1) := by decide +kernel
theorem d_Ft_isNextInAll_37 : decode (zb m_Ft_isNextInAll) 37 = .ok (.invokevirtual 135, 3) := by decide +kernel
theorem d_Ft_isNextInAll_40 : decode (zb m_Ft_isNextInAll) 40 = .ok (.aload_n 0, 1) := by decide +kernel
theorem d_Ft_isNextInAll_41 : decode (zb m_Ft_isNextInAll) 41 = .ok (.getfield 17, 3) := by decide +kernel
theorem d_Ft_isNextInAll_44 : decode (zb m_Ft_isNextInAll) 44 = .ok (.iload_n 3, 1) := by decide +kernel
theorem d_Ft_isNextInAll_45 : decode (zb m_Ft_isNextInAll) 45 = .ok (.iaload, 1) := by decide +kernel
theorem d_Ft_isNextInAll_46 : decode (zb m_Ft_isNextInAll) 46 = .ok (.iload_n 1, 1) := by decide +kernel
theorem d_Ft_isNextInAll_47 : decode (zb m_Ft_isNextInAll) 47 = .ok (.iadd, 1) := by decide +kernel
theorem d_Ft_isNextInAll_48 : decode (zb m_Ft_isNextInAll) 48 = .ok (.invokevirtual 178, 3) := by decide +kernel
theorem d_Ft_isNextInAll_51 : decode (zb m_Ft_isNextInAll) 51 = .ok (.iload_n 2, 1) := by decide +kernel
theorem d_Ft_isNextInAll_52 : decode (zb m_Ft_isNextInAll) 52 = .ok (.if_icmp .eq 5, 3) := by decide +kernel
theorem d_Ft_isNextInAll_55 : decode (zb m_Ft_isNextInAll) 55 = .ok (.iconst 0, 1) := by decide +kernel
theorem d_Ft_isNextInAll_56 : decode (zb m_Ft_isNextInAll) 56 = .ok (.ireturn, 1) := by decide +kernel
theorem d_Ft_isNextInAll_57 : decode (zb m_Ft_isNextInAll) 57 = .ok (.iinc 3 1, 3) := by decide +kernel
theorem d_Ft_isNextInAll_60 : decode (zb m_Ft_isNextInAll) 60 = .ok (.goto (-37), 3) := by decide +kernel
theorem d_Ft_isNextInAll_63 : decode (zb m_Ft_isNextInAll) 63 = .ok (.iload_n 2, 1) := by decide +kernel
theorem d_Ft_isNextInAll_64 : decode (zb m_Ft_isNextInAll) 64 = .ok (.ifCond .eq 7, 3) := by decide +kernel
theorem d_Ft_isNextInAll_67 : decode (zb m_Ft_isNextInAll) 67 = .ok (.iconst 1, 1) := by decide +kernel
theorem d_Ft_isNextInAll_68 : decode (zb m_Ft_isNextInAll) 68 = .ok (.goto 4, 3) := by decide +kernel
theorem d_Ft_isNextInAll_71 : decode (zb m_Ft_isNextInAll) 71 = .ok (.iconst 0, 1) := by decide +kernel
theorem d_Ft_isNextInAll_72 : decode (zb m_Ft_isNextInAll) 72 = .ok (.ireturn, 1) := by decide +kernel
theorem d_Ft_lastState_0 : decode (zb m_Ft_lastState) 0 = .ok (.iconst 0, 1) := by decide +kernel
theorem d_Ft_lastState_1 : decode (zb m_Ft_lastState) 1 = .ok (.istore_n 1, 1) := by decide +kernel
theorem d_Ft_lastState_2 : decode (zb m_Ft_lastState) 2 = .ok (.iconst 1, 1) := by decide +kernel
theorem d_Ft_lastState_3 : decode (zb m_Ft_lastState) 3 = .ok (.istore_n 2, 1) := by decide +kernel
theorem d_Ft_lastState_4 : decode (zb m_Ft_lastState) 4 = .ok (.iconst 0, 1) := by decide +kernel
theorem d_Ft_lastState_5 : decode (zb m_Ft_lastState) 5 = .ok (.istore_n 3, 1) := by decide +kernel
theorem d_Ft_lastState_6 : decode (zb m_Ft_lastState) 6 = .ok (.iload_n 3, 1) := by decide +kernel
theorem d_Ft_lastState_7 : decode (zb m_Ft_lastState) 7 = .ok (.aload_n 0, 1) := by decide +kernel
theorem d_Ft_lastState_8 : decode (zb m_Ft_lastState) 8 = .ok (.getfield 47, 3) := by decide +kernel
theorem d_Ft_lastState_11 : decode (zb m_Ft_lastState) 11 = .ok (.if_icmp .ge 31, 3) := by decide +kernel
theorem d_Ft_lastState_14 : decode (zb m_Ft_lastState) 14 = .ok (.iload_n 1, 1) := by decide +kernel
theorem d_Ft_lastState_15 : decode (zb m_Ft_lastState) 15 = .ok (.aload_n 0, 1) := by decide +kernel
theorem d_Ft_lastState_16 : decode (zb m_Ft_lastState) 16 = .ok (.getfield 13, 3) := by decide +kernel
theorem d_Ft_lastState_19 : decode (zb m_Ft_lastState) 19 = .ok (.iload_n 3, 1) := by decide +kernel
theorem d_Ft_lastState_20 : decode (zb m_Ft_lastState) 20 = .ok (.aaload, 1) := by decide +kernel
theorem d_Ft_lastState_21 : decode (zb m_Ft_lastState) 21 = .ok (.invokevirtual 135, 3) := by decide +kernel
theorem d_Ft_lastState_24 : decode (zb m_Ft_lastState) 24 = .ok (.invokevirtual 183, 3) := by decide +kernel
theorem d_Ft_lastState_27 : decode (zb m_Ft_lastState) 27 = .ok (.iload_n 2, 1) := by decide +kernel
theorem d_Ft_lastState_28 : decode (zb m_Ft_lastState) 28 = .ok (.imul, 1) := by decide +kernel
theorem d_Ft_lastState_29 : decode (zb m_Ft_lastState) 29 = .ok (.iadd, 1) := by decide +kernel
theorem d_Ft_lastState_30 : decode (zb m_Ft_lastState) 30 = .ok (.istore_n 1, 1) := by decide +kernel
theorem d_Ft_lastState_31 : decode (zb m_Ft_lastState) 31 = .ok (.iload_n 2, 1) := by decide +kernel
theorem d_Ft_lastState_32 : decode (zb m_Ft_lastState) 32 = .ok (.bipush 6, 2) := by decide +kernel
theorem d_Ft_lastState_34 : decode (zb m_Ft_lastState) 34 = .ok (.imul, 1) := by decide +kernel
theorem d_Ft_lastState_35 : decode (zb m_Ft_lastState) 35 = .ok (.istore_n 2, 1) := by decide +kernel
theorem d_Ft_lastState_36 : decode (zb m_Ft_lastState) 36 = .ok (.iinc 3 1, 3) := by decide +kernel
theorem d_Ft_lastState_39 : decode (zb m_Ft_lastState) 39 = .ok (.goto (-33), 3) := by decide +kernel
theorem d_Ft_lastState_42 : decode (zb m_Ft_lastState) 42 = .ok (.iload_n 1, 1) := by decide +kernel
theorem d_Ft_lastState_43 : decode (zb m_Ft_lastState) 43 = .ok (.sipush 1295, 3) := by decide +kernel
theorem d_Ft_lastState_46 : decode (zb m_Ft_lastState) 46 = .ok (.invokestatic 86, 3) := by decide +kernel
theorem d_Ft_lastState_49 : decode (zb m_Ft_lastState) 49 = .ok (.ireturn, 1) := by decide +kernel
theorem d_Mk_index_0 : decode (zb m_Mk_index) 0 = .ok (.iload_n 0, 1) := by decide +kernel
theorem d_Mk_index_1 : decode (zb m_Mk_index) 1 = .ok (.sipush 200, 3) := by decide +kernel
theorem d_Mk_index_4 : decode (zb m_Mk_index) 4 = .ok (.if_icmp .lt 14, 3) := by decide +kernel
theorem d_Mk_index_7 : decode (zb m_Mk_index) 7 = .ok (.bipush 44, 2) := by decide +kernel
theorem d_Mk_index_9 : decode (zb m_Mk_index) 9 = .ok (.iload_n 0, 1) := by decide +kernel
theorem d_Mk_index_10 : decode (zb m_Mk_index) 10 = .ok (.sipush 200, 3) := by decide +kernel
theorem d_Mk_index_13 : decode (zb m_Mk_index) 13 = .ok (.isub, 1) := by decide +kernel
theorem d_Mk_index_14 : decode (zb m_Mk_index) 14 = .ok (.invokestatic 11, 3) := by decide +kernel
theorem d_Mk_index_17 : decode (zb m_Mk_index) 17 = .ok (.ireturn, 1) := by decide +kernel
theorem d_Mk_index_18 : decode (zb m_Mk_index) 18 = .ok (.iload_n 0, 1) := by decide +kernel
theorem d_Mk_index_19 : decode (zb m_Mk_index) 19 = .ok (.bipush 100, 2) := by decide +kernel
theorem d_Mk_index_21 : decode (zb m_Mk_index) 21 = .ok (.if_icmp .lt 13, 3) := by decide +kernel
theorem d_Mk_index_24 : decode (zb m_Mk_index) 24 = .ok (.bipush 26, 2) := by decide +kernel
theorem d_Mk_index_26 : decode (zb m_Mk_index) 26 = .ok (.iload_n 0, 1) := by decide +kernel
theorem d_Mk_index_27 : decode (zb m_Mk_index) 27 = .ok (.bipush 100, 2) := by decide +kernel
theorem d_Mk_index_29 : decode (zb m_Mk_index) 29 = .ok (.isub, 1) := by decide +kernel
theorem d_Mk_index_30 : decode (zb m_Mk_index) 30 = .ok (.invokestatic 11, 3) := by decide +kernel
theorem d_Mk_index_33 : decode (zb m_Mk_index) 33 = .ok (.ireturn, 1) := by decide +kernel
theorem d_Mk_index_34 : decode (zb m_Mk_index) 34 = .ok (.iload_n 0, 1) := by decide +kernel
theorem d_Mk_index_35 : decode (zb m_Mk_index) 35 = .ok (.bipush 20, 2) := by decide +kernel
theorem d_Mk_index_37 : decode (zb m_Mk_index) 37 = .ok (.if_icmp .lt 25, 3) := by decide +kernel
theorem d_Mk_index_40 : decode (zb m_Mk_index) 40 = .ok (.iload_n 0, 1) := by decide +kernel
theorem d_Mk_index_41 : decode (zb m_Mk_index) 41 = .ok (.bipush 20, 2) := by decide +kernel
theorem d_Mk_index_43 : decode (zb m_Mk_index) 43 = .ok (.isub, 1) := by decide +kernel
theorem d_Mk_index_44 : decode (zb m_Mk_index) 44 = .ok (.bipush 13, 2) := by decide +kernel
theorem d_Mk_index_46 : decode (zb m_Mk_index) 46 = .ok (.if_icmp .ge 13, 3) := by decide +kernel
theorem d_Mk_index_49 : decode (zb m_Mk_index) 49 = .ok (.bipush 13, 2) := by decide +kernel
theorem d_Mk_index_51 : decode (zb m_Mk_index) 51 = .ok (.iload_n 0, 1) := by decide +kernel
theorem d_Mk_index_52 : decode (zb m_Mk_index) 52 = .ok (.iadd, 1) := by decide +kernel
theorem d_Mk_index_53 : decode (zb m_Mk_index) 53 = .ok (.bipush 20, 2) := by decide +kernel
theorem d_Mk_index_55 : decode (zb m_Mk_index) 55 = .ok (.isub, 1) := by decide +kernel
theorem d_Mk_index_56 : decode (zb m_Mk_index) 56 = .ok (.goto 5, 3) := by decide +kernel
theorem d_Mk_index_59 : decode (zb m_Mk_index) 59 = .ok (.bipush (-6), 2) := by decide +kernel
theorem d_Mk_index_61 : decode (zb m_Mk_index) 61 = .ok (.ireturn, 1) := by decide +kernel
theorem d_Mk_index_62 : decode (zb m_Mk_index) 62 = .ok (.iload_n 0, 1) := by decide +kernel
theorem d_Mk_index_63 : decode (zb m_Mk_index) 63 = .ok (.ifCond .lt 13, 3) := by decide +kernel
theorem d_Mk_index_66 : decode (zb m_Mk_index) 66 = .ok (.iload_n 0, 1) := by decide +kernel
theorem d_Mk_index_67 : decode (zb m_Mk_index) 67 = .ok (.bipush 13, 2) := by decide +kernel
theorem d_Mk_index_69 : decode (zb m_Mk_index) 69 = .ok (.if_icmp .ge 7, 3) := by decide +kernel
theorem d_Mk_index_72 : decode (zb m_Mk_index) 72 = .ok (.iload_n 0, 1) := by decide +kernel
theorem d_Mk_index_73 : decode (zb m_Mk_index) 73 = .ok (.goto 5, 3) := by decide +kernel
theorem d_Mk_index_76 : decode (zb m_Mk_index) 76 = .ok (.bipush (-6), 2) := by decide +kernel
theorem d_Mk_index_78 : decode (zb m_Mk_index) 78 = .ok (.ireturn, 1) := by decide +kernel
theorem d_Mk_runIndex_0 : decode (zb m_Mk_runIndex) 0 = .ok (.iload_n 1, 1) := by decide +kernel
theorem d_Mk_runIndex_1 : decode (zb m_Mk_runIndex) 1 = .ok (.bipush 20, 2) := by decide +kernel
theorem d_Mk_runIndex_3 : decode (zb m_Mk_runIndex) 3 = .ok (.idiv, 1) := by decide +kernel
theorem d_Mk_runIndex_4 : decode (zb m_Mk_runIndex) 4 = .ok (.istore_n 2, 1) := by decide +kernel
theorem d_Mk_runIndex_5 : decode (zb m_Mk_runIndex) 5 = .ok (.iload_n 1, 1) := by decide +kernel
theorem d_Mk_runIndex_6 : decode (zb m_Mk_runIndex) 6 = .ok (.bipush 20, 2) := by decide +kernel
theorem d_Mk_runIndex_8 : decode (zb m_Mk_runIndex) 8 = .ok (.irem, 1) := by decide +kernel
theorem d_Mk_runIndex_9 : decode (zb m_Mk_runIndex) 9 = .ok (.iconst 3, 1) := by decide +kernel
theorem d_Mk_runIndex_10 : decode (zb m_Mk_runIndex) 10 = .ok (.isub, 1) := by decide +kernel
theorem d_Mk_runIndex_11 : decode (zb m_Mk_runIndex) 11 = .ok (.istore_n 3, 1) := by decide +kernel
theorem d_Mk_runIndex_12 : decode (zb m_Mk_runIndex) 12 = .ok (.iload_n 2, 1) := by decide +kernel
theorem d_Mk_runIndex_13 : decode (zb m_Mk_runIndex) 13 = .ok (.iconst 3, 1) := by decide +kernel
theorem d_Mk_runIndex_14 : decode (zb m_Mk_runIndex) 14 = .ok (.if_icmp .ge 12, 3) := by decide +kernel
theorem d_Mk_runIndex_17 : decode (zb m_Mk_runIndex) 17 = .ok (.iload_n 3, 1) := by decide +kernel
theorem d_Mk_runIndex_18 : decode (zb m_Mk_runIndex) 18 = .ok (.iconst 3, 1) := by decide +kernel
theorem d_Mk_runIndex_19 : decode (zb m_Mk_runIndex) 19 = .ok (.if_icmp .gt 7, 3) := by decide +kernel
theorem d_Mk_runIndex_22 : decode (zb m_Mk_runIndex) 22 = .ok (.iload_n 3, 1) := by decide +kernel
theorem d_Mk_runIndex_23 : decode (zb m_Mk_runIndex) 23 = .ok (.ifCond .ne 6, 3) := by decide +kernel
theorem d_Mk_runIndex_26 : decode (zb m_Mk_runIndex) 26 = .ok (.bipush (-6), 2) := by decide +kernel
theorem d_Mk_runIndex_28 : decode (zb m_Mk_runIndex) 28 = .ok (.ireturn, 1) := by decide +kernel
theorem d_Mk_runIndex_29 : decode (zb m_Mk_runIndex) 29 = .ok (.iload_n 0, 1) := by decide +kernel
theorem d_Mk_runIndex_30 : decode (zb m_Mk_runIndex) 30 = .ok (.iload_n 2, 1) := by decide +kernel
theorem d_Mk_runIndex_31 : decode (zb m_Mk_runIndex) 31 = .ok (.bipush 6, 2) := by decide +kernel
theorem d_Mk_runIndex_33 : decode (zb m_Mk_runIndex) 33 = .ok (.imul, 1) := by decide +kernel
theorem d_Mk_runIndex_34 : decode (zb m_Mk_runIndex) 34 = .ok (.iadd, 1) := by decide +kernel
theorem d_Mk_runIndex_35 : decode (zb m_Mk_runIndex) 35 = .ok (.iload_n 3, 1) := by decide +kernel
theorem d_Mk_runIndex_36 : decode (zb m_Mk_runIndex) 36 = .ok (.ifCond .ge 9, 3) := by decide +kernel
theorem d_Mk_runIndex_39 : decode (zb m_Mk_runIndex) 39 = .ok (.iload_n 3, 1) := by decide +kernel
theorem d_Mk_runIndex_40 : decode (zb m_Mk_runIndex) 40 = .ok (.iconst 3, 1) := by decide +kernel
theorem d_Mk_runIndex_41 : decode (zb m_Mk_runIndex) 41 = .ok (.iadd, 1) := by decide +kernel
theorem d_Mk_runIndex_42 : decode (zb m_Mk_runIndex) 42 = .ok (.goto 6, 3) := by decide +kernel
theorem d_Mk_runIndex_45 : decode (zb m_Mk_runIndex) 45 = .ok (.iload_n 3, 1) := by decide +kernel
theorem d_Mk_runIndex_46 : decode (zb m_Mk_runIndex) 46 = .ok (.iconst 2, 1) := by decide +kernel
theorem d_Mk_runIndex_47 : decode (zb m_Mk_runIndex) 47 = .ok (.iadd, 1) := by decide +kernel
theorem d_Mk_runIndex_48 : decode (zb m_Mk_runIndex) 48 = .ok (.iadd, 1) := by decide +kernel
theorem d_Mk_runIndex_49 : decode (zb m_Mk_runIndex) 49 = .ok (.ireturn, 1) := by decide +kernel
theorem d_Mk_code_0 : decode (zb m_Mk_code) 0 = .ok (.iload_n 0, 1) := by decide +kernel
theorem d_Mk_code_1 : decode (zb m_Mk_code) 1 = .ok (.bipush 13, 2) := by decide +kernel
theorem d_Mk_code_3 : decode (zb m_Mk_code) 3 = .ok (.if_icmp .ge 5, 3) := by decide +kernel
theorem d_Mk_code_6 : decode (zb m_Mk_code) 6 = .ok (.iload_n 0, 1) := by decide +kernel
theorem d_Mk_code_7 : decode (zb m_Mk_code) 7 = .ok (.ireturn, 1) := by decide +kernel
theorem d_Mk_code_8 : decode (zb m_Mk_code) 8 = .ok (.iload_n 0, 1) := by decide +kernel
theorem d_Mk_code_9 : decode (zb m_Mk_code) 9 = .ok (.bipush 26, 2) := by decide +kernel
theorem d_Mk_code_11 : decode (zb m_Mk_code) 11 = .ok (.if_icmp .ge 11, 3) := by decide +kernel
theorem d_Mk_code_14 : decode (zb m_Mk_code) 14 = .ok (.bipush 20, 2) := by decide +kernel
theorem d_Mk_code_16 : decode (zb m_Mk_code) 16 = .ok (.iload_n 0, 1) := by decide +kernel
theorem d_Mk_code_17 : decode (zb m_Mk_code) 17 = .ok (.iadd, 1) := by decide +kernel
theorem d_Mk_code_18 : decode (zb m_Mk_code) 18 = .ok (.bipush 13, 2) := by decide +kernel
theorem d_Mk_code_20 : decode (zb m_Mk_code) 20 = .ok (.isub, 1) := by decide +kernel
theorem d_Mk_code_21 : decode (zb m_Mk_code) 21 = .ok (.ireturn, 1) := by decide +kernel
theorem d_Mk_code_22 : decode (zb m_Mk_code) 22 = .ok (.iload_n 0, 1) := by decide +kernel
theorem d_Mk_code_23 : decode (zb m_Mk_code) 23 = .ok (.bipush 44, 2) := by decide +kernel
theorem d_Mk_code_25 : decode (zb m_Mk_code) 25 = .ok (.if_icmp .ge 8, 3) := by decide +kernel
theorem d_Mk_code_28 : decode (zb m_Mk_code) 28 = .ok (.bipush 100, 2) := by decide +kernel
theorem d_Mk_code_30 : decode (zb m_Mk_code) 30 = .ok (.goto 6, 3) := by decide +kernel
theorem d_Mk_code_33 : decode (zb m_Mk_code) 33 = .ok (.sipush 200, 3) := by decide +kernel
theorem d_Mk_code_36 : decode (zb m_Mk_code) 36 = .ok (.istore_n 1, 1) := by decide +kernel
theorem d_Mk_code_37 : decode (zb m_Mk_code) 37 = .ok (.iload_n 1, 1) := by decide +kernel
theorem d_Mk_code_38 : decode (zb m_Mk_code) 38 = .ok (.bipush 20, 2) := by decide +kernel
theorem d_Mk_code_40 : decode (zb m_Mk_code) 40 = .ok (.iload_n 0, 1) := by decide +kernel
theorem d_Mk_code_41 : decode (zb m_Mk_code) 41 = .ok (.invokestatic 15, 3) := by decide +kernel
theorem d_Mk_code_44 : decode (zb m_Mk_code) 44 = .ok (.imul, 1) := by decide +kernel
theorem d_Mk_code_45 : decode (zb m_Mk_code) 45 = .ok (.iadd, 1) := by decide +kernel
theorem d_Mk_code_46 : decode (zb m_Mk_code) 46 = .ok (.iload_n 0, 1) := by decide +kernel
theorem d_Mk_code_47 : decode (zb m_Mk_code) 47 = .ok (.invokestatic 19, 3) := by decide +kernel
theorem d_Mk_code_50 : decode (zb m_Mk_code) 50 = .ok (.iadd, 1) := by decide +kernel
theorem d_Mk_code_51 : decode (zb m_Mk_code) 51 = .ok (.iconst 3, 1) := by decide +kernel
theorem d_Mk_code_52 : decode (zb m_Mk_code) 52 = .ok (.iadd, 1) := by decide +kernel
theorem d_Mk_code_53 : decode (zb m_Mk_code) 53 = .ok (.ireturn, 1) := by decide +kernel
theorem d_Mk_price_0 : decode (zb m_Mk_price) 0 = .ok (.iload_n 0, 1) := by decide +kernel
theorem d_Mk_price_1 : decode (zb m_Mk_price) 1 = .ok (.bipush 26, 2) := by decide +kernel
theorem d_Mk_price_3 : decode (zb m_Mk_price) 3 = .ok (.if_icmp .ge 5, 3) := by decide +kernel
theorem d_Mk_price_6 : decode (zb m_Mk_price) 6 = .ok (.iconst 3, 1) := by decide +kernel
theorem d_Mk_price_7 : decode (zb m_Mk_price) 7 = .ok (.ireturn, 1) := by decide +kernel
theorem d_Mk_price_8 : decode (zb m_Mk_price) 8 = .ok (.iload_n 0, 1) := by decide +kernel
theorem d_Mk_price_9 : decode (zb m_Mk_price) 9 = .ok (.invokestatic 19, 3) := by decide +kernel
theorem d_Mk_price_12 : decode (zb m_Mk_price) 12 = .ok (.invokestatic 22, 3) := by decide +kernel
theorem d_Mk_price_15 : decode (zb m_Mk_price) 15 = .ok (.iconst 1, 1) := by decide +kernel
theorem d_Mk_price_16 : decode (zb m_Mk_price) 16 = .ok (.if_icmp .ne 7, 3) := by decide +kernel
theorem d_Mk_price_19 : decode (zb m_Mk_price) 19 = .ok (.iconst 1, 1) := by decide +kernel
theorem d_Mk_price_20 : decode (zb m_Mk_price) 20 = .ok (.goto 4, 3) := by decide +kernel
theorem d_Mk_price_23 : decode (zb m_Mk_price) 23 = .ok (.iconst 2, 1) := by decide +kernel
theorem d_Mk_price_24 : decode (zb m_Mk_price) 24 = .ok (.ireturn, 1) := by decide +kernel
theorem d_Mk_placeIn_0 : decode (zb m_Mk_placeIn) 0 = .ok (.iload_n 1, 1) := by decide +kernel
theorem d_Mk_placeIn_1 : decode (zb m_Mk_placeIn) 1 = .ok (.bipush 13, 2) := by decide +kernel
theorem d_Mk_placeIn_3 : decode (zb m_Mk_placeIn) 3 = .ok (.if_icmp .ge 18, 3) := by decide +kernel
theorem d_Mk_placeIn_6 : decode (zb m_Mk_placeIn) 6 = .ok (.iload_n 1, 1) := by decide +kernel
theorem d_Mk_placeIn_7 : decode (zb m_Mk_placeIn) 7 = .ok (.aload_n 0, 1) := by decide +kernel
theorem d_Mk_placeIn_8 : decode (zb m_Mk_placeIn) 8 = .ok (.invokevirtual 27, 3) := by decide +kernel
theorem d_Mk_placeIn_11 : decode (zb m_Mk_placeIn) 11 = .ok (.if_icmp .gt 7, 3) := by decide +kernel
theorem d_Mk_placeIn_14 : decode (zb m_Mk_placeIn) 14 = .ok (.iload_n 1, 1) := by decide +kernel
theorem d_Mk_placeIn_15 : decode (zb m_Mk_placeIn) 15 = .ok (.goto 5, 3) := by decide +kernel
theorem d_Mk_placeIn_18 : decode (zb m_Mk_placeIn) 18 = .ok (.bipush (-6), 2) := by decide +kernel
theorem d_Mk_placeIn_20 : decode (zb m_Mk_placeIn) 20 = .ok (.ireturn, 1) := by decide +kernel
theorem d_Mk_placeIn_21 : decode (zb m_Mk_placeIn) 21 = .ok (.iload_n 1, 1) := by decide +kernel
theorem d_Mk_placeIn_22 : decode (zb m_Mk_placeIn) 22 = .ok (.bipush 26, 2) := by decide +kernel
theorem d_Mk_placeIn_24 : decode (zb m_Mk_placeIn) 24 = .ok (.if_icmp .ge 28, 3) := by decide +kernel
theorem d_Mk_placeIn_27 : decode (zb m_Mk_placeIn) 27 = .ok (.iload_n 1, 1) := by decide +kernel
theorem d_Mk_placeIn_28 : decode (zb m_Mk_placeIn) 28 = .ok (.bipush 13, 2) := by decide +kernel
theorem d_Mk_placeIn_30 : decode (zb m_Mk_placeIn) 30 = .ok (.isub, 1) := by decide +kernel
theorem d_Mk_placeIn_31 : decode (zb m_Mk_placeIn) 31 = .ok (.istore_n 2, 1) := by decide +kernel
theorem d_Mk_placeIn_32 : decode (zb m_Mk_placeIn) 32 = .ok (.iload_n 2, 1) := by decide +kernel
theorem d_Mk_placeIn_33 : decode (zb m_Mk_placeIn) 33 = .ok (.aload_n 0, 1) := by decide +kernel
theorem d_Mk_placeIn_34 : decode (zb m_Mk_placeIn) 34 = .ok (.invokevirtual 27, 3) := by decide +kernel
theorem d_Mk_placeIn_37 : decode (zb m_Mk_placeIn) 37 = .ok (.if_icmp .gt 12, 3) := by decide +kernel
theorem d_Mk_placeIn_40 : decode (zb m_Mk_placeIn) 40 = .ok (.aload_n 0, 1) := by decide +kernel
theorem d_Mk_placeIn_41 : decode (zb m_Mk_placeIn) 41 = .ok (.invokevirtual 27, 3) := by decide +kernel
theorem d_Mk_placeIn_44 : decode (zb m_Mk_placeIn) 44 = .ok (.iload_n 2, 1) := by decide +kernel
theorem d_Mk_placeIn_45 : decode (zb m_Mk_placeIn) 45 = .ok (.isub, 1) := by decide +kernel
theorem d_Mk_placeIn_46 : decode (zb m_Mk_placeIn) 46 = .ok (.goto 5, 3) := by decide +kernel
theorem d_Mk_placeIn_49 : decode (zb m_Mk_placeIn) 49 = .ok (.bipush (-6), 2) := by decide +kernel
theorem d_Mk_placeIn_51 : decode (zb m_Mk_placeIn) 51 = .ok (.ireturn, 1) := by decide +kernel
theorem d_Mk_placeIn_52 : decode (zb m_Mk_placeIn) 52 = .ok (.aload_n 0, 1) := by decide +kernel
theorem d_Mk_placeIn_53 : decode (zb m_Mk_placeIn) 53 = .ok (.iload_n 1, 1) := by decide +kernel
theorem d_Mk_placeIn_54 : decode (zb m_Mk_placeIn) 54 = .ok (.invokestatic 15, 3) := by decide +kernel
theorem d_Mk_placeIn_57 : decode (zb m_Mk_placeIn) 57 = .ok (.iload_n 1, 1) := by decide +kernel
theorem d_Mk_placeIn_58 : decode (zb m_Mk_placeIn) 58 = .ok (.invokestatic 19, 3) := by decide +kernel
theorem d_Mk_placeIn_61 : decode (zb m_Mk_placeIn) 61 = .ok (.invokestatic 33, 3) := by decide +kernel
theorem d_Mk_placeIn_64 : decode (zb m_Mk_placeIn) 64 = .ok (.istore_n 2, 1) := by decide +kernel
theorem d_Mk_placeIn_65 : decode (zb m_Mk_placeIn) 65 = .ok (.iload_n 2, 1) := by decide +kernel
theorem d_Mk_placeIn_66 : decode (zb m_Mk_placeIn) 66 = .ok (.bipush (-6), 2) := by decide +kernel
theorem d_Mk_placeIn_68 : decode (zb m_Mk_placeIn) 68 = .ok (.if_icmp .eq 9, 3) := by decide +kernel
theorem d_Mk_placeIn_71 : decode (zb m_Mk_placeIn) 71 = .ok (.iload_n 1, 1) := by decide +kernel
theorem d_Mk_placeIn_72 : decode (zb m_Mk_placeIn) 72 = .ok (.bipush 44, 2) := by decide +kernel
theorem d_Mk_placeIn_74 : decode (zb m_Mk_placeIn) 74 = .ok (.if_icmp .ge 7, 3) := by decide +kernel
theorem d_Mk_placeIn_77 : decode (zb m_Mk_placeIn) 77 = .ok (.iload_n 2, 1) := by decide +kernel
theorem d_Mk_placeIn_78 : decode (zb m_Mk_placeIn) 78 = .ok (.goto 8, 3) := by decide +kernel
theorem d_Mk_placeIn_81 : decode (zb m_Mk_placeIn) 81 = .ok (.aload_n 0, 1) := by decide +kernel
theorem d_Mk_placeIn_82 : decode (zb m_Mk_placeIn) 82 = .ok (.iload_n 2, 1) := by decide +kernel
theorem d_Mk_placeIn_83 : decode (zb m_Mk_placeIn) 83 = .ok (.invokestatic 37, 3) := by decide +kernel
theorem d_Mk_placeIn_86 : decode (zb m_Mk_placeIn) 86 = .ok (.ireturn, 1) := by decide +kernel
theorem d_Mk_kind_0 : decode (zb m_Mk_kind) 0 = .ok (.iload_n 0, 1) := by decide +kernel
theorem d_Mk_kind_1 : decode (zb m_Mk_kind) 1 = .ok (.bipush 26, 2) := by decide +kernel
theorem d_Mk_kind_3 : decode (zb m_Mk_kind) 3 = .ok (.isub, 1) := by decide +kernel
theorem d_Mk_kind_4 : decode (zb m_Mk_kind) 4 = .ok (.bipush 18, 2) := by decide +kernel
theorem d_Mk_kind_6 : decode (zb m_Mk_kind) 6 = .ok (.irem, 1) := by decide +kernel
theorem d_Mk_kind_7 : decode (zb m_Mk_kind) 7 = .ok (.bipush 6, 2) := by decide +kernel
theorem d_Mk_kind_9 : decode (zb m_Mk_kind) 9 = .ok (.idiv, 1) := by decide +kernel
theorem d_Mk_kind_10 : decode (zb m_Mk_kind) 10 = .ok (.ireturn, 1) := by decide +kernel
theorem d_Mk_turn_0 : decode (zb m_Mk_turn) 0 = .ok (.iload_n 0, 1) := by decide +kernel
theorem d_Mk_turn_1 : decode (zb m_Mk_turn) 1 = .ok (.bipush 26, 2) := by decide +kernel
theorem d_Mk_turn_3 : decode (zb m_Mk_turn) 3 = .ok (.isub, 1) := by decide +kernel
theorem d_Mk_turn_4 : decode (zb m_Mk_turn) 4 = .ok (.bipush 6, 2) := by decide +kernel
theorem d_Mk_turn_6 : decode (zb m_Mk_turn) 6 = .ok (.irem, 1) := by decide +kernel
theorem d_Mk_turn_7 : decode (zb m_Mk_turn) 7 = .ok (.istore_n 1, 1) := by decide +kernel
theorem d_Mk_turn_8 : decode (zb m_Mk_turn) 8 = .ok (.iload_n 1, 1) := by decide +kernel
theorem d_Mk_turn_9 : decode (zb m_Mk_turn) 9 = .ok (.iconst 3, 1) := by decide +kernel
theorem d_Mk_turn_10 : decode (zb m_Mk_turn) 10 = .ok (.if_icmp .ge 9, 3) := by decide +kernel
theorem d_Mk_turn_13 : decode (zb m_Mk_turn) 13 = .ok (.iload_n 1, 1) := by decide +kernel
theorem d_Mk_turn_14 : decode (zb m_Mk_turn) 14 = .ok (.iconst 3, 1) := by decide +kernel
theorem d_Mk_turn_15 : decode (zb m_Mk_turn) 15 = .ok (.isub, 1) := by decide +kernel
theorem d_Mk_turn_16 : decode (zb m_Mk_turn) 16 = .ok (.goto 6, 3) := by decide +kernel
theorem d_Mk_turn_19 : decode (zb m_Mk_turn) 19 = .ok (.iload_n 1, 1) := by decide +kernel
theorem d_Mk_turn_20 : decode (zb m_Mk_turn) 20 = .ok (.iconst 2, 1) := by decide +kernel
theorem d_Mk_turn_21 : decode (zb m_Mk_turn) 21 = .ok (.isub, 1) := by decide +kernel
theorem d_Mk_turn_22 : decode (zb m_Mk_turn) 22 = .ok (.ireturn, 1) := by decide +kernel
theorem d_Mk_runBegin_0 : decode (zb m_Mk_runBegin) 0 = .ok (.iload_n 2, 1) := by decide +kernel
theorem d_Mk_runBegin_1 : decode (zb m_Mk_runBegin) 1 = .ok (.invokestatic 22, 3) := by decide +kernel
theorem d_Mk_runBegin_4 : decode (zb m_Mk_runBegin) 4 = .ok (.istore_n 3, 1) := by decide +kernel
theorem d_Mk_runBegin_5 : decode (zb m_Mk_runBegin) 5 = .ok (.iconst 0, 1) := by decide +kernel
theorem d_Mk_runBegin_6 : decode (zb m_Mk_runBegin) 6 = .ok (.istore 4, 2) := by decide +kernel
theorem d_Mk_runBegin_8 : decode (zb m_Mk_runBegin) 8 = .ok (.iload 4, 2) := by decide +kernel
theorem d_Mk_runBegin_10 : decode (zb m_Mk_runBegin) 10 = .ok (.aload_n 0, 1) := by decide +kernel
theorem d_Mk_runBegin_11 : decode (zb m_Mk_runBegin) 11 = .ok (.invokevirtual 27, 3) := by decide +kernel
theorem d_Mk_runBegin_14 : decode (zb m_Mk_runBegin) 14 = .ok (.if_icmp .ge 61, 3) := by decide +kernel
theorem d_Mk_runBegin_17 : decode (zb m_Mk_runBegin) 17 = .ok (.iload_n 2, 1) := by decide +kernel
theorem d_Mk_runBegin_18 : decode (zb m_Mk_runBegin) 18 = .ok (.ifCond .le 8, 3) := by decide +kernel
theorem d_Mk_runBegin_21 : decode (zb m_Mk_runBegin) 21 = .ok (.iload 4, 2) := by decide +kernel
theorem d_Mk_runBegin_23 : decode (zb m_Mk_runBegin) 23 = .ok (.goto 12, 3) := by decide +kernel
theorem d_Mk_runBegin_26 : decode (zb m_Mk_runBegin) 26 = .ok (.aload_n 0, 1) := by decide +kernel
theorem d_Mk_runBegin_27 : decode (zb m_Mk_runBegin) 27 = .ok (.invokevirtual 27, 3) := by decide +kernel
theorem d_Mk_runBegin_30 : decode (zb m_Mk_runBegin) 30 = .ok (.iconst 1, 1) := by decide +kernel
theorem d_Mk_runBegin_31 : decode (zb m_Mk_runBegin) 31 = .ok (.isub, 1) := by decide +kernel
theorem d_Mk_runBegin_32 : decode (zb m_Mk_runBegin) 32 = .ok (.iload 4, 2) := by decide +kernel
theorem d_Mk_runBegin_34 : decode (zb m_Mk_runBegin) 34 = .ok (.isub, 1) := by decide +kernel
theorem d_Mk_runBegin_35 : decode (zb m_Mk_runBegin) 35 = .ok (.istore 5, 2) := by decide +kernel
theorem d_Mk_runBegin_37 : decode (zb m_Mk_runBegin) 37 = .ok (.aload_n 0, 1) := by decide +kernel
theorem d_Mk_runBegin_38 : decode (zb m_Mk_runBegin) 38 = .ok (.iload 5, 2) := by decide +kernel
theorem d_Mk_runBegin_40 : decode (zb m_Mk_runBegin) 40 = .ok (.invokevirtual 41, 3) := by decide +kernel
theorem d_Mk_runBegin_43 : decode (zb m_Mk_runBegin) 43 = .ok (.iload_n 1, 1) := by decide +kernel
theorem d_Mk_runBegin_44 : decode (zb m_Mk_runBegin) 44 = .ok (.if_icmp .ne 25, 3) := by decide +kernel
theorem d_Mk_runBegin_47 : decode (zb m_Mk_runBegin) 47 = .ok (.aload_n 0, 1) := by decide +kernel
theorem d_Mk_runBegin_48 : decode (zb m_Mk_runBegin) 48 = .ok (.iload 5, 2) := by decide +kernel
theorem d_Mk_runBegin_50 : decode (zb m_Mk_runBegin) 50 = .ok (.iconst 1, 1) := by decide +kernel
theorem d_Mk_runBegin_51 : decode (zb m_Mk_runBegin) 51 = .ok (.isub, 1) := by decide +kernel
theorem d_Mk_runBegin_52 : decode (zb m_Mk_runBegin) 52 = .ok (.invokevirtual 41, 3) := by decide +kernel
theorem d_Mk_runBegin_55 : decode (zb m_Mk_runBegin) 55 = .ok (.iload_n 1, 1) := by decide +kernel
theorem d_Mk_runBegin_56 : decode (zb m_Mk_runBegin) 56 = .ok (.if_icmp .eq 13, 3) := by decide +kernel
theorem d_Mk_runBegin_59 : decode (zb m_Mk_runBegin) 59 = .ok (.iinc 3 (-1), 3) := by decide +kernel
theorem d_Mk_runBegin_62 : decode (zb m_Mk_runBegin) 62 = .ok (.iload_n 3, 1) := by decide +kernel
theorem d_Mk_runBegin_63 : decode (zb m_Mk_runBegin) 63 = .ok (.ifCond .ne 6, 3) := by decide +kernel
theorem d_Mk_runBegin_66 : decode (zb m_Mk_runBegin) 66 = .ok (.iload 5, 2) := by decide +kernel
theorem d_Mk_runBegin_68 : decode (zb m_Mk_runBegin) 68 = .ok (.ireturn, 1) := by decide +kernel
theorem d_Mk_runBegin_69 : decode (zb m_Mk_runBegin) 69 = .ok (.iinc 4 1, 3) := by decide +kernel
theorem d_Mk_runBegin_72 : decode (zb m_Mk_runBegin) 72 = .ok (.goto (-64), 3) := by decide +kernel
theorem d_Mk_runBegin_75 : decode (zb m_Mk_runBegin) 75 = .ok (.bipush (-6), 2) := by decide +kernel
theorem d_Mk_runBegin_77 : decode (zb m_Mk_runBegin) 77 = .ok (.ireturn, 1) := by decide +kernel
theorem d_Mk_runEnd_0 : decode (zb m_Mk_runEnd) 0 = .ok (.iload_n 1, 1) := by decide +kernel
theorem d_Mk_runEnd_1 : decode (zb m_Mk_runEnd) 1 = .ok (.iconst 1, 1) := by decide +kernel
theorem d_Mk_runEnd_2 : decode (zb m_Mk_runEnd) 2 = .ok (.iadd, 1) := by decide +kernel
theorem d_Mk_runEnd_3 : decode (zb m_Mk_runEnd) 3 = .ok (.istore_n 2, 1) := by decide +kernel
theorem d_Mk_runEnd_4 : decode (zb m_Mk_runEnd) 4 = .ok (.iload_n 2, 1) := by decide +kernel
theorem d_Mk_runEnd_5 : decode (zb m_Mk_runEnd) 5 = .ok (.aload_n 0, 1) := by decide +kernel
theorem d_Mk_runEnd_6 : decode (zb m_Mk_runEnd) 6 = .ok (.invokevirtual 27, 3) := by decide +kernel
theorem d_Mk_runEnd_9 : decode (zb m_Mk_runEnd) 9 = .ok (.if_icmp .ge 22, 3) := by decide +kernel
theorem d_Mk_runEnd_12 : decode (zb m_Mk_runEnd) 12 = .ok (.aload_n 0, 1) := by decide +kernel
theorem d_Mk_runEnd_13 : decode (zb m_Mk_runEnd) 13 = .ok (.iload_n 2, 1) := by decide +kernel
theorem d_Mk_runEnd_14 : decode (zb m_Mk_runEnd) 14 = .ok (.invokevirtual 41, 3) := by decide +kernel
theorem d_Mk_runEnd_17 : decode (zb m_Mk_runEnd) 17 = .ok (.aload_n 0, 1) := by decide +kernel
theorem d_Mk_runEnd_18 : decode (zb m_Mk_runEnd) 18 = .ok (.iload_n 1, 1) := by decide +kernel
theorem d_Mk_runEnd_19 : decode (zb m_Mk_runEnd) 19 = .ok (.invokevirtual 41, 3) := by decide +kernel
theorem d_Mk_runEnd_22 : decode (zb m_Mk_runEnd) 22 = .ok (.if_icmp .ne 9, 3) := by decide +kernel
theorem d_Mk_runEnd_25 : decode (zb m_Mk_runEnd) 25 = .ok (.iinc 2 1, 3) := by decide +kernel
theorem d_Mk_runEnd_28 : decode (zb m_Mk_runEnd) 28 = .ok (.goto (-24), 3) := by decide +kernel
theorem d_Mk_runEnd_31 : decode (zb m_Mk_runEnd) 31 = .ok (.iload_n 2, 1) := by decide +kernel
theorem d_Mk_runEnd_32 : decode (zb m_Mk_runEnd) 32 = .ok (.ireturn, 1) := by decide +kernel
theorem d_Mv_init_0 : decode (zb m_Mv_init) 0 = .ok (.aload_n 0, 1) := by decide +kernel
theorem d_Mv_init_1 : decode (zb m_Mv_init) 1 = .ok (.invokespecial 5, 3) := by decide +kernel
theorem d_Mv_init_4 : decode (zb m_Mv_init) 4 = .ok (.aload_n 0, 1) := by decide +kernel
theorem d_Mv_init_5 : decode (zb m_Mv_init) 5 = .ok (.sipush 3849, 3) := by decide +kernel
theorem d_Mv_init_8 : decode (zb m_Mv_init) 8 = .ok (.newarray .int, 2) := by decide +kernel
theorem d_Mv_init_10 : decode (zb m_Mv_init) 10 = .ok (.putfield 13, 3) := by decide +kernel
theorem d_Mv_init_13 : decode (zb m_Mv_init) 13 = .ok (.aload_n 0, 1) := by decide +kernel
theorem d_Mv_init_14 : decode (zb m_Mv_init) 14 = .ok (.sipush 3849, 3) := by decide +kernel
theorem d_Mv_init_17 : decode (zb m_Mv_init) 17 = .ok (.newarray .int, 2) := by decide +kernel
theorem d_Mv_init_19 : decode (zb m_Mv_init) 19 = .ok (.putfield 17, 3) := by decide +kernel
theorem d_Mv_init_22 : decode (zb m_Mv_init) 22 = .ok (.aload_n 0, 1) := by decide +kernel
theorem d_Mv_init_23 : decode (zb m_Mv_init) 23 = .ok (.sipush 3849, 3) := by decide +kernel
theorem d_Mv_init_26 : decode (zb m_Mv_init) 26 = .ok (.newarray .int, 2) := by decide +kernel
theorem d_Mv_init_28 : decode (zb m_Mv_init) 28 = .ok (.putfield 20, 3) := by decide +kernel
theorem d_Mv_init_31 : decode (zb m_Mv_init) 31 = .ok (.return_, 1) := by decide +kernel
theorem d_Mv_many_0 : decode (zb m_Mv_many) 0 = .ok (.aload_n 0, 1) := by decide +kernel
theorem d_Mv_many_1 : decode (zb m_Mv_many) 1 = .ok (.getfield 23, 3) := by decide +kernel
theorem d_Mv_many_4 : decode (zb m_Mv_many) 4 = .ok (.ireturn, 1) := by decide +kernel
theorem d_Mv_clear_0 : decode (zb m_Mv_clear) 0 = .ok (.aload_n 0, 1) := by decide +kernel
theorem d_Mv_clear_1 : decode (zb m_Mv_clear) 1 = .ok (.iconst 0, 1) := by decide +kernel
theorem d_Mv_clear_2 : decode (zb m_Mv_clear) 2 = .ok (.putfield 23, 3) := by decide +kernel
theorem d_Mv_clear_5 : decode (zb m_Mv_clear) 5 = .ok (.return_, 1) := by decide +kernel
theorem d_Mv_add_0 : decode (zb m_Mv_add) 0 = .ok (.aload_n 0, 1) := by decide +kernel
theorem d_Mv_add_1 : decode (zb m_Mv_add) 1 = .ok (.getfield 23, 3) := by decide +kernel
theorem d_Mv_add_4 : decode (zb m_Mv_add) 4 = .ok (.sipush 3849, 3) := by decide +kernel
theorem d_Mv_add_7 : decode (zb m_Mv_add) 7 = .ok (.if_icmp .ge 43, 3) := by decide +kernel
theorem d_Mv_add_10 : decode (zb m_Mv_add) 10 = .ok (.aload_n 0, 1) := by decide +kernel
theorem d_Mv_add_11 : decode (zb m_Mv_add) 11 = .ok (.getfield 13, 3) := by decide +kernel
theorem d_Mv_add_14 : decode (zb m_Mv_add) 14 = .ok (.aload_n 0, 1) := by decide +kernel
theorem d_Mv_add_15 : decode (zb m_Mv_add) 15 = .ok (.getfield 23, 3) := by decide +kernel
theorem d_Mv_add_18 : decode (zb m_Mv_add) 18 = .ok (.iload_n 1, 1) := by decide +kernel
theorem d_Mv_add_19 : decode (zb m_Mv_add) 19 = .ok (.iastore, 1) := by decide +kernel
theorem d_Mv_add_20 : decode (zb m_Mv_add) 20 = .ok (.aload_n 0, 1) := by decide +kernel
theorem d_Mv_add_21 : decode (zb m_Mv_add) 21 = .ok (.getfield 17, 3) := by decide +kernel
theorem d_Mv_add_24 : decode (zb m_Mv_add) 24 = .ok (.aload_n 0, 1) := by decide +kernel
theorem d_Mv_add_25 : decode (zb m_Mv_add) 25 = .ok (.getfield 23, 3) := by decide +kernel
theorem d_Mv_add_28 : decode (zb m_Mv_add) 28 = .ok (.iload_n 2, 1) := by decide +kernel
theorem d_Mv_add_29 : decode (zb m_Mv_add) 29 = .ok (.iastore, 1) := by decide +kernel
theorem d_Mv_add_30 : decode (zb m_Mv_add) 30 = .ok (.aload_n 0, 1) := by decide +kernel
theorem d_Mv_add_31 : decode (zb m_Mv_add) 31 = .ok (.getfield 20, 3) := by decide +kernel
theorem d_Mv_add_34 : decode (zb m_Mv_add) 34 = .ok (.aload_n 0, 1) := by decide +kernel
theorem d_Mv_add_35 : decode (zb m_Mv_add) 35 = .ok (.getfield 23, 3) := by decide +kernel
theorem d_Mv_add_38 : decode (zb m_Mv_add) 38 = .ok (.iload_n 3, 1) := by decide +kernel
theorem d_Mv_add_39 : decode (zb m_Mv_add) 39 = .ok (.iastore, 1) := by decide +kernel
theorem d_Mv_add_40 : decode (zb m_Mv_add) 40 = .ok (.aload_n 0, 1) := by decide +kernel
theorem d_Mv_add_41 : decode (zb m_Mv_add) 41 = .ok (.dup, 1) := by decide +kernel
theorem d_Mv_add_42 : decode (zb m_Mv_add) 42 = .ok (.getfield 23, 3) := by decide +kernel
theorem d_Mv_add_45 : decode (zb m_Mv_add) 45 = .ok (.iconst 1, 1) := by decide +kernel
theorem d_Mv_add_46 : decode (zb m_Mv_add) 46 = .ok (.iadd, 1) := by decide +kernel
theorem d_Mv_add_47 : decode (zb m_Mv_add) 47 = .ok (.putfield 23, 3) := by decide +kernel
theorem d_Mv_add_50 : decode (zb m_Mv_add) 50 = .ok (.return_, 1) := by decide +kernel
theorem d_Mv_target_0 : decode (zb m_Mv_target) 0 = .ok (.iload_n 1, 1) := by decide +kernel
theorem d_Mv_target_1 : decode (zb m_Mv_target) 1 = .ok (.ifCond .lt 19, 3) := by decide +kernel
theorem d_Mv_target_4 : decode (zb m_Mv_target) 4 = .ok (.iload_n 1, 1) := by decide +kernel
theorem d_Mv_target_5 : decode (zb m_Mv_target) 5 = .ok (.sipush 3849, 3) := by decide +kernel
theorem d_Mv_target_8 : decode (zb m_Mv_target) 8 = .ok (.if_icmp .ge 12, 3) := by decide +kernel
theorem d_Mv_target_11 : decode (zb m_Mv_target) 11 = .ok (.aload_n 0, 1) := by decide +kernel
theorem d_Mv_target_12 : decode (zb m_Mv_target) 12 = .ok (.getfield 13, 3) := by decide +kernel
theorem d_Mv_target_15 : decode (zb m_Mv_target) 15 = .ok (.iload_n 1, 1) := by decide +kernel
theorem d_Mv_target_16 : decode (zb m_Mv_target) 16 = .ok (.iaload, 1) := by decide +kernel
theorem d_Mv_target_17 : decode (zb m_Mv_target) 17 = .ok (.goto 4, 3) := by decide +kernel
theorem d_Mv_target_20 : decode (zb m_Mv_target) 20 = .ok (.iconst 0, 1) := by decide +kernel
theorem d_Mv_target_21 : decode (zb m_Mv_target) 21 = .ok (.ireturn, 1) := by decide +kernel
theorem d_Mv_pieces_0 : decode (zb m_Mv_pieces) 0 = .ok (.iload_n 1, 1) := by decide +kernel
theorem d_Mv_pieces_1 : decode (zb m_Mv_pieces) 1 = .ok (.ifCond .lt 19, 3) := by decide +kernel
theorem d_Mv_pieces_4 : decode (zb m_Mv_pieces) 4 = .ok (.iload_n 1, 1) := by decide +kernel
theorem d_Mv_pieces_5 : decode (zb m_Mv_pieces) 5 = .ok (.sipush 3849, 3) := by decide +kernel
theorem d_Mv_pieces_8 : decode (zb m_Mv_pieces) 8 = .ok (.if_icmp .ge 12, 3) := by decide +kernel
theorem d_Mv_pieces_11 : decode (zb m_Mv_pieces) 11 = .ok (.aload_n 0, 1) := by decide +kernel
theorem d_Mv_pieces_12 : decode (zb m_Mv_pieces) 12 = .ok (.getfield 17, 3) := by decide +kernel
theorem d_Mv_pieces_15 : decode (zb m_Mv_pieces) 15 = .ok (.iload_n 1, 1) := by decide +kernel
theorem d_Mv_pieces_16 : decode (zb m_Mv_pieces) 16 = .ok (.iaload, 1) := by decide +kernel
theorem d_Mv_pieces_17 : decode (zb m_Mv_pieces) 17 = .ok (.goto 4, 3) := by decide +kernel
theorem d_Mv_pieces_20 : decode (zb m_Mv_pieces) 20 = .ok (.iconst 0, 1) := by decide +kernel
theorem d_Mv_pieces_21 : decode (zb m_Mv_pieces) 21 = .ok (.ireturn, 1) := by decide +kernel
theorem d_Mv_price_0 : decode (zb m_Mv_price) 0 = .ok (.iload_n 1, 1) := by decide +kernel
theorem d_Mv_price_1 : decode (zb m_Mv_price) 1 = .ok (.ifCond .lt 19, 3) := by decide +kernel
theorem d_Mv_price_4 : decode (zb m_Mv_price) 4 = .ok (.iload_n 1, 1) := by decide +kernel
theorem d_Mv_price_5 : decode (zb m_Mv_price) 5 = .ok (.sipush 3849, 3) := by decide +kernel
theorem d_Mv_price_8 : decode (zb m_Mv_price) 8 = .ok (.if_icmp .ge 12, 3) := by decide +kernel
theorem d_Mv_price_11 : decode (zb m_Mv_price) 11 = .ok (.aload_n 0, 1) := by decide +kernel
theorem d_Mv_price_12 : decode (zb m_Mv_price) 12 = .ok (.getfield 20, 3) := by decide +kernel
theorem d_Mv_price_15 : decode (zb m_Mv_price) 15 = .ok (.iload_n 1, 1) := by decide +kernel
theorem d_Mv_price_16 : decode (zb m_Mv_price) 16 = .ok (.iaload, 1) := by decide +kernel
theorem d_Mv_price_17 : decode (zb m_Mv_price) 17 = .ok (.goto 4, 3) := by decide +kernel
theorem d_Mv_price_20 : decode (zb m_Mv_price) 20 = .ok (.iconst 0, 1) := by decide +kernel
theorem d_Mv_price_21 : decode (zb m_Mv_price) 21 = .ok (.ireturn, 1) := by decide +kernel
theorem d_Pc_init_0 : decode (zb m_Pc_init) 0 = .ok (.aload_n 0, 1) := by decide +kernel
theorem d_Pc_init_1 : decode (zb m_Pc_init) 1 = .ok (.invokespecial 3, 3) := by decide +kernel
theorem d_Pc_init_4 : decode (zb m_Pc_init) 4 = .ok (.aload_n 0, 1) := by decide +kernel
theorem d_Pc_init_5 : decode (zb m_Pc_init) 5 = .ok (.new 9, 3) := by decide +kernel
theorem d_Pc_init_8 : decode (zb m_Pc_init) 8 = .ok (.dup, 1) := by decide +kernel
theorem d_Pc_init_9 : decode (zb m_Pc_init) 9 = .ok (.iconst 5, 1) := by decide +kernel
theorem d_Pc_init_10 : decode (zb m_Pc_init) 10 = .ok (.invokespecial 11, 3) := by decide +kernel
theorem d_Pc_init_13 : decode (zb m_Pc_init) 13 = .ok (.putfield 14, 3) := by decide +kernel
theorem d_Pc_init_16 : decode (zb m_Pc_init) 16 = .ok (.return_, 1) := by decide +kernel
theorem d_Pc_becomeCut_0 : decode (zb m_Pc_becomeCut) 0 = .ok (.aload_n 0, 1) := by decide +kernel
theorem d_Pc_becomeCut_1 : decode (zb m_Pc_becomeCut) 1 = .ok (.iconst 0, 1) := by decide +kernel
theorem d_Pc_becomeCut_2 : decode (zb m_Pc_becomeCut) 2 = .ok (.putfield 20, 3) := by decide +kernel
theorem d_Pc_becomeCut_5 : decode (zb m_Pc_becomeCut) 5 = .ok (.aload_n 0, 1) := by decide +kernel
theorem d_Pc_becomeCut_6 : decode (zb m_Pc_becomeCut) 6 = .ok (.iload_n 1, 1) := by decide +kernel
theorem d_Pc_becomeCut_7 : decode (zb m_Pc_becomeCut) 7 = .ok (.putfield 24, 3) := by decide +kernel
theorem d_Pc_becomeCut_10 : decode (zb m_Pc_becomeCut) 10 = .ok (.aload_n 0, 1) := by decide +kernel
theorem d_Pc_becomeCut_11 : decode (zb m_Pc_becomeCut) 11 = .ok (.iload_n 2, 1) := by decide +kernel
theorem d_Pc_becomeCut_12 : decode (zb m_Pc_becomeCut) 12 = .ok (.putfield 28, 3) := by decide +kernel
theorem d_Pc_becomeCut_15 : decode (zb m_Pc_becomeCut) 15 = .ok (.return_, 1) := by decide +kernel
theorem d_Pc_becomeText_0 : decode (zb m_Pc_becomeText) 0 = .ok (.aload_n 0, 1) := by decide +kernel
theorem d_Pc_becomeText_1 : decode (zb m_Pc_becomeText) 1 = .ok (.iconst 1, 1) := by decide +kernel
theorem d_Pc_becomeText_2 : decode (zb m_Pc_becomeText) 2 = .ok (.putfield 20, 3) := by decide +kernel
theorem d_Pc_becomeText_5 : decode (zb m_Pc_becomeText) 5 = .ok (.aload_n 0, 1) := by decide +kernel
theorem d_Pc_becomeText_6 : decode (zb m_Pc_becomeText) 6 = .ok (.getfield 14, 3) := by decide +kernel
theorem d_Pc_becomeText_9 : decode (zb m_Pc_becomeText) 9 = .ok (.invokevirtual 31, 3) := by decide +kernel
theorem d_Pc_becomeText_12 : decode (zb m_Pc_becomeText) 12 = .ok (.aload_n 0, 1) := by decide +kernel
theorem d_Pc_becomeText_13 : decode (zb m_Pc_becomeText) 13 = .ok (.getfield 14, 3) := by decide +kernel
theorem d_Pc_becomeText_16 : decode (zb m_Pc_becomeText) 16 = .ok (.aload_n 1, 1) := by decide +kernel
theorem d_Pc_becomeText_17 : decode (zb m_Pc_becomeText) 17 = .ok (.iload_n 2, 1) := by decide +kernel
theorem d_Pc_becomeText_18 : decode (zb m_Pc_becomeText) 18 = .ok (.iload_n 3, 1) := by decide +kernel
theorem d_Pc_becomeText_19 : decode (zb m_Pc_becomeText) 19 = .ok (.invokevirtual 34, 3) := by decide +kernel
theorem d_Pc_becomeText_22 : decode (zb m_Pc_becomeText) 22 = .ok (.return_, 1) := by decide +kernel
theorem d_Pc_price_0 : decode (zb m_Pc_price) 0 = .ok (.aload_n 0, 1) := by decide +kernel
theorem d_Pc_price_1 : decode (zb m_Pc_price) 1 = .ok (.getfield 20, 3) := by decide +kernel
theorem d_Pc_price_4 : decode (zb m_Pc_price) 4 = .ok (.ifCond .eq 16, 3) := by decide +kernel
theorem d_Pc_price_7 : decode (zb m_Pc_price) 7 = .ok (.aload_n 0, 1) := by decide +kernel
theorem d_Pc_price_8 : decode (zb m_Pc_price) 8 = .ok (.getfield 14, 3) := by decide +kernel
theorem d_Pc_price_11 : decode (zb m_Pc_price) 11 = .ok (.invokevirtual 38, 3) := by decide +kernel
theorem d_Pc_price_14 : decode (zb m_Pc_price) 14 = .ok (.invokestatic 42, 3) := by decide +kernel
theorem d_Pc_price_17 : decode (zb m_Pc_price) 17 = .ok (.goto 20, 3) := by decide +kernel
theorem d_Pc_price_20 : decode (zb m_Pc_price) 20 = .ok (.aload_n 0, 1) := by decide +kernel
theorem d_Pc_price_21 : decode (zb m_Pc_price) 21 = .ok (.getfield 24, 3) := by decide +kernel
theorem d_Pc_price_24 : decode (zb m_Pc_price) 24 = .ok (.invokestatic 46, 3) := by decide +kernel
theorem d_Pc_price_27 : decode (zb m_Pc_price) 27 = .ok (.aload_n 0, 1) := by decide +kernel
theorem d_Pc_price_28 : decode (zb m_Pc_price) 28 = .ok (.getfield 28, 3) := by decide +kernel
theorem d_Pc_price_31 : decode (zb m_Pc_price) 31 = .ok (.invokestatic 46, 3) := by decide +kernel
theorem d_Pc_price_34 : decode (zb m_Pc_price) 34 = .ok (.invokestatic 51, 3) := by decide +kernel
theorem d_Pc_price_37 : decode (zb m_Pc_price) 37 = .ok (.ireturn, 1) := by decide +kernel
theorem d_Pc_textPrice_0 : decode (zb m_Pc_textPrice) 0 = .ok (.iconst 2, 1) := by decide +kernel
theorem d_Pc_textPrice_1 : decode (zb m_Pc_textPrice) 1 = .ok (.iload_n 0, 1) := by decide +kernel
theorem d_Pc_textPrice_2 : decode (zb m_Pc_textPrice) 2 = .ok (.imul, 1) := by decide +kernel
theorem d_Pc_textPrice_3 : decode (zb m_Pc_textPrice) 3 = .ok (.iconst 2, 1) := by decide +kernel
theorem d_Pc_textPrice_4 : decode (zb m_Pc_textPrice) 4 = .ok (.iadd, 1) := by decide +kernel
theorem d_Pc_textPrice_5 : decode (zb m_Pc_textPrice) 5 = .ok (.ireturn, 1) := by decide +kernel
theorem d_Pc_cutPrice_0 : decode (zb m_Pc_cutPrice) 0 = .ok (.iload_n 0, 1) := by decide +kernel
theorem d_Pc_cutPrice_1 : decode (zb m_Pc_cutPrice) 1 = .ok (.iload_n 1, 1) := by decide +kernel
theorem d_Pc_cutPrice_2 : decode (zb m_Pc_cutPrice) 2 = .ok (.iadd, 1) := by decide +kernel
theorem d_Pc_cutPrice_3 : decode (zb m_Pc_cutPrice) 3 = .ok (.iconst 1, 1) := by decide +kernel
theorem d_Pc_cutPrice_4 : decode (zb m_Pc_cutPrice) 4 = .ok (.iadd, 1) := by decide +kernel
theorem d_Pc_cutPrice_5 : decode (zb m_Pc_cutPrice) 5 = .ok (.ireturn, 1) := by decide +kernel
theorem d_Pc_tells_0 : decode (zb m_Pc_tells) 0 = .ok (.iload_n 1, 1) := by decide +kernel
theorem d_Pc_tells_1 : decode (zb m_Pc_tells) 1 = .ok (.ifCond .ne 16, 3) := by decide +kernel
theorem d_Pc_tells_4 : decode (zb m_Pc_tells) 4 = .ok (.aload_n 0, 1) := by decide +kernel
theorem d_Pc_tells_5 : decode (zb m_Pc_tells) 5 = .ok (.getfield 20, 3) := by decide +kernel
theorem d_Pc_tells_8 : decode (zb m_Pc_tells) 8 = .ok (.ifCond .eq 7, 3) := by decide +kernel
theorem d_Pc_tells_11 : decode (zb m_Pc_tells) 11 = .ok (.iconst 1, 1) := by decide +kernel
theorem d_Pc_tells_12 : decode (zb m_Pc_tells) 12 = .ok (.goto 4, 3) := by decide +kernel
theorem d_Pc_tells_15 : decode (zb m_Pc_tells) 15 = .ok (.iconst 0, 1) := by decide +kernel
theorem d_Pc_tells_16 : decode (zb m_Pc_tells) 16 = .ok (.ireturn, 1) := by decide +kernel
theorem d_Pc_tells_17 : decode (zb m_Pc_tells) 17 = .ok (.aload_n 0, 1) := by decide +kernel
theorem d_Pc_tells_18 : decode (zb m_Pc_tells) 18 = .ok (.getfield 20, 3) := by decide +kernel
theorem d_Pc_tells_21 : decode (zb m_Pc_tells) 21 = .ok (.ifCond .eq 27, 3) := by decide +kernel
theorem d_Pc_tells_24 : decode (zb m_Pc_tells) 24 = .ok (.iload_n 1, 1) := by decide +kernel
theorem d_Pc_tells_25 : decode (zb m_Pc_tells) 25 = .ok (.iconst 1, 1) := by decide +kernel
theorem d_Pc_tells_26 : decode (zb m_Pc_tells) 26 = .ok (.if_icmp .ne 13, 3) := by decide +kernel
theorem d_Pc_tells_29 : decode (zb m_Pc_tells) 29 = .ok (.aload_n 0, 1) := by decide +kernel
theorem d_Pc_tells_30 : decode (zb m_Pc_tells) 30 = .ok (.getfield 14, 3) := by decide +kernel
theorem d_Pc_tells_33 : decode (zb m_Pc_tells) 33 = .ok (.invokevirtual 38, 3) := by decide +kernel
theorem d_Pc_tells_36 : decode (zb m_Pc_tells) 36 = .ok (.goto 11, 3) := by decide +kernel
theorem d_Pc_tells_39 : decode (zb m_Pc_tells) 39 = .ok (.aload_n 0, 1) := by decide +kernel
theorem d_Pc_tells_40 : decode (zb m_Pc_tells) 40 = .ok (.getfield 14, 3) := by decide +kernel
theorem d_Pc_tells_43 : decode (zb m_Pc_tells) 43 = .ok (.iconst 0, 1) := by decide +kernel
theorem d_Pc_tells_44 : decode (zb m_Pc_tells) 44 = .ok (.invokevirtual 55, 3) := by decide +kernel
theorem d_Pc_tells_47 : decode (zb m_Pc_tells) 47 = .ok (.ireturn, 1) := by decide +kernel
theorem d_Pc_tells_48 : decode (zb m_Pc_tells) 48 = .ok (.iload_n 1, 1) := by decide +kernel
theorem d_Pc_tells_49 : decode (zb m_Pc_tells) 49 = .ok (.iconst 1, 1) := by decide +kernel
theorem d_Pc_tells_50 : decode (zb m_Pc_tells) 50 = .ok (.if_icmp .ne 10, 3) := by decide +kernel
theorem d_Pc_tells_53 : decode (zb m_Pc_tells) 53 = .ok (.aload_n 0, 1) := by decide +kernel
theorem d_Pc_tells_54 : decode (zb m_Pc_tells) 54 = .ok (.getfield 24, 3) := by decide +kernel
theorem d_Pc_tells_57 : decode (zb m_Pc_tells) 57 = .ok (.goto 7, 3) := by decide +kernel
theorem d_Pc_tells_60 : decode (zb m_Pc_tells) 60 = .ok (.aload_n 0, 1) := by decide +kernel
theorem d_Pc_tells_61 : decode (zb m_Pc_tells) 61 = .ok (.getfield 28, 3) := by decide +kernel
theorem d_Pc_tells_64 : decode (zb m_Pc_tells) 64 = .ok (.invokestatic 58, 3) := by decide +kernel
theorem d_Pc_tells_67 : decode (zb m_Pc_tells) 67 = .ok (.ireturn, 1) := by decide +kernel
theorem d_Pc_addTo_0 : decode (zb m_Pc_addTo) 0 = .ok (.aload_n 0, 1) := by decide +kernel
theorem d_Pc_addTo_1 : decode (zb m_Pc_addTo) 1 = .ok (.getfield 20, 3) := by decide +kernel
theorem d_Pc_addTo_4 : decode (zb m_Pc_addTo) 4 = .ok (.ifCond .eq 21, 3) := by decide +kernel
theorem d_Pc_addTo_7 : decode (zb m_Pc_addTo) 7 = .ok (.aload_n 1, 1) := by decide +kernel
theorem d_Pc_addTo_8 : decode (zb m_Pc_addTo) 8 = .ok (.aload_n 0, 1) := by decide +kernel
theorem d_Pc_addTo_9 : decode (zb m_Pc_addTo) 9 = .ok (.getfield 14, 3) := by decide +kernel
theorem d_Pc_addTo_12 : decode (zb m_Pc_addTo) 12 = .ok (.iconst 0, 1) := by decide +kernel
theorem d_Pc_addTo_13 : decode (zb m_Pc_addTo) 13 = .ok (.aload_n 0, 1) := by decide +kernel
theorem d_Pc_addTo_14 : decode (zb m_Pc_addTo) 14 = .ok (.getfield 14, 3) := by decide +kernel
theorem d_Pc_addTo_17 : decode (zb m_Pc_addTo) 17 = .ok (.invokevirtual 38, 3) := by decide +kernel
theorem d_Pc_addTo_20 : decode (zb m_Pc_addTo) 20 = .ok (.invokevirtual 34, 3) := by decide +kernel
theorem d_Pc_addTo_23 : decode (zb m_Pc_addTo) 23 = .ok (.iconst 1, 1) := by decide +kernel
theorem d_Pc_addTo_24 : decode (zb m_Pc_addTo) 24 = .ok (.ireturn, 1) := by decide +kernel
theorem d_Pc_addTo_25 : decode (zb m_Pc_addTo) 25 = .ok (.aload_n 2, 1) := by decide +kernel
theorem d_Pc_addTo_26 : decode (zb m_Pc_addTo) 26 = .ok (.aload_n 0, 1) := by decide +kernel
theorem d_Pc_addTo_27 : decode (zb m_Pc_addTo) 27 = .ok (.getfield 24, 3) := by decide +kernel
theorem d_Pc_addTo_30 : decode (zb m_Pc_addTo) 30 = .ok (.invokestatic 61, 3) := by decide +kernel
theorem d_Pc_addTo_33 : decode (zb m_Pc_addTo) 33 = .ok (.istore_n 3, 1) := by decide +kernel
theorem d_Pc_addTo_34 : decode (zb m_Pc_addTo) 34 = .ok (.aload_n 2, 1) := by decide +kernel
theorem d_Pc_addTo_35 : decode (zb m_Pc_addTo) 35 = .ok (.aload_n 0, 1) := by decide +kernel
theorem d_Pc_addTo_36 : decode (zb m_Pc_addTo) 36 = .ok (.getfield 28, 3) := by decide +kernel
theorem d_Pc_addTo_39 : decode (zb m_Pc_addTo) 39 = .ok (.invokestatic 61, 3) := by decide +kernel
theorem d_Pc_addTo_42 : decode (zb m_Pc_addTo) 42 = .ok (.istore 4, 2) := by decide +kernel
theorem d_Pc_addTo_44 : decode (zb m_Pc_addTo) 44 = .ok (.iload_n 3, 1) := by decide +kernel
theorem d_Pc_addTo_45 : decode (zb m_Pc_addTo) 45 = .ok (.bipush (-6), 2) := by decide +kernel
theorem d_Pc_addTo_47 : decode (zb m_Pc_addTo) 47 = .ok (.if_icmp .eq 16, 3) := by decide +kernel
theorem d_Pc_addTo_50 : decode (zb m_Pc_addTo) 50 = .ok (.iload 4, 2) := by decide +kernel
theorem d_Pc_addTo_52 : decode (zb m_Pc_addTo) 52 = .ok (.bipush (-6), 2) := by decide +kernel
theorem d_Pc_addTo_54 : decode (zb m_Pc_addTo) 54 = .ok (.if_icmp .eq 9, 3) := by decide +kernel
theorem d_Pc_addTo_57 : decode (zb m_Pc_addTo) 57 = .ok (.iload_n 3, 1) := by decide +kernel
theorem d_Pc_addTo_58 : decode (zb m_Pc_addTo) 58 = .ok (.iload 4, 2) := by decide +kernel
theorem d_Pc_addTo_60 : decode (zb m_Pc_addTo) 60 = .ok (.if_icmp .lt 5, 3) := by decide +kernel
theorem d_Pc_addTo_63 : decode (zb m_Pc_addTo) 63 = .ok (.iconst 0, 1) := by decide +kernel
theorem d_Pc_addTo_64 : decode (zb m_Pc_addTo) 64 = .ok (.ireturn, 1) := by decide +kernel
theorem d_Pc_addTo_65 : decode (zb m_Pc_addTo) 65 = .ok (.aload_n 1, 1) := by decide +kernel
theorem d_Pc_addTo_66 : decode (zb m_Pc_addTo) 66 = .ok (.aload_n 2, 1) := by decide +kernel
theorem d_Pc_addTo_67 : decode (zb m_Pc_addTo) 67 = .ok (.iload_n 3, 1) := by decide +kernel
theorem d_Pc_addTo_68 : decode (zb m_Pc_addTo) 68 = .ok (.iload 4, 2) := by decide +kernel
theorem d_Pc_addTo_70 : decode (zb m_Pc_addTo) 70 = .ok (.invokevirtual 34, 3) := by decide +kernel
theorem d_Pc_addTo_73 : decode (zb m_Pc_addTo) 73 = .ok (.iconst 1, 1) := by decide +kernel
theorem d_Pc_addTo_74 : decode (zb m_Pc_addTo) 74 = .ok (.ireturn, 1) := by decide +kernel
theorem d_Pl_init_0 : decode (zb m_Pl_init) 0 = .ok (.aload_n 0, 1) := by decide +kernel
theorem d_Pl_init_1 : decode (zb m_Pl_init) 1 = .ok (.invokespecial 3, 3) := by decide +kernel
theorem d_Pl_init_4 : decode (zb m_Pl_init) 4 = .ok (.aload_n 0, 1) := by decide +kernel
theorem d_Pl_init_5 : decode (zb m_Pl_init) 5 = .ok (.iconst 5, 1) := by decide +kernel
theorem d_Pl_init_6 : decode (zb m_Pl_init) 6 = .ok (.anewarray 9, 3) := by decide +kernel
theorem d_Pl_init_9 : decode (zb m_Pl_init) 9 = .ok (.putfield 11, 3) := by decide +kernel
theorem d_Pl_init_12 : decode (zb m_Pl_init) 12 = .ok (.iconst 0, 1) := by decide +kernel
theorem d_Pl_init_13 : decode (zb m_Pl_init) 13 = .ok (.istore_n 1, 1) := by decide +kernel
theorem d_Pl_init_14 : decode (zb m_Pl_init) 14 = .ok (.iload_n 1, 1) := by decide +kernel
theorem d_Pl_init_15 : decode (zb m_Pl_init) 15 = .ok (.iconst 5, 1) := by decide +kernel
theorem d_Pl_init_16 : decode (zb m_Pl_init) 16 = .ok (.if_icmp .ge 22, 3) := by decide +kernel
theorem d_Pl_init_19 : decode (zb m_Pl_init) 19 = .ok (.aload_n 0, 1) := by decide +kernel
theorem d_Pl_init_20 : decode (zb m_Pl_init) 20 = .ok (.getfield 11, 3) := by decide +kernel
theorem d_Pl_init_23 : decode (zb m_Pl_init) 23 = .ok (.iload_n 1, 1) := by decide +kernel
theorem d_Pl_init_24 : decode (zb m_Pl_init) 24 = .ok (.new 9, 3) := by decide +kernel
theorem d_Pl_init_27 : decode (zb m_Pl_init) 27 = .ok (.dup, 1) := by decide +kernel
theorem d_Pl_init_28 : decode (zb m_Pl_init) 28 = .ok (.invokespecial 17, 3) := by decide +kernel
theorem d_Pl_init_31 : decode (zb m_Pl_init) 31 = .ok (.aastore, 1) := by decide +kernel
theorem d_Pl_init_32 : decode (zb m_Pl_init) 32 = .ok (.iinc 1 1, 3) := by decide +kernel
theorem d_Pl_init_35 : decode (zb m_Pl_init) 35 = .ok (.goto (-21), 3) := by decide +kernel
theorem d_Pl_init_38 : decode (zb m_Pl_init) 38 = .ok (.return_, 1) := by decide +kernel
theorem d_Pl_many_0 : decode (zb m_Pl_many) 0 = .ok (.aload_n 0, 1) := by decide +kernel
theorem d_Pl_many_1 : decode (zb m_Pl_many) 1 = .ok (.getfield 18, 3) := by decide +kernel
theorem d_Pl_many_4 : decode (zb m_Pl_many) 4 = .ok (.ireturn, 1) := by decide +kernel
theorem d_Pl_clear_0 : decode (zb m_Pl_clear) 0 = .ok (.aload_n 0, 1) := by decide +kernel
theorem d_Pl_clear_1 : decode (zb m_Pl_clear) 1 = .ok (.iconst 0, 1) := by decide +kernel
theorem d_Pl_clear_2 : decode (zb m_Pl_clear) 2 = .ok (.putfield 18, 3) := by decide +kernel
theorem d_Pl_clear_5 : decode (zb m_Pl_clear) 5 = .ok (.return_, 1) := by decide +kernel
theorem d_Pl_at_0 : decode (zb m_Pl_at) 0 = .ok (.aload_n 0, 1) := by decide +kernel
theorem d_Pl_at_1 : decode (zb m_Pl_at) 1 = .ok (.getfield 11, 3) := by decide +kernel
theorem d_Pl_at_4 : decode (zb m_Pl_at) 4 = .ok (.iload_n 1, 1) := by decide +kernel
theorem d_Pl_at_5 : decode (zb m_Pl_at) 5 = .ok (.ifCond .lt 12, 3) := by decide +kernel
theorem d_Pl_at_8 : decode (zb m_Pl_at) 8 = .ok (.iload_n 1, 1) := by decide +kernel
theorem d_Pl_at_9 : decode (zb m_Pl_at) 9 = .ok (.iconst 5, 1) := by decide +kernel
theorem d_Pl_at_10 : decode (zb m_Pl_at) 10 = .ok (.if_icmp .ge 7, 3) := by decide +kernel
theorem d_Pl_at_13 : decode (zb m_Pl_at) 13 = .ok (.iload_n 1, 1) := by decide +kernel
theorem d_Pl_at_14 : decode (zb m_Pl_at) 14 = .ok (.goto 4, 3) := by decide +kernel
theorem d_Pl_at_17 : decode (zb m_Pl_at) 17 = .ok (.iconst 0, 1) := by decide +kernel
theorem d_Pl_at_18 : decode (zb m_Pl_at) 18 = .ok (.aaload, 1) := by decide +kernel
theorem d_Pl_at_19 : decode (zb m_Pl_at) 19 = .ok (.areturn, 1) := by decide +kernel
theorem d_Pl_next_0 : decode (zb m_Pl_next) 0 = .ok (.aload_n 0, 1) := by decide +kernel
theorem d_Pl_next_1 : decode (zb m_Pl_next) 1 = .ok (.aload_n 0, 1) := by decide +kernel
theorem d_Pl_next_2 : decode (zb m_Pl_next) 2 = .ok (.getfield 18, 3) := by decide +kernel
theorem d_Pl_next_5 : decode (zb m_Pl_next) 5 = .ok (.invokevirtual 22, 3) := by decide +kernel
theorem d_Pl_next_8 : decode (zb m_Pl_next) 8 = .ok (.astore_n 1, 1) := by decide +kernel
theorem d_Pl_next_9 : decode (zb m_Pl_next) 9 = .ok (.aload_n 0, 1) := by decide +kernel
theorem d_Pl_next_10 : decode (zb m_Pl_next) 10 = .ok (.getfield 18, 3) := by decide +kernel
theorem d_Pl_next_13 : decode (zb m_Pl_next) 13 = .ok (.iconst 5, 1) := by decide +kernel
theorem d_Pl_next_14 : decode (zb m_Pl_next) 14 = .ok (.if_icmp .ge 13, 3) := by decide +kernel
theorem d_Pl_next_17 : decode (zb m_Pl_next) 17 = .ok (.aload_n 0, 1) := by decide +kernel
theorem d_Pl_next_18 : decode (zb m_Pl_next) 18 = .ok (.dup, 1) := by decide +kernel
theorem d_Pl_next_19 : decode (zb m_Pl_next) 19 = .ok (.getfield 18, 3) := by decide +kernel
theorem d_Pl_next_22 : decode (zb m_Pl_next) 22 = .ok (.iconst 1, 1) := by decide +kernel
theorem d_Pl_next_23 : decode (zb m_Pl_next) 23 = .ok (.iadd, 1) := by decide +kernel
theorem d_Pl_next_24 : decode (zb m_Pl_next) 24 = .ok (.putfield 18, 3) := by decide +kernel
theorem d_Pl_next_27 : decode (zb m_Pl_next) 27 = .ok (.aload_n 1, 1) := by decide +kernel
theorem d_Pl_next_28 : decode (zb m_Pl_next) 28 = .ok (.areturn, 1) := by decide +kernel
theorem d_Pl_price_0 : decode (zb m_Pl_price) 0 = .ok (.iconst 0, 1) := by decide +kernel
theorem d_Pl_price_1 : decode (zb m_Pl_price) 1 = .ok (.istore_n 1, 1) := by decide +kernel
theorem d_Pl_price_2 : decode (zb m_Pl_price) 2 = .ok (.iconst 0, 1) := by decide +kernel
theorem d_Pl_price_3 : decode (zb m_Pl_price) 3 = .ok (.istore_n 2, 1) := by decide +kernel
theorem d_Pl_price_4 : decode (zb m_Pl_price) 4 = .ok (.iload_n 2, 1) := by decide +kernel
theorem d_Pl_price_5 : decode (zb m_Pl_price) 5 = .ok (.aload_n 0, 1) := by decide +kernel
theorem d_Pl_price_6 : decode (zb m_Pl_price) 6 = .ok (.getfield 18, 3) := by decide +kernel
theorem d_Pl_price_9 : decode (zb m_Pl_price) 9 = .ok (.if_icmp .ge 20, 3) := by decide +kernel
theorem d_Pl_price_12 : decode (zb m_Pl_price) 12 = .ok (.iload_n 1, 1) := by decide +kernel
theorem d_Pl_price_13 : decode (zb m_Pl_price) 13 = .ok (.aload_n 0, 1) := by decide +kernel
theorem d_Pl_price_14 : decode (zb m_Pl_price) 14 = .ok (.iload_n 2, 1) := by decide +kernel
theorem d_Pl_price_15 : decode (zb m_Pl_price) 15 = .ok (.invokevirtual 22, 3) := by decide +kernel
theorem d_Pl_price_18 : decode (zb m_Pl_price) 18 = .ok (.invokevirtual 26, 3) := by decide +kernel
theorem d_Pl_price_21 : decode (zb m_Pl_price) 21 = .ok (.iadd, 1) := by decide +kernel
theorem d_Pl_price_22 : decode (zb m_Pl_price) 22 = .ok (.istore_n 1, 1) := by decide +kernel
theorem d_Pl_price_23 : decode (zb m_Pl_price) 23 = .ok (.iinc 2 1, 3) := by decide +kernel
theorem d_Pl_price_26 : decode (zb m_Pl_price) 26 = .ok (.goto (-22), 3) := by decide +kernel
theorem d_Pl_price_29 : decode (zb m_Pl_price) 29 = .ok (.iload_n 1, 1) := by decide +kernel
theorem d_Pl_price_30 : decode (zb m_Pl_price) 30 = .ok (.ireturn, 1) := by decide +kernel
theorem d_Pl_applyTo_0 : decode (zb m_Pl_applyTo) 0 = .ok (.aload_n 2, 1) := by decide +kernel
theorem d_Pl_applyTo_1 : decode (zb m_Pl_applyTo) 1 = .ok (.invokevirtual 30, 3) := by decide +kernel
theorem d_Pl_applyTo_4 : decode (zb m_Pl_applyTo) 4 = .ok (.iconst 0, 1) := by decide +kernel
theorem d_Pl_applyTo_5 : decode (zb m_Pl_applyTo) 5 = .ok (.istore_n 3, 1) := by decide +kernel
theorem d_Pl_applyTo_6 : decode (zb m_Pl_applyTo) 6 = .ok (.iload_n 3, 1) := by decide +kernel
theorem d_Pl_applyTo_7 : decode (zb m_Pl_applyTo) 7 = .ok (.aload_n 0, 1) := by decide +kernel
theorem d_Pl_applyTo_8 : decode (zb m_Pl_applyTo) 8 = .ok (.getfield 18, 3) := by decide +kernel
theorem d_Pl_applyTo_11 : decode (zb m_Pl_applyTo) 11 = .ok (.if_icmp .ge 27, 3) := by decide +kernel
theorem d_Pl_applyTo_14 : decode (zb m_Pl_applyTo) 14 = .ok (.aload_n 0, 1) := by decide +kernel
theorem d_Pl_applyTo_15 : decode (zb m_Pl_applyTo) 15 = .ok (.iload_n 3, 1) := by decide +kernel
theorem d_Pl_applyTo_16 : decode (zb m_Pl_applyTo) 16 = .ok (.invokevirtual 22, 3) := by decide +kernel
theorem d_Pl_applyTo_19 : decode (zb m_Pl_applyTo) 19 = .ok (.aload_n 2, 1) := by decide +kernel
theorem d_Pl_applyTo_20 : decode (zb m_Pl_applyTo) 20 = .ok (.aload_n 1, 1) := by decide +kernel
theorem d_Pl_applyTo_21 : decode (zb m_Pl_applyTo) 21 = .ok (.invokevirtual 35, 3) := by decide +kernel
theorem d_Pl_applyTo_24 : decode (zb m_Pl_applyTo) 24 = .ok (.ifCond .ne 8, 3) := by decide +kernel
theorem d_Pl_applyTo_27 : decode (zb m_Pl_applyTo) 27 = .ok (.aload_n 2, 1) := by decide +kernel
theorem d_Pl_applyTo_28 : decode (zb m_Pl_applyTo) 28 = .ok (.invokevirtual 30, 3) := by decide +kernel
theorem d_Pl_applyTo_31 : decode (zb m_Pl_applyTo) 31 = .ok (.return_, 1) := by decide +kernel
theorem d_Pl_applyTo_32 : decode (zb m_Pl_applyTo) 32 = .ok (.iinc 3 1, 3) := by decide +kernel
theorem d_Pl_applyTo_35 : decode (zb m_Pl_applyTo) 35 = .ok (.goto (-29), 3) := by decide +kernel
theorem d_Pl_applyTo_38 : decode (zb m_Pl_applyTo) 38 = .ok (.return_, 1) := by decide +kernel
theorem d_Rw_init_0 : decode (zb m_Rw_init) 0 = .ok (.aload_n 0, 1) := by decide +kernel
theorem d_Rw_init_1 : decode (zb m_Rw_init) 1 = .ok (.invokespecial 3, 3) := by decide +kernel
theorem d_Rw_init_4 : decode (zb m_Rw_init) 4 = .ok (.aload_n 0, 1) := by decide +kernel
theorem d_Rw_init_5 : decode (zb m_Rw_init) 5 = .ok (.new 9, 3) := by decide +kernel
theorem d_Rw_init_8 : decode (zb m_Rw_init) 8 = .ok (.dup, 1) := by decide +kernel
theorem d_Rw_init_9 : decode (zb m_Rw_init) 9 = .ok (.iconst 5, 1) := by decide +kernel
theorem d_Rw_init_10 : decode (zb m_Rw_init) 10 = .ok (.invokespecial 11, 3) := by decide +kernel
theorem d_Rw_init_13 : decode (zb m_Rw_init) 13 = .ok (.putfield 14, 3) := by decide +kernel
theorem d_Rw_init_16 : decode (zb m_Rw_init) 16 = .ok (.aload_n 0, 1) := by decide +kernel
theorem d_Rw_init_17 : decode (zb m_Rw_init) 17 = .ok (.bipush 62, 2) := by decide +kernel
theorem d_Rw_init_19 : decode (zb m_Rw_init) 19 = .ok (.newarray .int, 2) := by decide +kernel
theorem d_Rw_init_21 : decode (zb m_Rw_init) 21 = .ok (.putfield 22, 3) := by decide +kernel
theorem d_Rw_init_24 : decode (zb m_Rw_init) 24 = .ok (.aload_n 0, 1) := by decide +kernel
theorem d_Rw_init_25 : decode (zb m_Rw_init) 25 = .ok (.bipush 13, 2) := by decide +kernel
theorem d_Rw_init_27 : decode (zb m_Rw_init) 27 = .ok (.bipush 6, 2) := by decide +kernel
theorem d_Rw_init_29 : decode (zb m_Rw_init) 29 = .ok (.multianewarray 26 2, 4) := by decide +kernel
theorem d_Rw_init_33 : decode (zb m_Rw_init) 33 = .ok (.putfield 28, 3) := by decide +kernel
theorem d_Rw_init_36 : decode (zb m_Rw_init) 36 = .ok (.return_, 1) := by decide +kernel
theorem d_Rw_become_0 : decode (zb m_Rw_become) 0 = .ok (.aload_n 0, 1) := by decide +kernel
theorem d_Rw_become_1 : decode (zb m_Rw_become) 1 = .ok (.getfield 14, 3) := by decide +kernel
theorem d_Rw_become_4 : decode (zb m_Rw_become) 4 = .ok (.aload_n 2, 1) := by decide +kernel
theorem d_Rw_become_5 : decode (zb m_Rw_become) 5 = .ok (.invokevirtual 31, 3) := by decide +kernel
theorem d_Rw_become_8 : decode (zb m_Rw_become) 8 = .ok (.iconst 0, 1) := by decide +kernel
theorem d_Rw_become_9 : decode (zb m_Rw_become) 9 = .ok (.istore_n 3, 1) := by decide +kernel
theorem d_Rw_become_10 : decode (zb m_Rw_become) 10 = .ok (.iload_n 3, 1) := by decide +kernel
theorem d_Rw_become_11 : decode (zb m_Rw_become) 11 = .ok (.bipush 62, 2) := by decide +kernel
theorem d_Rw_become_13 : decode (zb m_Rw_become) 13 = .ok (.if_icmp .ge 20, 3) := by decide +kernel
theorem d_Rw_become_16 : decode (zb m_Rw_become) 16 = .ok (.aload_n 0, 1) := by decide +kernel
theorem d_Rw_become_17 : decode (zb m_Rw_become) 17 = .ok (.getfield 22, 3) := by decide +kernel
theorem d_Rw_become_20 : decode (zb m_Rw_become) 20 = .ok (.iload_n 3, 1) := by decide +kernel
theorem d_Rw_become_21 : decode (zb m_Rw_become) 21 = .ok (.aload_n 1, 1) := by decide +kernel
theorem d_Rw_become_22 : decode (zb m_Rw_become) 22 = .ok (.iload_n 3, 1) := by decide +kernel
theorem d_Rw_become_23 : decode (zb m_Rw_become) 23 = .ok (.invokestatic 35, 3) := by decide +kernel
theorem d_Rw_become_26 : decode (zb m_Rw_become) 26 = .ok (.iastore, 1) := by decide +kernel
theorem d_Rw_become_27 : decode (zb m_Rw_become) 27 = .ok (.iinc 3 1, 3) := by decide +kernel
theorem d_Rw_become_30 : decode (zb m_Rw_become) 30 = .ok (.goto (-20), 3) := by decide +kernel
theorem d_Rw_become_33 : decode (zb m_Rw_become) 33 = .ok (.bipush 12, 2) := by decide +kernel
theorem d_Rw_become_35 : decode (zb m_Rw_become) 35 = .ok (.istore_n 3, 1) := by decide +kernel
theorem d_Rw_become_36 : decode (zb m_Rw_become) 36 = .ok (.iload_n 3, 1) := by decide +kernel
theorem d_Rw_become_37 : decode (zb m_Rw_become) 37 = .ok (.ifCond .lt 40, 3) := by decide +kernel
theorem d_Rw_become_40 : decode (zb m_Rw_become) 40 = .ok (.iconst 5, 1) := by decide +kernel
theorem d_Rw_become_41 : decode (zb m_Rw_become) 41 = .ok (.istore 4, 2) := by decide +kernel
theorem d_Rw_become_43 : decode (zb m_Rw_become) 43 = .ok (.iload 4, 2) := by decide +kernel
theorem d_Rw_become_45 : decode (zb m_Rw_become) 45 = .ok (.ifCond .lt 26, 3) := by decide +kernel
theorem d_Rw_become_48 : decode (zb m_Rw_become) 48 = .ok (.aload_n 0, 1) := by decide +kernel
theorem d_Rw_become_49 : decode (zb m_Rw_become) 49 = .ok (.getfield 28, 3) := by decide +kernel
theorem d_Rw_become_52 : decode (zb m_Rw_become) 52 = .ok (.iload_n 3, 1) := by decide +kernel
theorem d_Rw_become_53 : decode (zb m_Rw_become) 53 = .ok (.aaload, 1) := by decide +kernel
theorem d_Rw_become_54 : decode (zb m_Rw_become) 54 = .ok (.iload 4, 2) := by decide +kernel
theorem d_Rw_become_56 : decode (zb m_Rw_become) 56 = .ok (.aload_n 0, 1) := by decide +kernel
theorem d_Rw_become_57 : decode (zb m_Rw_become) 57 = .ok (.aload_n 1, 1) := by decide +kernel
theorem d_Rw_become_58 : decode (zb m_Rw_become) 58 = .ok (.iload_n 3, 1) := by decide +kernel
theorem d_Rw_become_59 : decode (zb m_Rw_become) 59 = .ok (.iload 4, 2) := by decide +kernel
theorem d_Rw_become_61 : decode (zb m_Rw_become) 61 = .ok (.invokevirtual 39, 3) := by decide +kernel
theorem d_Rw_become_64 : decode (zb m_Rw_become) 64 = .ok (.iastore, 1) := by decide +kernel
theorem d_Rw_become_65 : decode (zb m_Rw_become) 65 = .ok (.iinc 4 (-1), 3) := by decide +kernel
theorem d_Rw_become_68 : decode (zb m_Rw_become) 68 = .ok (.goto (-25), 3) := by decide +kernel
theorem d_Rw_become_71 : decode (zb m_Rw_become) 71 = .ok (.iinc 3 (-1), 3) := by decide +kernel
theorem d_Rw_become_74 : decode (zb m_Rw_become) 74 = .ok (.goto (-38), 3) := by decide +kernel
theorem d_Rw_become_77 : decode (zb m_Rw_become) 77 = .ok (.return_, 1) := by decide +kernel
theorem d_Rw_countAlike_0 : decode (zb m_Rw_countAlike) 0 = .ok (.iload_n 2, 1) := by decide +kernel
theorem d_Rw_countAlike_1 : decode (zb m_Rw_countAlike) 1 = .ok (.bipush 12, 2) := by decide +kernel
theorem d_Rw_countAlike_3 : decode (zb m_Rw_countAlike) 3 = .ok (.if_icmp .ge 8, 3) := by decide +kernel
theorem d_Rw_countAlike_6 : decode (zb m_Rw_countAlike) 6 = .ok (.iload_n 3, 1) := by decide +kernel
theorem d_Rw_countAlike_7 : decode (zb m_Rw_countAlike) 7 = .ok (.iconst 5, 1) := by decide +kernel
theorem d_Rw_countAlike_8 : decode (zb m_Rw_countAlike) 8 = .ok (.if_icmp .lt 5, 3) := by decide +kernel
theorem d_Rw_countAlike_11 : decode (zb m_Rw_countAlike) 11 = .ok (.iconst 0, 1) := by decide +kernel
theorem d_Rw_countAlike_12 : decode (zb m_Rw_countAlike) 12 = .ok (.ireturn, 1) := by decide +kernel
theorem d_Rw_countAlike_13 : decode (zb m_Rw_countAlike) 13 = .ok (.iload_n 2, 1) := by decide +kernel
theorem d_Rw_countAlike_14 : decode (zb m_Rw_countAlike) 14 = .ok (.aload_n 1, 1) := by decide +kernel
theorem d_Rw_countAlike_15 : decode (zb m_Rw_countAlike) 15 = .ok (.invokevirtual 43, 3) := by decide +kernel
theorem d_Rw_countAlike_18 : decode (zb m_Rw_countAlike) 18 = .ok (.if_icmp .ge 30, 3) := by decide +kernel
theorem d_Rw_countAlike_21 : decode (zb m_Rw_countAlike) 21 = .ok (.iload_n 3, 1) := by decide +kernel
theorem d_Rw_countAlike_22 : decode (zb m_Rw_countAlike) 22 = .ok (.aload_n 0, 1) := by decide +kernel
theorem d_Rw_countAlike_23 : decode (zb m_Rw_countAlike) 23 = .ok (.getfield 14, 3) := by decide +kernel
theorem d_Rw_countAlike_26 : decode (zb m_Rw_countAlike) 26 = .ok (.invokevirtual 43, 3) := by decide +kernel
theorem d_Rw_countAlike_29 : decode (zb m_Rw_countAlike) 29 = .ok (.if_icmp .ge 19, 3) := by decide +kernel
theorem d_Rw_countAlike_32 : decode (zb m_Rw_countAlike) 32 = .ok (.aload_n 1, 1) := by decide +kernel
theorem d_Rw_countAlike_33 : decode (zb m_Rw_countAlike) 33 = .ok (.iload_n 2, 1) := by decide +kernel
theorem d_Rw_countAlike_34 : decode (zb m_Rw_countAlike) 34 = .ok (.invokevirtual 47, 3) := by decide +kernel
theorem d_Rw_countAlike_37 : decode (zb m_Rw_countAlike) 37 = .ok (.aload_n 0, 1) := by decide +kernel
theorem d_Rw_countAlike_38 : decode (zb m_Rw_countAlike) 38 = .ok (.getfield 14, 3) := by decide +kernel
theorem d_Rw_countAlike_41 : decode (zb m_Rw_countAlike) 41 = .ok (.iload_n 3, 1) := by decide +kernel
theorem d_Rw_countAlike_42 : decode (zb m_Rw_countAlike) 42 = .ok (.invokevirtual 47, 3) := by decide +kernel
theorem d_Rw_countAlike_45 : decode (zb m_Rw_countAlike) 45 = .ok (.if_icmp .eq 5, 3) := by decide +kernel
theorem d_Rw_countAlike_48 : decode (zb m_Rw_countAlike) 48 = .ok (.iconst 0, 1) := by decide +kernel
theorem d_Rw_countAlike_49 : decode (zb m_Rw_countAlike) 49 = .ok (.ireturn, 1) := by decide +kernel
theorem d_Rw_countAlike_50 : decode (zb m_Rw_countAlike) 50 = .ok (.aload_n 0, 1) := by decide +kernel
theorem d_Rw_countAlike_51 : decode (zb m_Rw_countAlike) 51 = .ok (.getfield 28, 3) := by decide +kernel
theorem d_Rw_countAlike_54 : decode (zb m_Rw_countAlike) 54 = .ok (.iload_n 2, 1) := by decide +kernel
theorem d_Rw_countAlike_55 : decode (zb m_Rw_countAlike) 55 = .ok (.iconst 1, 1) := by decide +kernel
theorem d_Rw_countAlike_56 : decode (zb m_Rw_countAlike) 56 = .ok (.iadd, 1) := by decide +kernel
theorem d_Rw_countAlike_57 : decode (zb m_Rw_countAlike) 57 = .ok (.aaload, 1) := by decide +kernel
theorem d_Rw_countAlike_58 : decode (zb m_Rw_countAlike) 58 = .ok (.iload_n 3, 1) := by decide +kernel
theorem d_Rw_countAlike_59 : decode (zb m_Rw_countAlike) 59 = .ok (.iconst 1, 1) := by decide +kernel
theorem d_Rw_countAlike_60 : decode (zb m_Rw_countAlike) 60 = .ok (.iadd, 1) := by decide +kernel
theorem d_Rw_countAlike_61 : decode (zb m_Rw_countAlike) 61 = .ok (.iaload, 1) := by decide +kernel
theorem d_Rw_countAlike_62 : decode (zb m_Rw_countAlike) 62 = .ok (.iconst 1, 1) := by decide +kernel
theorem d_Rw_countAlike_63 : decode (zb m_Rw_countAlike) 63 = .ok (.iadd, 1) := by decide +kernel
theorem d_Rw_countAlike_64 : decode (zb m_Rw_countAlike) 64 = .ok (.ireturn, 1) := by decide +kernel
theorem d_Rw_result_0 : decode (zb m_Rw_result) 0 = .ok (.aload_n 0, 1) := by decide +kernel
theorem d_Rw_result_1 : decode (zb m_Rw_result) 1 = .ok (.getfield 14, 3) := by decide +kernel
theorem d_Rw_result_4 : decode (zb m_Rw_result) 4 = .ok (.areturn, 1) := by decide +kernel
theorem d_Rw_placeOf_0 : decode (zb m_Rw_placeOf) 0 = .ok (.iload_n 1, 1) := by decide +kernel
theorem d_Rw_placeOf_1 : decode (zb m_Rw_placeOf) 1 = .ok (.ifCond .lt 18, 3) := by decide +kernel
theorem d_Rw_placeOf_4 : decode (zb m_Rw_placeOf) 4 = .ok (.iload_n 1, 1) := by decide +kernel
theorem d_Rw_placeOf_5 : decode (zb m_Rw_placeOf) 5 = .ok (.bipush 62, 2) := by decide +kernel
theorem d_Rw_placeOf_7 : decode (zb m_Rw_placeOf) 7 = .ok (.if_icmp .ge 12, 3) := by decide +kernel
theorem d_Rw_placeOf_10 : decode (zb m_Rw_placeOf) 10 = .ok (.aload_n 0, 1) := by decide +kernel
theorem d_Rw_placeOf_11 : decode (zb m_Rw_placeOf) 11 = .ok (.getfield 22, 3) := by decide +kernel
theorem d_Rw_placeOf_14 : decode (zb m_Rw_placeOf) 14 = .ok (.iload_n 1, 1) := by decide +kernel
theorem d_Rw_placeOf_15 : decode (zb m_Rw_placeOf) 15 = .ok (.iaload, 1) := by decide +kernel
theorem d_Rw_placeOf_16 : decode (zb m_Rw_placeOf) 16 = .ok (.goto 5, 3) := by decide +kernel
theorem d_Rw_placeOf_19 : decode (zb m_Rw_placeOf) 19 = .ok (.bipush (-6), 2) := by decide +kernel
theorem d_Rw_placeOf_21 : decode (zb m_Rw_placeOf) 21 = .ok (.ireturn, 1) := by decide +kernel
theorem d_Rw_longestFrom_0 : decode (zb m_Rw_longestFrom) 0 = .ok (.iload_n 1, 1) := by decide +kernel
theorem d_Rw_longestFrom_1 : decode (zb m_Rw_longestFrom) 1 = .ok (.ifCond .lt 18, 3) := by decide +kernel
theorem d_Rw_longestFrom_4 : decode (zb m_Rw_longestFrom) 4 = .ok (.iload_n 1, 1) := by decide +kernel
theorem d_Rw_longestFrom_5 : decode (zb m_Rw_longestFrom) 5 = .ok (.bipush 12, 2) := by decide +kernel
theorem d_Rw_longestFrom_7 : decode (zb m_Rw_longestFrom) 7 = .ok (.if_icmp .gt 12, 3) := by decide +kernel
theorem d_Rw_longestFrom_10 : decode (zb m_Rw_longestFrom) 10 = .ok (.iload_n 2, 1) := by decide +kernel
theorem d_Rw_longestFrom_11 : decode (zb m_Rw_longestFrom) 11 = .ok (.ifCond .lt 8, 3) := by decide +kernel
theorem d_Rw_longestFrom_14 : decode (zb m_Rw_longestFrom) 14 = .ok (.iload_n 2, 1) := by decide +kernel
theorem d_Rw_longestFrom_15 : decode (zb m_Rw_longestFrom) 15 = .ok (.iconst 5, 1) := by decide +kernel
theorem d_Rw_longestFrom_16 : decode (zb m_Rw_longestFrom) 16 = .ok (.if_icmp .le 5, 3) := by decide +kernel
theorem d_Rw_longestFrom_19 : decode (zb m_Rw_longestFrom) 19 = .ok (.iconst 0, 1) := by decide +kernel
theorem d_Rw_longestFrom_20 : decode (zb m_Rw_longestFrom) 20 = .ok (.ireturn, 1) := by decide +kernel
theorem d_Rw_longestFrom_21 : decode (zb m_Rw_longestFrom) 21 = .ok (.aload_n 0, 1) := by decide +kernel
theorem d_Rw_longestFrom_22 : decode (zb m_Rw_longestFrom) 22 = .ok (.getfield 28, 3) := by decide +kernel
theorem d_Rw_longestFrom_25 : decode (zb m_Rw_longestFrom) 25 = .ok (.iload_n 1, 1) := by decide +kernel
theorem d_Rw_longestFrom_26 : decode (zb m_Rw_longestFrom) 26 = .ok (.aaload, 1) := by decide +kernel
theorem d_Rw_longestFrom_27 : decode (zb m_Rw_longestFrom) 27 = .ok (.iload_n 2, 1) := by decide +kernel
theorem d_Rw_longestFrom_28 : decode (zb m_Rw_longestFrom) 28 = .ok (.iaload, 1) := by decide +kernel
theorem d_Rw_longestFrom_29 : decode (zb m_Rw_longestFrom) 29 = .ok (.ireturn, 1) := by decide +kernel
theorem d_Rw_cutLength_0 : decode (zb m_Rw_cutLength) 0 = .ok (.aload_n 0, 1) := by decide +kernel
theorem d_Rw_cutLength_1 : decode (zb m_Rw_cutLength) 1 = .ok (.iload_n 1, 1) := by decide +kernel
theorem d_Rw_cutLength_2 : decode (zb m_Rw_cutLength) 2 = .ok (.invokevirtual 51, 3) := by decide +kernel
theorem d_Rw_cutLength_5 : decode (zb m_Rw_cutLength) 5 = .ok (.istore 4, 2) := by decide +kernel
theorem d_Rw_cutLength_7 : decode (zb m_Rw_cutLength) 7 = .ok (.aload_n 0, 1) := by decide +kernel
theorem d_Rw_cutLength_8 : decode (zb m_Rw_cutLength) 8 = .ok (.iload_n 2, 1) := by decide +kernel
theorem d_Rw_cutLength_9 : decode (zb m_Rw_cutLength) 9 = .ok (.invokevirtual 51, 3) := by decide +kernel
theorem d_Rw_cutLength_12 : decode (zb m_Rw_cutLength) 12 = .ok (.iload 4, 2) := by decide +kernel
theorem d_Rw_cutLength_14 : decode (zb m_Rw_cutLength) 14 = .ok (.isub, 1) := by decide +kernel
theorem d_Rw_cutLength_15 : decode (zb m_Rw_cutLength) 15 = .ok (.istore 5, 2) := by decide +kernel
theorem d_Rw_cutLength_17 : decode (zb m_Rw_cutLength) 17 = .ok (.iload 5, 2) := by decide +kernel
theorem d_Rw_cutLength_19 : decode (zb m_Rw_cutLength) 19 = .ok (.ifCond .le 20, 3) := by decide +kernel
theorem d_Rw_cutLength_22 : decode (zb m_Rw_cutLength) 22 = .ok (.iload 5, 2) := by decide +kernel
theorem d_Rw_cutLength_24 : decode (zb m_Rw_cutLength) 24 = .ok (.aload_n 0, 1) := by decide +kernel
theorem d_Rw_cutLength_25 : decode (zb m_Rw_cutLength) 25 = .ok (.iload 4, 2) := by decide +kernel
theorem d_Rw_cutLength_27 : decode (zb m_Rw_cutLength) 27 = .ok (.iload_n 3, 1) := by decide +kernel
theorem d_Rw_cutLength_28 : decode (zb m_Rw_cutLength) 28 = .ok (.invokevirtual 54, 3) := by decide +kernel
theorem d_Rw_cutLength_31 : decode (zb m_Rw_cutLength) 31 = .ok (.if_icmp .gt 8, 3) := by decide +kernel
theorem d_Rw_cutLength_34 : decode (zb m_Rw_cutLength) 34 = .ok (.iload 5, 2) := by decide +kernel
theorem d_Rw_cutLength_36 : decode (zb m_Rw_cutLength) 36 = .ok (.goto 4, 3) := by decide +kernel
theorem d_Rw_cutLength_39 : decode (zb m_Rw_cutLength) 39 = .ok (.iconst 0, 1) := by decide +kernel
theorem d_Rw_cutLength_40 : decode (zb m_Rw_cutLength) 40 = .ok (.ireturn, 1) := by decide +kernel
theorem d_Sg_init_0 : decode (zb m_Sg_init) 0 = .ok (.aload_n 0, 1) := by decide +kernel
theorem d_Sg_init_1 : decode (zb m_Sg_init) 1 = .ok (.invokespecial 3, 3) := by decide +kernel
theorem d_Sg_init_4 : decode (zb m_Sg_init) 4 = .ok (.iload_n 1, 1) := by decide +kernel
theorem d_Sg_init_5 : decode (zb m_Sg_init) 5 = .ok (.iconst 0, 1) := by decide +kernel
theorem d_Sg_init_6 : decode (zb m_Sg_init) 6 = .ok (.invokestatic 9, 3) := by decide +kernel
theorem d_Sg_init_9 : decode (zb m_Sg_init) 9 = .ok (.istore_n 2, 1) := by decide +kernel
theorem d_Sg_init_10 : decode (zb m_Sg_init) 10 = .ok (.aload_n 0, 1) := by decide +kernel
theorem d_Sg_init_11 : decode (zb m_Sg_init) 11 = .ok (.iload_n 2, 1) := by decide +kernel
theorem d_Sg_init_12 : decode (zb m_Sg_init) 12 = .ok (.newarray .int, 2) := by decide +kernel
theorem d_Sg_init_14 : decode (zb m_Sg_init) 14 = .ok (.putfield 15, 3) := by decide +kernel
theorem d_Sg_init_17 : decode (zb m_Sg_init) 17 = .ok (.aload_n 0, 1) := by decide +kernel
theorem d_Sg_init_18 : decode (zb m_Sg_init) 18 = .ok (.iload_n 2, 1) := by decide +kernel
theorem d_Sg_init_19 : decode (zb m_Sg_init) 19 = .ok (.newarray .int, 2) := by decide +kernel
theorem d_Sg_init_21 : decode (zb m_Sg_init) 21 = .ok (.putfield 21, 3) := by decide +kernel
theorem d_Sg_init_24 : decode (zb m_Sg_init) 24 = .ok (.return_, 1) := by decide +kernel
theorem d_Sg_many_0 : decode (zb m_Sg_many) 0 = .ok (.aload_n 0, 1) := by decide +kernel
theorem d_Sg_many_1 : decode (zb m_Sg_many) 1 = .ok (.getfield 24, 3) := by decide +kernel
theorem d_Sg_many_4 : decode (zb m_Sg_many) 4 = .ok (.ireturn, 1) := by decide +kernel
theorem d_Sg_clear_0 : decode (zb m_Sg_clear) 0 = .ok (.aload_n 0, 1) := by decide +kernel
theorem d_Sg_clear_1 : decode (zb m_Sg_clear) 1 = .ok (.iconst 0, 1) := by decide +kernel
theorem d_Sg_clear_2 : decode (zb m_Sg_clear) 2 = .ok (.putfield 24, 3) := by decide +kernel
theorem d_Sg_clear_5 : decode (zb m_Sg_clear) 5 = .ok (.return_, 1) := by decide +kernel
theorem d_Sg_add_0 : decode (zb m_Sg_add) 0 = .ok (.aload_n 0, 1) := by decide +kernel
theorem d_Sg_add_1 : decode (zb m_Sg_add) 1 = .ok (.getfield 24, 3) := by decide +kernel
theorem d_Sg_add_4 : decode (zb m_Sg_add) 4 = .ok (.aload_n 0, 1) := by decide +kernel
theorem d_Sg_add_5 : decode (zb m_Sg_add) 5 = .ok (.getfield 15, 3) := by decide +kernel
theorem d_Sg_add_8 : decode (zb m_Sg_add) 8 = .ok (.arraylength, 1) := by decide +kernel
theorem d_Sg_add_9 : decode (zb m_Sg_add) 9 = .ok (.if_icmp .ge 15, 3) := by decide +kernel
theorem d_Sg_add_12 : decode (zb m_Sg_add) 12 = .ok (.aload_n 0, 1) := by decide +kernel
theorem d_Sg_add_13 : decode (zb m_Sg_add) 13 = .ok (.getfield 24, 3) := by decide +kernel
theorem d_Sg_add_16 : decode (zb m_Sg_add) 16 = .ok (.aload_n 0, 1) := by decide +kernel
theorem d_Sg_add_17 : decode (zb m_Sg_add) 17 = .ok (.getfield 21, 3) := by decide +kernel
theorem d_Sg_add_20 : decode (zb m_Sg_add) 20 = .ok (.arraylength, 1) := by decide +kernel
theorem d_Sg_add_21 : decode (zb m_Sg_add) 21 = .ok (.if_icmp .lt 5, 3) := by decide +kernel
theorem d_Sg_add_24 : decode (zb m_Sg_add) 24 = .ok (.iconst 0, 1) := by decide +kernel
theorem d_Sg_add_25 : decode (zb m_Sg_add) 25 = .ok (.ireturn, 1) := by decide +kernel
theorem d_Sg_add_26 : decode (zb m_Sg_add) 26 = .ok (.aload_n 0, 1) := by decide +kernel
theorem d_Sg_add_27 : decode (zb m_Sg_add) 27 = .ok (.getfield 15, 3) := by decide +kernel
theorem d_Sg_add_30 : decode (zb m_Sg_add) 30 = .ok (.aload_n 0, 1) := by decide +kernel
theorem d_Sg_add_31 : decode (zb m_Sg_add) 31 = .ok (.getfield 24, 3) := by decide +kernel
theorem d_Sg_add_34 : decode (zb m_Sg_add) 34 = .ok (.iload_n 1, 1) := by decide +kernel
theorem d_Sg_add_35 : decode (zb m_Sg_add) 35 = .ok (.iastore, 1) := by decide +kernel
theorem d_Sg_add_36 : decode (zb m_Sg_add) 36 = .ok (.aload_n 0, 1) := by decide +kernel
theorem d_Sg_add_37 : decode (zb m_Sg_add) 37 = .ok (.getfield 21, 3) := by decide +kernel
theorem d_Sg_add_40 : decode (zb m_Sg_add) 40 = .ok (.aload_n 0, 1) := by decide +kernel
theorem d_Sg_add_41 : decode (zb m_Sg_add) 41 = .ok (.getfield 24, 3) := by decide +kernel
theorem d_Sg_add_44 : decode (zb m_Sg_add) 44 = .ok (.iload_n 1, 1) := by decide +kernel
theorem d_Sg_add_45 : decode (zb m_Sg_add) 45 = .ok (.invokestatic 28, 3) := by decide +kernel
theorem d_Sg_add_48 : decode (zb m_Sg_add) 48 = .ok (.iastore, 1) := by decide +kernel
theorem d_Sg_add_49 : decode (zb m_Sg_add) 49 = .ok (.aload_n 0, 1) := by decide +kernel
theorem d_Sg_add_50 : decode (zb m_Sg_add) 50 = .ok (.dup, 1) := by decide +kernel
theorem d_Sg_add_51 : decode (zb m_Sg_add) 51 = .ok (.getfield 24, 3) := by decide +kernel
theorem d_Sg_add_54 : decode (zb m_Sg_add) 54 = .ok (.iconst 1, 1) := by decide +kernel
theorem d_Sg_add_55 : decode (zb m_Sg_add) 55 = .ok (.iadd, 1) := by decide +kernel
theorem d_Sg_add_56 : decode (zb m_Sg_add) 56 = .ok (.putfield 24, 3) := by decide +kernel
theorem d_Sg_add_59 : decode (zb m_Sg_add) 59 = .ok (.iconst 1, 1) := by decide +kernel
theorem d_Sg_add_60 : decode (zb m_Sg_add) 60 = .ok (.ireturn, 1) := by decide +kernel
theorem d_Sg_kindOf_0 : decode (zb m_Sg_kindOf) 0 = .ok (.iload_n 0, 1) := by decide +kernel
theorem d_Sg_kindOf_1 : decode (zb m_Sg_kindOf) 1 = .ok (.bipush 97, 2) := by decide +kernel
theorem d_Sg_kindOf_3 : decode (zb m_Sg_kindOf) 3 = .ok (.if_icmp .lt 11, 3) := by decide +kernel
theorem d_Sg_kindOf_6 : decode (zb m_Sg_kindOf) 6 = .ok (.iload_n 0, 1) := by decide +kernel
theorem d_Sg_kindOf_7 : decode (zb m_Sg_kindOf) 7 = .ok (.bipush 101, 2) := by decide +kernel
theorem d_Sg_kindOf_9 : decode (zb m_Sg_kindOf) 9 = .ok (.if_icmp .gt 5, 3) := by decide +kernel
theorem d_Sg_kindOf_12 : decode (zb m_Sg_kindOf) 12 = .ok (.iconst 0, 1) := by decide +kernel
theorem d_Sg_kindOf_13 : decode (zb m_Sg_kindOf) 13 = .ok (.ireturn, 1) := by decide +kernel
theorem d_Sg_kindOf_14 : decode (zb m_Sg_kindOf) 14 = .ok (.iload_n 0, 1) := by decide +kernel
theorem d_Sg_kindOf_15 : decode (zb m_Sg_kindOf) 15 = .ok (.bipush 48, 2) := by decide +kernel
theorem d_Sg_kindOf_17 : decode (zb m_Sg_kindOf) 17 = .ok (.if_icmp .lt 11, 3) := by decide +kernel
theorem d_Sg_kindOf_20 : decode (zb m_Sg_kindOf) 20 = .ok (.iload_n 0, 1) := by decide +kernel
theorem d_Sg_kindOf_21 : decode (zb m_Sg_kindOf) 21 = .ok (.bipush 52, 2) := by decide +kernel
theorem d_Sg_kindOf_23 : decode (zb m_Sg_kindOf) 23 = .ok (.if_icmp .gt 5, 3) := by decide +kernel
theorem d_Sg_kindOf_26 : decode (zb m_Sg_kindOf) 26 = .ok (.iconst 1, 1) := by decide +kernel
theorem d_Sg_kindOf_27 : decode (zb m_Sg_kindOf) 27 = .ok (.ireturn, 1) := by decide +kernel
theorem d_Sg_kindOf_28 : decode (zb m_Sg_kindOf) 28 = .ok (.iload_n 0, 1) := by decide +kernel
theorem d_Sg_kindOf_29 : decode (zb m_Sg_kindOf) 29 = .ok (.bipush 45, 2) := by decide +kernel
theorem d_Sg_kindOf_31 : decode (zb m_Sg_kindOf) 31 = .ok (.if_icmp .eq 9, 3) := by decide +kernel
theorem d_Sg_kindOf_34 : decode (zb m_Sg_kindOf) 34 = .ok (.iload_n 0, 1) := by decide +kernel
theorem d_Sg_kindOf_35 : decode (zb m_Sg_kindOf) 35 = .ok (.bipush 46, 2) := by decide +kernel
theorem d_Sg_kindOf_37 : decode (zb m_Sg_kindOf) 37 = .ok (.if_icmp .ne 7, 3) := by decide +kernel
theorem d_Sg_kindOf_40 : decode (zb m_Sg_kindOf) 40 = .ok (.iconst 2, 1) := by decide +kernel
theorem d_Sg_kindOf_41 : decode (zb m_Sg_kindOf) 41 = .ok (.goto 5, 3) := by decide +kernel
theorem d_Sg_kindOf_44 : decode (zb m_Sg_kindOf) 44 = .ok (.bipush (-6), 2) := by decide +kernel
theorem d_Sg_kindOf_46 : decode (zb m_Sg_kindOf) 46 = .ok (.ireturn, 1) := by decide +kernel
theorem d_Sg_at_0 : decode (zb m_Sg_at) 0 = .ok (.iload_n 1, 1) := by decide +kernel
theorem d_Sg_at_1 : decode (zb m_Sg_at) 1 = .ok (.ifCond .lt 20, 3) := by decide +kernel
theorem d_Sg_at_4 : decode (zb m_Sg_at) 4 = .ok (.iload_n 1, 1) := by decide +kernel
theorem d_Sg_at_5 : decode (zb m_Sg_at) 5 = .ok (.aload_n 0, 1) := by decide +kernel
theorem d_Sg_at_6 : decode (zb m_Sg_at) 6 = .ok (.getfield 24, 3) := by decide +kernel
theorem d_Sg_at_9 : decode (zb m_Sg_at) 9 = .ok (.if_icmp .ge 12, 3) := by decide +kernel
theorem d_Sg_at_12 : decode (zb m_Sg_at) 12 = .ok (.aload_n 0, 1) := by decide +kernel
theorem d_Sg_at_13 : decode (zb m_Sg_at) 13 = .ok (.getfield 15, 3) := by decide +kernel
theorem d_Sg_at_16 : decode (zb m_Sg_at) 16 = .ok (.iload_n 1, 1) := by decide +kernel
theorem d_Sg_at_17 : decode (zb m_Sg_at) 17 = .ok (.iaload, 1) := by decide +kernel
theorem d_Sg_at_18 : decode (zb m_Sg_at) 18 = .ok (.goto 4, 3) := by decide +kernel
theorem d_Sg_at_21 : decode (zb m_Sg_at) 21 = .ok (.iconst 0, 1) := by decide +kernel
theorem d_Sg_at_22 : decode (zb m_Sg_at) 22 = .ok (.ireturn, 1) := by decide +kernel
theorem d_Sg_kindAt_0 : decode (zb m_Sg_kindAt) 0 = .ok (.iload_n 1, 1) := by decide +kernel
theorem d_Sg_kindAt_1 : decode (zb m_Sg_kindAt) 1 = .ok (.ifCond .lt 20, 3) := by decide +kernel
theorem d_Sg_kindAt_4 : decode (zb m_Sg_kindAt) 4 = .ok (.iload_n 1, 1) := by decide +kernel
theorem d_Sg_kindAt_5 : decode (zb m_Sg_kindAt) 5 = .ok (.aload_n 0, 1) := by decide +kernel
theorem d_Sg_kindAt_6 : decode (zb m_Sg_kindAt) 6 = .ok (.getfield 24, 3) := by decide +kernel
theorem d_Sg_kindAt_9 : decode (zb m_Sg_kindAt) 9 = .ok (.if_icmp .ge 12, 3) := by decide +kernel
theorem d_Sg_kindAt_12 : decode (zb m_Sg_kindAt) 12 = .ok (.aload_n 0, 1) := by decide +kernel
theorem d_Sg_kindAt_13 : decode (zb m_Sg_kindAt) 13 = .ok (.getfield 21, 3) := by decide +kernel
theorem d_Sg_kindAt_16 : decode (zb m_Sg_kindAt) 16 = .ok (.iload_n 1, 1) := by decide +kernel
theorem d_Sg_kindAt_17 : decode (zb m_Sg_kindAt) 17 = .ok (.iaload, 1) := by decide +kernel
theorem d_Sg_kindAt_18 : decode (zb m_Sg_kindAt) 18 = .ok (.goto 5, 3) := by decide +kernel
theorem d_Sg_kindAt_21 : decode (zb m_Sg_kindAt) 21 = .ok (.bipush (-6), 2) := by decide +kernel
theorem d_Sg_kindAt_23 : decode (zb m_Sg_kindAt) 23 = .ok (.ireturn, 1) := by decide +kernel
theorem d_Sg_addFrom_0 : decode (zb m_Sg_addFrom) 0 = .ok (.iload_n 2, 1) := by decide +kernel
theorem d_Sg_addFrom_1 : decode (zb m_Sg_addFrom) 1 = .ok (.istore 4, 2) := by decide +kernel
theorem d_Sg_addFrom_3 : decode (zb m_Sg_addFrom) 3 = .ok (.iload 4, 2) := by decide +kernel
theorem d_Sg_addFrom_5 : decode (zb m_Sg_addFrom) 5 = .ok (.iload_n 3, 1) := by decide +kernel
theorem d_Sg_addFrom_6 : decode (zb m_Sg_addFrom) 6 = .ok (.if_icmp .ge 29, 3) := by decide +kernel
theorem d_Sg_addFrom_9 : decode (zb m_Sg_addFrom) 9 = .ok (.iload 4, 2) := by decide +kernel
theorem d_Sg_addFrom_11 : decode (zb m_Sg_addFrom) 11 = .ok (.aload_n 1, 1) := by decide +kernel
theorem d_Sg_addFrom_12 : decode (zb m_Sg_addFrom) 12 = .ok (.getfield 24, 3) := by decide +kernel
theorem d_Sg_addFrom_15 : decode (zb m_Sg_addFrom) 15 = .ok (.if_icmp .ge 20, 3) := by decide +kernel
theorem d_Sg_addFrom_18 : decode (zb m_Sg_addFrom) 18 = .ok (.aload_n 0, 1) := by decide +kernel
theorem d_Sg_addFrom_19 : decode (zb m_Sg_addFrom) 19 = .ok (.aload_n 1, 1) := by decide +kernel
theorem d_Sg_addFrom_20 : decode (zb m_Sg_addFrom) 20 = .ok (.iload 4, 2) := by decide +kernel
theorem d_Sg_addFrom_22 : decode (zb m_Sg_addFrom) 22 = .ok (.invokevirtual 32, 3) := by decide +kernel
theorem d_Sg_addFrom_25 : decode (zb m_Sg_addFrom) 25 = .ok (.invokevirtual 35, 3) := by decide +kernel
theorem d_Sg_addFrom_28 : decode (zb m_Sg_addFrom) 28 = .ok (.pop, 1) := by decide +kernel
theorem d_Sg_addFrom_29 : decode (zb m_Sg_addFrom) 29 = .ok (.iinc 4 1, 3) := by decide +kernel
theorem d_Sg_addFrom_32 : decode (zb m_Sg_addFrom) 32 = .ok (.goto (-29), 3) := by decide +kernel
theorem d_Sg_addFrom_35 : decode (zb m_Sg_addFrom) 35 = .ok (.return_, 1) := by decide +kernel
theorem d_Sg_copy_0 : decode (zb m_Sg_copy) 0 = .ok (.aload_n 0, 1) := by decide +kernel
theorem d_Sg_copy_1 : decode (zb m_Sg_copy) 1 = .ok (.invokevirtual 39, 3) := by decide +kernel
theorem d_Sg_copy_4 : decode (zb m_Sg_copy) 4 = .ok (.aload_n 0, 1) := by decide +kernel
theorem d_Sg_copy_5 : decode (zb m_Sg_copy) 5 = .ok (.aload_n 1, 1) := by decide +kernel
theorem d_Sg_copy_6 : decode (zb m_Sg_copy) 6 = .ok (.iconst 0, 1) := by decide +kernel
theorem d_Sg_copy_7 : decode (zb m_Sg_copy) 7 = .ok (.aload_n 1, 1) := by decide +kernel
theorem d_Sg_copy_8 : decode (zb m_Sg_copy) 8 = .ok (.getfield 24, 3) := by decide +kernel
theorem d_Sg_copy_11 : decode (zb m_Sg_copy) 11 = .ok (.invokevirtual 42, 3) := by decide +kernel
theorem d_Sg_copy_14 : decode (zb m_Sg_copy) 14 = .ok (.return_, 1) := by decide +kernel
theorem d_Sg_signsEnd_0 : decode (zb m_Sg_signsEnd) 0 = .ok (.iload_n 1, 1) := by decide +kernel
theorem d_Sg_signsEnd_1 : decode (zb m_Sg_signsEnd) 1 = .ok (.istore_n 3, 1) := by decide +kernel
theorem d_Sg_signsEnd_2 : decode (zb m_Sg_signsEnd) 2 = .ok (.iload_n 3, 1) := by decide +kernel
theorem d_Sg_signsEnd_3 : decode (zb m_Sg_signsEnd) 3 = .ok (.aload_n 0, 1) := by decide +kernel
theorem d_Sg_signsEnd_4 : decode (zb m_Sg_signsEnd) 4 = .ok (.getfield 24, 3) := by decide +kernel
theorem d_Sg_signsEnd_7 : decode (zb m_Sg_signsEnd) 7 = .ok (.if_icmp .ge 26, 3) := by decide +kernel
theorem d_Sg_signsEnd_10 : decode (zb m_Sg_signsEnd) 10 = .ok (.iload_n 3, 1) := by decide +kernel
theorem d_Sg_signsEnd_11 : decode (zb m_Sg_signsEnd) 11 = .ok (.iload_n 1, 1) := by decide +kernel
theorem d_Sg_signsEnd_12 : decode (zb m_Sg_signsEnd) 12 = .ok (.isub, 1) := by decide +kernel
theorem d_Sg_signsEnd_13 : decode (zb m_Sg_signsEnd) 13 = .ok (.iload_n 2, 1) := by decide +kernel
theorem d_Sg_signsEnd_14 : decode (zb m_Sg_signsEnd) 14 = .ok (.if_icmp .ge 19, 3) := by decide +kernel
theorem d_Sg_signsEnd_17 : decode (zb m_Sg_signsEnd) 17 = .ok (.aload_n 0, 1) := by decide +kernel
theorem d_Sg_signsEnd_18 : decode (zb m_Sg_signsEnd) 18 = .ok (.iload_n 3, 1) := by decide +kernel
theorem d_Sg_signsEnd_19 : decode (zb m_Sg_signsEnd) 19 = .ok (.invokevirtual 46, 3) := by decide +kernel
theorem d_Sg_signsEnd_22 : decode (zb m_Sg_signsEnd) 22 = .ok (.bipush (-6), 2) := by decide +kernel
theorem d_Sg_signsEnd_24 : decode (zb m_Sg_signsEnd) 24 = .ok (.if_icmp .eq 9, 3) := by decide +kernel
theorem d_Sg_signsEnd_27 : decode (zb m_Sg_signsEnd) 27 = .ok (.iinc 3 1, 3) := by decide +kernel
theorem d_Sg_signsEnd_30 : decode (zb m_Sg_signsEnd) 30 = .ok (.goto (-28), 3) := by decide +kernel
theorem d_Sg_signsEnd_33 : decode (zb m_Sg_signsEnd) 33 = .ok (.iload_n 3, 1) := by decide +kernel
theorem d_Sg_signsEnd_34 : decode (zb m_Sg_signsEnd) 34 = .ok (.ireturn, 1) := by decide +kernel
