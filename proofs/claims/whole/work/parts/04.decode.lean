theorem dX0_init_0 : decode cX0_init 0 = .ok (.aload_n 0, 1) := by decide +kernel
theorem dX0_init_1 : decode cX0_init 1 = .ok (.invokespecial 3, 3) := by decide +kernel
theorem dX0_init_4 : decode cX0_init 4 = .ok (.aload_n 0, 1) := by decide +kernel
theorem dX0_init_5 : decode cX0_init 5 = .ok (.new 9, 3) := by decide +kernel
theorem dX0_init_8 : decode cX0_init 8 = .ok (.dup, 1) := by decide +kernel
theorem dX0_init_9 : decode cX0_init 9 = .ok (.invokespecial 11, 3) := by decide +kernel
theorem dX0_init_12 : decode cX0_init 12 = .ok (.putfield 12, 3) := by decide +kernel
theorem dX0_init_15 : decode cX0_init 15 = .ok (.aload_n 0, 1) := by decide +kernel
theorem dX0_init_16 : decode cX0_init 16 = .ok (.new 18, 3) := by decide +kernel
theorem dX0_init_19 : decode cX0_init 19 = .ok (.dup, 1) := by decide +kernel
theorem dX0_init_20 : decode cX0_init 20 = .ok (.invokespecial 20, 3) := by decide +kernel
theorem dX0_init_23 : decode cX0_init 23 = .ok (.putfield 21, 3) := by decide +kernel
theorem dX0_init_26 : decode cX0_init 26 = .ok (.return_, 1) := by decide +kernel
theorem dX0_deriveFrom_0 : decode cX0_deriveFrom 0 = .ok (.aload_n 0, 1) := by decide +kernel
theorem dX0_deriveFrom_1 : decode cX0_deriveFrom 1 = .ok (.getfield 12, 3) := by decide +kernel
theorem dX0_deriveFrom_4 : decode cX0_deriveFrom 4 = .ok (.aload_n 1, 1) := by decide +kernel
theorem dX0_deriveFrom_5 : decode cX0_deriveFrom 5 = .ok (.invokevirtual 25, 3) := by decide +kernel
theorem dX0_deriveFrom_8 : decode cX0_deriveFrom 8 = .ok (.aload_n 0, 1) := by decide +kernel
theorem dX0_deriveFrom_9 : decode cX0_deriveFrom 9 = .ok (.aload_n 2, 1) := by decide +kernel
theorem dX0_deriveFrom_10 : decode cX0_deriveFrom 10 = .ok (.invokevirtual 29, 3) := by decide +kernel
theorem dX0_deriveFrom_13 : decode cX0_deriveFrom 13 = .ok (.aload_n 0, 1) := by decide +kernel
theorem dX0_deriveFrom_14 : decode cX0_deriveFrom 14 = .ok (.getfield 12, 3) := by decide +kernel
theorem dX0_deriveFrom_17 : decode cX0_deriveFrom 17 = .ok (.areturn, 1) := by decide +kernel
theorem dX0_deriveWithout_0 : decode cX0_deriveWithout 0 = .ok (.aload_n 0, 1) := by decide +kernel
theorem dX0_deriveWithout_1 : decode cX0_deriveWithout 1 = .ok (.getfield 12, 3) := by decide +kernel
theorem dX0_deriveWithout_4 : decode cX0_deriveWithout 4 = .ok (.aload_n 2, 1) := by decide +kernel
theorem dX0_deriveWithout_5 : decode cX0_deriveWithout 5 = .ok (.invokevirtual 25, 3) := by decide +kernel
theorem dX0_deriveWithout_8 : decode cX0_deriveWithout 8 = .ok (.aload_n 2, 1) := by decide +kernel
theorem dX0_deriveWithout_9 : decode cX0_deriveWithout 9 = .ok (.iload_n 1, 1) := by decide +kernel
theorem dX0_deriveWithout_10 : decode cX0_deriveWithout 10 = .ok (.invokevirtual 33, 3) := by decide +kernel
theorem dX0_deriveWithout_13 : decode cX0_deriveWithout 13 = .ok (.ifCond .eq 14, 3) := by decide +kernel
theorem dX0_deriveWithout_16 : decode cX0_deriveWithout 16 = .ok (.aload_n 0, 1) := by decide +kernel
theorem dX0_deriveWithout_17 : decode cX0_deriveWithout 17 = .ok (.getfield 12, 3) := by decide +kernel
theorem dX0_deriveWithout_20 : decode cX0_deriveWithout 20 = .ok (.iload_n 1, 1) := by decide +kernel
theorem dX0_deriveWithout_21 : decode cX0_deriveWithout 21 = .ok (.invokevirtual 37, 3) := by decide +kernel
theorem dX0_deriveWithout_24 : decode cX0_deriveWithout 24 = .ok (.goto 11, 3) := by decide +kernel
theorem dX0_deriveWithout_27 : decode cX0_deriveWithout 27 = .ok (.aload_n 0, 1) := by decide +kernel
theorem dX0_deriveWithout_28 : decode cX0_deriveWithout 28 = .ok (.getfield 12, 3) := by decide +kernel
theorem dX0_deriveWithout_31 : decode cX0_deriveWithout 31 = .ok (.iload_n 1, 1) := by decide +kernel
theorem dX0_deriveWithout_32 : decode cX0_deriveWithout 32 = .ok (.invokevirtual 41, 3) := by decide +kernel
theorem dX0_deriveWithout_35 : decode cX0_deriveWithout 35 = .ok (.aload_n 0, 1) := by decide +kernel
theorem dX0_deriveWithout_36 : decode cX0_deriveWithout 36 = .ok (.aload_n 3, 1) := by decide +kernel
theorem dX0_deriveWithout_37 : decode cX0_deriveWithout 37 = .ok (.invokevirtual 29, 3) := by decide +kernel
theorem dX0_deriveWithout_40 : decode cX0_deriveWithout 40 = .ok (.aload_n 0, 1) := by decide +kernel
theorem dX0_deriveWithout_41 : decode cX0_deriveWithout 41 = .ok (.getfield 12, 3) := by decide +kernel
theorem dX0_deriveWithout_44 : decode cX0_deriveWithout 44 = .ok (.areturn, 1) := by decide +kernel
theorem dX0_deriveAll_0 : decode cX0_deriveAll 0 = .ok (.aload_n 0, 1) := by decide +kernel
theorem dX0_deriveAll_1 : decode cX0_deriveAll 1 = .ok (.getfield 21, 3) := by decide +kernel
theorem dX0_deriveAll_4 : decode cX0_deriveAll 4 = .ok (.aload_n 1, 1) := by decide +kernel
theorem dX0_deriveAll_5 : decode cX0_deriveAll 5 = .ok (.aload_n 1, 1) := by decide +kernel
theorem dX0_deriveAll_6 : decode cX0_deriveAll 6 = .ok (.getfield 44, 3) := by decide +kernel
theorem dX0_deriveAll_9 : decode cX0_deriveAll 9 = .ok (.invokevirtual 50, 3) := by decide +kernel
theorem dX0_deriveAll_12 : decode cX0_deriveAll 12 = .ok (.pop, 1) := by decide +kernel
theorem dX0_deriveAll_13 : decode cX0_deriveAll 13 = .ok (.aload_n 0, 1) := by decide +kernel
theorem dX0_deriveAll_14 : decode cX0_deriveAll 14 = .ok (.getfield 21, 3) := by decide +kernel
theorem dX0_deriveAll_17 : decode cX0_deriveAll 17 = .ok (.invokevirtual 54, 3) := by decide +kernel
theorem dX0_deriveAll_20 : decode cX0_deriveAll 20 = .ok (.istore_n 2, 1) := by decide +kernel
theorem dX0_deriveAll_21 : decode cX0_deriveAll 21 = .ok (.iconst 0, 1) := by decide +kernel
theorem dX0_deriveAll_22 : decode cX0_deriveAll 22 = .ok (.istore_n 3, 1) := by decide +kernel
theorem dX0_deriveAll_23 : decode cX0_deriveAll 23 = .ok (.iload_n 3, 1) := by decide +kernel
theorem dX0_deriveAll_24 : decode cX0_deriveAll 24 = .ok (.iload_n 2, 1) := by decide +kernel
theorem dX0_deriveAll_25 : decode cX0_deriveAll 25 = .ok (.if_icmp .ge 38, 3) := by decide +kernel
theorem dX0_deriveAll_28 : decode cX0_deriveAll 28 = .ok (.iconst 0, 1) := by decide +kernel
theorem dX0_deriveAll_29 : decode cX0_deriveAll 29 = .ok (.istore 4, 2) := by decide +kernel
theorem dX0_deriveAll_31 : decode cX0_deriveAll 31 = .ok (.iload 4, 2) := by decide +kernel
theorem dX0_deriveAll_33 : decode cX0_deriveAll 33 = .ok (.sipush 216, 3) := by decide +kernel
theorem dX0_deriveAll_36 : decode cX0_deriveAll 36 = .ok (.if_icmp .gt 21, 3) := by decide +kernel
theorem dX0_deriveAll_39 : decode cX0_deriveAll 39 = .ok (.aload_n 0, 1) := by decide +kernel
theorem dX0_deriveAll_40 : decode cX0_deriveAll 40 = .ok (.aload_n 1, 1) := by decide +kernel
theorem dX0_deriveAll_41 : decode cX0_deriveAll 41 = .ok (.iload_n 3, 1) := by decide +kernel
theorem dX0_deriveAll_42 : decode cX0_deriveAll 42 = .ok (.invokevirtual 57, 3) := by decide +kernel
theorem dX0_deriveAll_45 : decode cX0_deriveAll 45 = .ok (.ifCond .ne 6, 3) := by decide +kernel
theorem dX0_deriveAll_48 : decode cX0_deriveAll 48 = .ok (.goto 9, 3) := by decide +kernel
theorem dX0_deriveAll_51 : decode cX0_deriveAll 51 = .ok (.iinc 4 1, 3) := by decide +kernel
theorem dX0_deriveAll_54 : decode cX0_deriveAll 54 = .ok (.goto (-23), 3) := by decide +kernel
theorem dX0_deriveAll_57 : decode cX0_deriveAll 57 = .ok (.iinc 3 1, 3) := by decide +kernel
theorem dX0_deriveAll_60 : decode cX0_deriveAll 60 = .ok (.goto (-37), 3) := by decide +kernel
theorem dX0_deriveAll_63 : decode cX0_deriveAll 63 = .ok (.return_, 1) := by decide +kernel
theorem dX0_makeMore_0 : decode cX0_makeMore 0 = .ok (.iconst 0, 1) := by decide +kernel
theorem dX0_makeMore_1 : decode cX0_makeMore 1 = .ok (.istore_n 3, 1) := by decide +kernel
theorem dX0_makeMore_2 : decode cX0_makeMore 2 = .ok (.iconst 0, 1) := by decide +kernel
theorem dX0_makeMore_3 : decode cX0_makeMore 3 = .ok (.istore 4, 2) := by decide +kernel
theorem dX0_makeMore_5 : decode cX0_makeMore 5 = .ok (.iload 4, 2) := by decide +kernel
theorem dX0_makeMore_7 : decode cX0_makeMore 7 = .ok (.aload_n 1, 1) := by decide +kernel
theorem dX0_makeMore_8 : decode cX0_makeMore 8 = .ok (.getfield 44, 3) := by decide +kernel
theorem dX0_makeMore_11 : decode cX0_makeMore 11 = .ok (.if_icmp .ge 109, 3) := by decide +kernel
theorem dX0_makeMore_14 : decode cX0_makeMore 14 = .ok (.aload_n 1, 1) := by decide +kernel
theorem dX0_makeMore_15 : decode cX0_makeMore 15 = .ok (.iload 4, 2) := by decide +kernel
theorem dX0_makeMore_17 : decode cX0_makeMore 17 = .ok (.invokevirtual 60, 3) := by decide +kernel
theorem dX0_makeMore_20 : decode cX0_makeMore 20 = .ok (.istore 5, 2) := by decide +kernel
theorem dX0_makeMore_22 : decode cX0_makeMore 22 = .ok (.aload_n 0, 1) := by decide +kernel
theorem dX0_makeMore_23 : decode cX0_makeMore 23 = .ok (.getfield 21, 3) := by decide +kernel
theorem dX0_makeMore_26 : decode cX0_makeMore 26 = .ok (.iload 5, 2) := by decide +kernel
theorem dX0_makeMore_28 : decode cX0_makeMore 28 = .ok (.invokevirtual 64, 3) := by decide +kernel
theorem dX0_makeMore_31 : decode cX0_makeMore 31 = .ok (.iload_n 2, 1) := by decide +kernel
theorem dX0_makeMore_32 : decode cX0_makeMore 32 = .ok (.if_icmp .eq 6, 3) := by decide +kernel
theorem dX0_makeMore_35 : decode cX0_makeMore 35 = .ok (.goto 79, 3) := by decide +kernel
theorem dX0_makeMore_38 : decode cX0_makeMore 38 = .ok (.iconst 0, 1) := by decide +kernel
theorem dX0_makeMore_39 : decode cX0_makeMore 39 = .ok (.istore 6, 2) := by decide +kernel
theorem dX0_makeMore_41 : decode cX0_makeMore 41 = .ok (.iload 6, 2) := by decide +kernel
theorem dX0_makeMore_43 : decode cX0_makeMore 43 = .ok (.bipush 36, 2) := by decide +kernel
theorem dX0_makeMore_45 : decode cX0_makeMore 45 = .ok (.if_icmp .ge 69, 3) := by decide +kernel
theorem dX0_makeMore_48 : decode cX0_makeMore 48 = .ok (.bipush 36, 2) := by decide +kernel
theorem dX0_makeMore_50 : decode cX0_makeMore 50 = .ok (.iload 5, 2) := by decide +kernel
theorem dX0_makeMore_52 : decode cX0_makeMore 52 = .ok (.imul, 1) := by decide +kernel
theorem dX0_makeMore_53 : decode cX0_makeMore 53 = .ok (.iload 6, 2) := by decide +kernel
theorem dX0_makeMore_55 : decode cX0_makeMore 55 = .ok (.iadd, 1) := by decide +kernel
theorem dX0_makeMore_56 : decode cX0_makeMore 56 = .ok (.istore 7, 2) := by decide +kernel
theorem dX0_makeMore_58 : decode cX0_makeMore 58 = .ok (.aload_n 0, 1) := by decide +kernel
theorem dX0_makeMore_59 : decode cX0_makeMore 59 = .ok (.getfield 12, 3) := by decide +kernel
theorem dX0_makeMore_62 : decode cX0_makeMore 62 = .ok (.iload 7, 2) := by decide +kernel
theorem dX0_makeMore_64 : decode cX0_makeMore 64 = .ok (.invokevirtual 33, 3) := by decide +kernel
theorem dX0_makeMore_67 : decode cX0_makeMore 67 = .ok (.ifCond .ne 41, 3) := by decide +kernel
theorem dX0_makeMore_70 : decode cX0_makeMore 70 = .ok (.aload_n 1, 1) := by decide +kernel
theorem dX0_makeMore_71 : decode cX0_makeMore 71 = .ok (.iload 4, 2) := by decide +kernel
theorem dX0_makeMore_73 : decode cX0_makeMore 73 = .ok (.iload 6, 2) := by decide +kernel
theorem dX0_makeMore_75 : decode cX0_makeMore 75 = .ok (.bipush 6, 2) := by decide +kernel
theorem dX0_makeMore_77 : decode cX0_makeMore 77 = .ok (.idiv, 1) := by decide +kernel
theorem dX0_makeMore_78 : decode cX0_makeMore 78 = .ok (.iload 6, 2) := by decide +kernel
theorem dX0_makeMore_80 : decode cX0_makeMore 80 = .ok (.bipush 6, 2) := by decide +kernel
theorem dX0_makeMore_82 : decode cX0_makeMore 82 = .ok (.irem, 1) := by decide +kernel
theorem dX0_makeMore_83 : decode cX0_makeMore 83 = .ok (.aload_n 0, 1) := by decide +kernel
theorem dX0_makeMore_84 : decode cX0_makeMore 84 = .ok (.getfield 12, 3) := by decide +kernel
theorem dX0_makeMore_87 : decode cX0_makeMore 87 = .ok (.aload_n 0, 1) := by decide +kernel
theorem dX0_makeMore_88 : decode cX0_makeMore 88 = .ok (.getfield 12, 3) := by decide +kernel
theorem dX0_makeMore_91 : decode cX0_makeMore 91 = .ok (.invokevirtual 67, 3) := by decide +kernel
theorem dX0_makeMore_94 : decode cX0_makeMore 94 = .ok (.ifCond .eq 14, 3) := by decide +kernel
theorem dX0_makeMore_97 : decode cX0_makeMore 97 = .ok (.aload_n 0, 1) := by decide +kernel
theorem dX0_makeMore_98 : decode cX0_makeMore 98 = .ok (.getfield 12, 3) := by decide +kernel
theorem dX0_makeMore_101 : decode cX0_makeMore 101 = .ok (.iload 7, 2) := by decide +kernel
theorem dX0_makeMore_103 : decode cX0_makeMore 103 = .ok (.invokevirtual 41, 3) := by decide +kernel
theorem dX0_makeMore_106 : decode cX0_makeMore 106 = .ok (.iconst 1, 1) := by decide +kernel
theorem dX0_makeMore_107 : decode cX0_makeMore 107 = .ok (.istore_n 3, 1) := by decide +kernel
theorem dX0_makeMore_108 : decode cX0_makeMore 108 = .ok (.iinc 6 1, 3) := by decide +kernel
theorem dX0_makeMore_111 : decode cX0_makeMore 111 = .ok (.goto (-70), 3) := by decide +kernel
theorem dX0_makeMore_114 : decode cX0_makeMore 114 = .ok (.iinc 4 1, 3) := by decide +kernel
theorem dX0_makeMore_117 : decode cX0_makeMore 117 = .ok (.goto (-112), 3) := by decide +kernel
theorem dX0_makeMore_120 : decode cX0_makeMore 120 = .ok (.iload_n 3, 1) := by decide +kernel
theorem dX0_makeMore_121 : decode cX0_makeMore 121 = .ok (.ireturn, 1) := by decide +kernel
theorem dX1_init_0 : decode cX1_init 0 = .ok (.aload_n 0, 1) := by decide +kernel
theorem dX1_init_1 : decode cX1_init 1 = .ok (.invokespecial 3, 3) := by decide +kernel
theorem dX1_init_4 : decode cX1_init 4 = .ok (.aload_n 0, 1) := by decide +kernel
theorem dX1_init_5 : decode cX1_init 5 = .ok (.new 9, 3) := by decide +kernel
theorem dX1_init_8 : decode cX1_init 8 = .ok (.dup, 1) := by decide +kernel
theorem dX1_init_9 : decode cX1_init 9 = .ok (.invokespecial 11, 3) := by decide +kernel
theorem dX1_init_12 : decode cX1_init 12 = .ok (.putfield 12, 3) := by decide +kernel
theorem dX1_init_15 : decode cX1_init 15 = .ok (.aload_n 0, 1) := by decide +kernel
theorem dX1_init_16 : decode cX1_init 16 = .ok (.new 9, 3) := by decide +kernel
theorem dX1_init_19 : decode cX1_init 19 = .ok (.dup, 1) := by decide +kernel
theorem dX1_init_20 : decode cX1_init 20 = .ok (.invokespecial 11, 3) := by decide +kernel
theorem dX1_init_23 : decode cX1_init 23 = .ok (.putfield 18, 3) := by decide +kernel
theorem dX1_init_26 : decode cX1_init 26 = .ok (.aload_n 0, 1) := by decide +kernel
theorem dX1_init_27 : decode cX1_init 27 = .ok (.new 9, 3) := by decide +kernel
theorem dX1_init_30 : decode cX1_init 30 = .ok (.dup, 1) := by decide +kernel
theorem dX1_init_31 : decode cX1_init 31 = .ok (.invokespecial 11, 3) := by decide +kernel
theorem dX1_init_34 : decode cX1_init 34 = .ok (.putfield 21, 3) := by decide +kernel
theorem dX1_init_37 : decode cX1_init 37 = .ok (.aload_n 0, 1) := by decide +kernel
theorem dX1_init_38 : decode cX1_init 38 = .ok (.new 24, 3) := by decide +kernel
theorem dX1_init_41 : decode cX1_init 41 = .ok (.dup, 1) := by decide +kernel
theorem dX1_init_42 : decode cX1_init 42 = .ok (.invokespecial 26, 3) := by decide +kernel
theorem dX1_init_45 : decode cX1_init 45 = .ok (.putfield 27, 3) := by decide +kernel
theorem dX1_init_48 : decode cX1_init 48 = .ok (.aload_n 0, 1) := by decide +kernel
theorem dX1_init_49 : decode cX1_init 49 = .ok (.sipush 216, 3) := by decide +kernel
theorem dX1_init_52 : decode cX1_init 52 = .ok (.newarray .int, 2) := by decide +kernel
theorem dX1_init_54 : decode cX1_init 54 = .ok (.putfield 31, 3) := by decide +kernel
theorem dX1_init_57 : decode cX1_init 57 = .ok (.aload_n 0, 1) := by decide +kernel
theorem dX1_init_58 : decode cX1_init 58 = .ok (.sipush 216, 3) := by decide +kernel
theorem dX1_init_61 : decode cX1_init 61 = .ok (.newarray .int, 2) := by decide +kernel
theorem dX1_init_63 : decode cX1_init 63 = .ok (.putfield 35, 3) := by decide +kernel
theorem dX1_init_66 : decode cX1_init 66 = .ok (.aload_n 0, 1) := by decide +kernel
theorem dX1_init_67 : decode cX1_init 67 = .ok (.sipush 216, 3) := by decide +kernel
theorem dX1_init_70 : decode cX1_init 70 = .ok (.newarray .int, 2) := by decide +kernel
theorem dX1_init_72 : decode cX1_init 72 = .ok (.putfield 38, 3) := by decide +kernel
theorem dX1_init_75 : decode cX1_init 75 = .ok (.aload_n 0, 1) := by decide +kernel
theorem dX1_init_76 : decode cX1_init 76 = .ok (.sipush 216, 3) := by decide +kernel
theorem dX1_init_79 : decode cX1_init 79 = .ok (.newarray .int, 2) := by decide +kernel
theorem dX1_init_81 : decode cX1_init 81 = .ok (.putfield 41, 3) := by decide +kernel
theorem dX1_init_84 : decode cX1_init 84 = .ok (.aload_n 0, 1) := by decide +kernel
theorem dX1_init_85 : decode cX1_init 85 = .ok (.sipush 1296, 3) := by decide +kernel
theorem dX1_init_88 : decode cX1_init 88 = .ok (.newarray .long, 2) := by decide +kernel
theorem dX1_init_90 : decode cX1_init 90 = .ok (.putfield 44, 3) := by decide +kernel
theorem dX1_init_93 : decode cX1_init 93 = .ok (.aload_n 0, 1) := by decide +kernel
theorem dX1_init_94 : decode cX1_init 94 = .ok (.iconst 0, 1) := by decide +kernel
theorem dX1_init_95 : decode cX1_init 95 = .ok (.putfield 48, 3) := by decide +kernel
theorem dX1_init_98 : decode cX1_init 98 = .ok (.return_, 1) := by decide +kernel
theorem dX1_outdate_0 : decode cX1_outdate 0 = .ok (.aload_n 0, 1) := by decide +kernel
theorem dX1_outdate_1 : decode cX1_outdate 1 = .ok (.iconst 0, 1) := by decide +kernel
theorem dX1_outdate_2 : decode cX1_outdate 2 = .ok (.putfield 48, 3) := by decide +kernel
theorem dX1_outdate_5 : decode cX1_outdate 5 = .ok (.return_, 1) := by decide +kernel
theorem dX1_settled_0 : decode cX1_settled 0 = .ok (.aload_n 0, 1) := by decide +kernel
theorem dX1_settled_1 : decode cX1_settled 1 = .ok (.getfield 48, 3) := by decide +kernel
theorem dX1_settled_4 : decode cX1_settled 4 = .ok (.ifCond .eq 5, 3) := by decide +kernel
theorem dX1_settled_7 : decode cX1_settled 7 = .ok (.aload_n 0, 1) := by decide +kernel
theorem dX1_settled_8 : decode cX1_settled 8 = .ok (.areturn, 1) := by decide +kernel
theorem dX1_settled_9 : decode cX1_settled 9 = .ok (.aload_n 0, 1) := by decide +kernel
theorem dX1_settled_10 : decode cX1_settled 10 = .ok (.aload_n 1, 1) := by decide +kernel
theorem dX1_settled_11 : decode cX1_settled 11 = .ok (.getfield 52, 3) := by decide +kernel
theorem dX1_settled_14 : decode cX1_settled 14 = .ok (.invokevirtual 57, 3) := by decide +kernel
theorem dX1_settled_17 : decode cX1_settled 17 = .ok (.aload_n 0, 1) := by decide +kernel
theorem dX1_settled_18 : decode cX1_settled 18 = .ok (.getfield 27, 3) := by decide +kernel
theorem dX1_settled_21 : decode cX1_settled 21 = .ok (.aload_n 1, 1) := by decide +kernel
theorem dX1_settled_22 : decode cX1_settled 22 = .ok (.getfield 61, 3) := by decide +kernel
theorem dX1_settled_25 : decode cX1_settled 25 = .ok (.aload_n 1, 1) := by decide +kernel
theorem dX1_settled_26 : decode cX1_settled 26 = .ok (.getfield 61, 3) := by decide +kernel
theorem dX1_settled_29 : decode cX1_settled 29 = .ok (.getfield 65, 3) := by decide +kernel
theorem dX1_settled_32 : decode cX1_settled 32 = .ok (.invokevirtual 71, 3) := by decide +kernel
theorem dX1_settled_35 : decode cX1_settled 35 = .ok (.pop, 1) := by decide +kernel
theorem dX1_settled_36 : decode cX1_settled 36 = .ok (.aload_n 0, 1) := by decide +kernel
theorem dX1_settled_37 : decode cX1_settled 37 = .ok (.getfield 27, 3) := by decide +kernel
theorem dX1_settled_40 : decode cX1_settled 40 = .ok (.invokevirtual 75, 3) := by decide +kernel
theorem dX1_settled_43 : decode cX1_settled 43 = .ok (.istore_n 2, 1) := by decide +kernel
theorem dX1_settled_44 : decode cX1_settled 44 = .ok (.iconst 0, 1) := by decide +kernel
theorem dX1_settled_45 : decode cX1_settled 45 = .ok (.istore_n 3, 1) := by decide +kernel
theorem dX1_settled_46 : decode cX1_settled 46 = .ok (.iload_n 3, 1) := by decide +kernel
theorem dX1_settled_47 : decode cX1_settled 47 = .ok (.iload_n 2, 1) := by decide +kernel
theorem dX1_settled_48 : decode cX1_settled 48 = .ok (.if_icmp .ge 83, 3) := by decide +kernel
theorem dX1_settled_51 : decode cX1_settled 51 = .ok (.aload_n 0, 1) := by decide +kernel
theorem dX1_settled_52 : decode cX1_settled 52 = .ok (.getfield 18, 3) := by decide +kernel
theorem dX1_settled_55 : decode cX1_settled 55 = .ok (.aload_n 0, 1) := by decide +kernel
theorem dX1_settled_56 : decode cX1_settled 56 = .ok (.getfield 12, 3) := by decide +kernel
theorem dX1_settled_59 : decode cX1_settled 59 = .ok (.invokevirtual 78, 3) := by decide +kernel
theorem dX1_settled_62 : decode cX1_settled 62 = .ok (.iconst 1, 1) := by decide +kernel
theorem dX1_settled_63 : decode cX1_settled 63 = .ok (.istore 4, 2) := by decide +kernel
theorem dX1_settled_65 : decode cX1_settled 65 = .ok (.iload 4, 2) := by decide +kernel
theorem dX1_settled_67 : decode cX1_settled 67 = .ok (.sipush 216, 3) := by decide +kernel
theorem dX1_settled_70 : decode cX1_settled 70 = .ok (.if_icmp .gt 55, 3) := by decide +kernel
theorem dX1_settled_73 : decode cX1_settled 73 = .ok (.aload_n 0, 1) := by decide +kernel
theorem dX1_settled_74 : decode cX1_settled 74 = .ok (.getfield 21, 3) := by decide +kernel
theorem dX1_settled_77 : decode cX1_settled 77 = .ok (.invokevirtual 81, 3) := by decide +kernel
theorem dX1_settled_80 : decode cX1_settled 80 = .ok (.aload_n 0, 1) := by decide +kernel
theorem dX1_settled_81 : decode cX1_settled 81 = .ok (.aload_n 1, 1) := by decide +kernel
theorem dX1_settled_82 : decode cX1_settled 82 = .ok (.getfield 61, 3) := by decide +kernel
theorem dX1_settled_85 : decode cX1_settled 85 = .ok (.iload_n 3, 1) := by decide +kernel
theorem dX1_settled_86 : decode cX1_settled 86 = .ok (.iload 4, 2) := by decide +kernel
theorem dX1_settled_88 : decode cX1_settled 88 = .ok (.invokevirtual 84, 3) := by decide +kernel
theorem dX1_settled_91 : decode cX1_settled 91 = .ok (.ifCond .ne 6, 3) := by decide +kernel
theorem dX1_settled_94 : decode cX1_settled 94 = .ok (.goto 31, 3) := by decide +kernel
theorem dX1_settled_97 : decode cX1_settled 97 = .ok (.aload_n 0, 1) := by decide +kernel
theorem dX1_settled_98 : decode cX1_settled 98 = .ok (.getfield 12, 3) := by decide +kernel
theorem dX1_settled_101 : decode cX1_settled 101 = .ok (.aload_n 0, 1) := by decide +kernel
theorem dX1_settled_102 : decode cX1_settled 102 = .ok (.getfield 21, 3) := by decide +kernel
theorem dX1_settled_105 : decode cX1_settled 105 = .ok (.invokevirtual 88, 3) := by decide +kernel
theorem dX1_settled_108 : decode cX1_settled 108 = .ok (.aload_n 0, 1) := by decide +kernel
theorem dX1_settled_109 : decode cX1_settled 109 = .ok (.getfield 18, 3) := by decide +kernel
theorem dX1_settled_112 : decode cX1_settled 112 = .ok (.aload_n 0, 1) := by decide +kernel
theorem dX1_settled_113 : decode cX1_settled 113 = .ok (.getfield 21, 3) := by decide +kernel
theorem dX1_settled_116 : decode cX1_settled 116 = .ok (.invokevirtual 78, 3) := by decide +kernel
theorem dX1_settled_119 : decode cX1_settled 119 = .ok (.iinc 4 1, 3) := by decide +kernel
theorem dX1_settled_122 : decode cX1_settled 122 = .ok (.goto (-57), 3) := by decide +kernel
theorem dX1_settled_125 : decode cX1_settled 125 = .ok (.iinc 3 1, 3) := by decide +kernel
theorem dX1_settled_128 : decode cX1_settled 128 = .ok (.goto (-82), 3) := by decide +kernel
theorem dX1_settled_131 : decode cX1_settled 131 = .ok (.aload_n 0, 1) := by decide +kernel
theorem dX1_settled_132 : decode cX1_settled 132 = .ok (.iconst 1, 1) := by decide +kernel
theorem dX1_settled_133 : decode cX1_settled 133 = .ok (.putfield 48, 3) := by decide +kernel
theorem dX1_settled_136 : decode cX1_settled 136 = .ok (.aload_n 0, 1) := by decide +kernel
theorem dX1_settled_137 : decode cX1_settled 137 = .ok (.areturn, 1) := by decide +kernel
theorem dX1_start_0 : decode cX1_start 0 = .ok (.aload_n 0, 1) := by decide +kernel
theorem dX1_start_1 : decode cX1_start 1 = .ok (.getfield 12, 3) := by decide +kernel
theorem dX1_start_4 : decode cX1_start 4 = .ok (.aload_n 1, 1) := by decide +kernel
theorem dX1_start_5 : decode cX1_start 5 = .ok (.invokevirtual 78, 3) := by decide +kernel
theorem dX1_start_8 : decode cX1_start 8 = .ok (.iconst 0, 1) := by decide +kernel
theorem dX1_start_9 : decode cX1_start 9 = .ok (.istore_n 2, 1) := by decide +kernel
theorem dX1_start_10 : decode cX1_start 10 = .ok (.iload_n 2, 1) := by decide +kernel
theorem dX1_start_11 : decode cX1_start 11 = .ok (.aload_n 0, 1) := by decide +kernel
theorem dX1_start_12 : decode cX1_start 12 = .ok (.getfield 44, 3) := by decide +kernel
theorem dX1_start_15 : decode cX1_start 15 = .ok (.arraylength, 1) := by decide +kernel
theorem dX1_start_16 : decode cX1_start 16 = .ok (.if_icmp .ge 16, 3) := by decide +kernel
theorem dX1_start_19 : decode cX1_start 19 = .ok (.aload_n 0, 1) := by decide +kernel
theorem dX1_start_20 : decode cX1_start 20 = .ok (.getfield 44, 3) := by decide +kernel
theorem dX1_start_23 : decode cX1_start 23 = .ok (.iload_n 2, 1) := by decide +kernel
theorem dX1_start_24 : decode cX1_start 24 = .ok (.lconst 0, 1) := by decide +kernel
theorem dX1_start_25 : decode cX1_start 25 = .ok (.lastore, 1) := by decide +kernel
theorem dX1_start_26 : decode cX1_start 26 = .ok (.iinc 2 1, 3) := by decide +kernel
theorem dX1_start_29 : decode cX1_start 29 = .ok (.goto (-19), 3) := by decide +kernel
theorem dX1_start_32 : decode cX1_start 32 = .ok (.iconst 0, 1) := by decide +kernel
theorem dX1_start_33 : decode cX1_start 33 = .ok (.istore_n 2, 1) := by decide +kernel
theorem dX1_start_34 : decode cX1_start 34 = .ok (.iload_n 2, 1) := by decide +kernel
theorem dX1_start_35 : decode cX1_start 35 = .ok (.sipush 216, 3) := by decide +kernel
theorem dX1_start_38 : decode cX1_start 38 = .ok (.if_icmp .ge 57, 3) := by decide +kernel
theorem dX1_start_41 : decode cX1_start 41 = .ok (.aload_n 0, 1) := by decide +kernel
theorem dX1_start_42 : decode cX1_start 42 = .ok (.getfield 31, 3) := by decide +kernel
theorem dX1_start_45 : decode cX1_start 45 = .ok (.iload_n 2, 1) := by decide +kernel
theorem dX1_start_46 : decode cX1_start 46 = .ok (.iconst 0, 1) := by decide +kernel
theorem dX1_start_47 : decode cX1_start 47 = .ok (.iastore, 1) := by decide +kernel
theorem dX1_start_48 : decode cX1_start 48 = .ok (.aload_n 0, 1) := by decide +kernel
theorem dX1_start_49 : decode cX1_start 49 = .ok (.getfield 35, 3) := by decide +kernel
theorem dX1_start_52 : decode cX1_start 52 = .ok (.iload_n 2, 1) := by decide +kernel
theorem dX1_start_53 : decode cX1_start 53 = .ok (.iconst (-1), 1) := by decide +kernel
theorem dX1_start_54 : decode cX1_start 54 = .ok (.iastore, 1) := by decide +kernel
theorem dX1_start_55 : decode cX1_start 55 = .ok (.aload_n 0, 1) := by decide +kernel
theorem dX1_start_56 : decode cX1_start 56 = .ok (.getfield 38, 3) := by decide +kernel
theorem dX1_start_59 : decode cX1_start 59 = .ok (.iload_n 2, 1) := by decide +kernel
theorem dX1_start_60 : decode cX1_start 60 = .ok (.iconst (-1), 1) := by decide +kernel
theorem dX1_start_61 : decode cX1_start 61 = .ok (.iastore, 1) := by decide +kernel
theorem dX1_start_62 : decode cX1_start 62 = .ok (.aload_n 0, 1) := by decide +kernel
theorem dX1_start_63 : decode cX1_start 63 = .ok (.getfield 41, 3) := by decide +kernel
theorem dX1_start_66 : decode cX1_start 66 = .ok (.iload_n 2, 1) := by decide +kernel
theorem dX1_start_67 : decode cX1_start 67 = .ok (.iconst 0, 1) := by decide +kernel
theorem dX1_start_68 : decode cX1_start 68 = .ok (.iastore, 1) := by decide +kernel
theorem dX1_start_69 : decode cX1_start 69 = .ok (.aload_n 0, 1) := by decide +kernel
theorem dX1_start_70 : decode cX1_start 70 = .ok (.getfield 44, 3) := by decide +kernel
theorem dX1_start_73 : decode cX1_start 73 = .ok (.bipush 6, 2) := by decide +kernel
theorem dX1_start_75 : decode cX1_start 75 = .ok (.iload_n 2, 1) := by decide +kernel
theorem dX1_start_76 : decode cX1_start 76 = .ok (.imul, 1) := by decide +kernel
theorem dX1_start_77 : decode cX1_start 77 = .ok (.iload_n 2, 1) := by decide +kernel
theorem dX1_start_78 : decode cX1_start 78 = .ok (.bipush 36, 2) := by decide +kernel
theorem dX1_start_80 : decode cX1_start 80 = .ok (.idiv, 1) := by decide +kernel
theorem dX1_start_81 : decode cX1_start 81 = .ok (.iadd, 1) := by decide +kernel
theorem dX1_start_82 : decode cX1_start 82 = .ok (.lconst 1, 1) := by decide +kernel
theorem dX1_start_83 : decode cX1_start 83 = .ok (.iload_n 2, 1) := by decide +kernel
theorem dX1_start_84 : decode cX1_start 84 = .ok (.bipush 36, 2) := by decide +kernel
theorem dX1_start_86 : decode cX1_start 86 = .ok (.irem, 1) := by decide +kernel
theorem dX1_start_87 : decode cX1_start 87 = .ok (.lshl, 1) := by decide +kernel
theorem dX1_start_88 : decode cX1_start 88 = .ok (.lastore, 1) := by decide +kernel
theorem dX1_start_89 : decode cX1_start 89 = .ok (.iinc 2 1, 3) := by decide +kernel
theorem dX1_start_92 : decode cX1_start 92 = .ok (.goto (-58), 3) := by decide +kernel
theorem dX1_start_95 : decode cX1_start 95 = .ok (.return_, 1) := by decide +kernel
theorem dX1_addRound_0 : decode cX1_addRound 0 = .ok (.iconst 0, 1) := by decide +kernel
theorem dX1_addRound_1 : decode cX1_addRound 1 = .ok (.istore 4, 2) := by decide +kernel
theorem dX1_addRound_3 : decode cX1_addRound 3 = .ok (.iconst 0, 1) := by decide +kernel
theorem dX1_addRound_4 : decode cX1_addRound 4 = .ok (.istore 5, 2) := by decide +kernel
theorem dX1_addRound_6 : decode cX1_addRound 6 = .ok (.iload 5, 2) := by decide +kernel
theorem dX1_addRound_8 : decode cX1_addRound 8 = .ok (.aload_n 1, 1) := by decide +kernel
theorem dX1_addRound_9 : decode cX1_addRound 9 = .ok (.getfield 65, 3) := by decide +kernel
theorem dX1_addRound_12 : decode cX1_addRound 12 = .ok (.if_icmp .ge 141, 3) := by decide +kernel
theorem dX1_addRound_15 : decode cX1_addRound 15 = .ok (.aload_n 1, 1) := by decide +kernel
theorem dX1_addRound_16 : decode cX1_addRound 16 = .ok (.iload 5, 2) := by decide +kernel
theorem dX1_addRound_18 : decode cX1_addRound 18 = .ok (.invokevirtual 91, 3) := by decide +kernel
theorem dX1_addRound_21 : decode cX1_addRound 21 = .ok (.istore 6, 2) := by decide +kernel
theorem dX1_addRound_23 : decode cX1_addRound 23 = .ok (.aload_n 0, 1) := by decide +kernel
theorem dX1_addRound_24 : decode cX1_addRound 24 = .ok (.getfield 27, 3) := by decide +kernel
theorem dX1_addRound_27 : decode cX1_addRound 27 = .ok (.iload 6, 2) := by decide +kernel
theorem dX1_addRound_29 : decode cX1_addRound 29 = .ok (.invokevirtual 95, 3) := by decide +kernel
theorem dX1_addRound_32 : decode cX1_addRound 32 = .ok (.iload_n 2, 1) := by decide +kernel
theorem dX1_addRound_33 : decode cX1_addRound 33 = .ok (.if_icmp .eq 6, 3) := by decide +kernel
theorem dX1_addRound_36 : decode cX1_addRound 36 = .ok (.goto 111, 3) := by decide +kernel
theorem dX1_addRound_39 : decode cX1_addRound 39 = .ok (.iconst 0, 1) := by decide +kernel
theorem dX1_addRound_40 : decode cX1_addRound 40 = .ok (.istore 7, 2) := by decide +kernel
theorem dX1_addRound_42 : decode cX1_addRound 42 = .ok (.iload 7, 2) := by decide +kernel
theorem dX1_addRound_44 : decode cX1_addRound 44 = .ok (.bipush 36, 2) := by decide +kernel
theorem dX1_addRound_46 : decode cX1_addRound 46 = .ok (.if_icmp .ge 101, 3) := by decide +kernel
theorem dX1_addRound_49 : decode cX1_addRound 49 = .ok (.bipush 36, 2) := by decide +kernel
theorem dX1_addRound_51 : decode cX1_addRound 51 = .ok (.iload 6, 2) := by decide +kernel
theorem dX1_addRound_53 : decode cX1_addRound 53 = .ok (.imul, 1) := by decide +kernel
theorem dX1_addRound_54 : decode cX1_addRound 54 = .ok (.iload 7, 2) := by decide +kernel
theorem dX1_addRound_56 : decode cX1_addRound 56 = .ok (.iadd, 1) := by decide +kernel
theorem dX1_addRound_57 : decode cX1_addRound 57 = .ok (.istore 8, 2) := by decide +kernel
theorem dX1_addRound_59 : decode cX1_addRound 59 = .ok (.aload_n 0, 1) := by decide +kernel
theorem dX1_addRound_60 : decode cX1_addRound 60 = .ok (.getfield 12, 3) := by decide +kernel
theorem dX1_addRound_63 : decode cX1_addRound 63 = .ok (.iload 8, 2) := by decide +kernel
theorem dX1_addRound_65 : decode cX1_addRound 65 = .ok (.invokevirtual 98, 3) := by decide +kernel
theorem dX1_addRound_68 : decode cX1_addRound 68 = .ok (.ifCond .ne 73, 3) := by decide +kernel
theorem dX1_addRound_71 : decode cX1_addRound 71 = .ok (.aload_n 0, 1) := by decide +kernel
theorem dX1_addRound_72 : decode cX1_addRound 72 = .ok (.getfield 21, 3) := by decide +kernel
theorem dX1_addRound_75 : decode cX1_addRound 75 = .ok (.iload 8, 2) := by decide +kernel
theorem dX1_addRound_77 : decode cX1_addRound 77 = .ok (.invokevirtual 98, 3) := by decide +kernel
theorem dX1_addRound_80 : decode cX1_addRound 80 = .ok (.ifCond .eq 6, 3) := by decide +kernel
theorem dX1_addRound_83 : decode cX1_addRound 83 = .ok (.goto 58, 3) := by decide +kernel
theorem dX1_addRound_86 : decode cX1_addRound 86 = .ok (.aload_n 1, 1) := by decide +kernel
theorem dX1_addRound_87 : decode cX1_addRound 87 = .ok (.iload 5, 2) := by decide +kernel
theorem dX1_addRound_89 : decode cX1_addRound 89 = .ok (.iload 7, 2) := by decide +kernel
theorem dX1_addRound_91 : decode cX1_addRound 91 = .ok (.bipush 6, 2) := by decide +kernel
theorem dX1_addRound_93 : decode cX1_addRound 93 = .ok (.idiv, 1) := by decide +kernel
theorem dX1_addRound_94 : decode cX1_addRound 94 = .ok (.iload 7, 2) := by decide +kernel
theorem dX1_addRound_96 : decode cX1_addRound 96 = .ok (.bipush 6, 2) := by decide +kernel
theorem dX1_addRound_98 : decode cX1_addRound 98 = .ok (.irem, 1) := by decide +kernel
theorem dX1_addRound_99 : decode cX1_addRound 99 = .ok (.aload_n 0, 1) := by decide +kernel
theorem dX1_addRound_100 : decode cX1_addRound 100 = .ok (.getfield 12, 3) := by decide +kernel
theorem dX1_addRound_103 : decode cX1_addRound 103 = .ok (.aload_n 0, 1) := by decide +kernel
theorem dX1_addRound_104 : decode cX1_addRound 104 = .ok (.getfield 18, 3) := by decide +kernel
theorem dX1_addRound_107 : decode cX1_addRound 107 = .ok (.invokevirtual 102, 3) := by decide +kernel
theorem dX1_addRound_110 : decode cX1_addRound 110 = .ok (.istore 9, 2) := by decide +kernel
theorem dX1_addRound_112 : decode cX1_addRound 112 = .ok (.iload 9, 2) := by decide +kernel
theorem dX1_addRound_114 : decode cX1_addRound 114 = .ok (.ifCond .eq 27, 3) := by decide +kernel
theorem dX1_addRound_117 : decode cX1_addRound 117 = .ok (.aload_n 0, 1) := by decide +kernel
theorem dX1_addRound_118 : decode cX1_addRound 118 = .ok (.iload 8, 2) := by decide +kernel
theorem dX1_addRound_120 : decode cX1_addRound 120 = .ok (.iload_n 3, 1) := by decide +kernel
theorem dX1_addRound_121 : decode cX1_addRound 121 = .ok (.iload 5, 2) := by decide +kernel
theorem dX1_addRound_123 : decode cX1_addRound 123 = .ok (.iload 9, 2) := by decide +kernel
theorem dX1_addRound_125 : decode cX1_addRound 125 = .ok (.invokestatic 106, 3) := by decide +kernel
theorem dX1_addRound_128 : decode cX1_addRound 128 = .ok (.invokevirtual 109, 3) := by decide +kernel
theorem dX1_addRound_131 : decode cX1_addRound 131 = .ok (.aload_n 0, 1) := by decide +kernel
theorem dX1_addRound_132 : decode cX1_addRound 132 = .ok (.aload_n 1, 1) := by decide +kernel
theorem dX1_addRound_133 : decode cX1_addRound 133 = .ok (.iload 8, 2) := by decide +kernel
theorem dX1_addRound_135 : decode cX1_addRound 135 = .ok (.invokevirtual 113, 3) := by decide +kernel
theorem dX1_addRound_138 : decode cX1_addRound 138 = .ok (.iconst 1, 1) := by decide +kernel
theorem dX1_addRound_139 : decode cX1_addRound 139 = .ok (.istore 4, 2) := by decide +kernel
theorem dX1_addRound_141 : decode cX1_addRound 141 = .ok (.iinc 7 1, 3) := by decide +kernel
theorem dX1_addRound_144 : decode cX1_addRound 144 = .ok (.goto (-102), 3) := by decide +kernel
theorem dX1_addRound_147 : decode cX1_addRound 147 = .ok (.iinc 5 1, 3) := by decide +kernel
theorem dX1_addRound_150 : decode cX1_addRound 150 = .ok (.goto (-144), 3) := by decide +kernel
theorem dX1_addRound_153 : decode cX1_addRound 153 = .ok (.iload 4, 2) := by decide +kernel
theorem dX1_addRound_155 : decode cX1_addRound 155 = .ok (.ireturn, 1) := by decide +kernel
theorem dX1_enter_0 : decode cX1_enter 0 = .ok (.iload_n 1, 1) := by decide +kernel
theorem dX1_enter_1 : decode cX1_enter 1 = .ok (.ifCond .lt 10, 3) := by decide +kernel
theorem dX1_enter_4 : decode cX1_enter 4 = .ok (.iload_n 1, 1) := by decide +kernel
theorem dX1_enter_5 : decode cX1_enter 5 = .ok (.sipush 216, 3) := by decide +kernel
theorem dX1_enter_8 : decode cX1_enter 8 = .ok (.if_icmp .lt 4, 3) := by decide +kernel
theorem dX1_enter_11 : decode cX1_enter 11 = .ok (.return_, 1) := by decide +kernel
theorem dX1_enter_12 : decode cX1_enter 12 = .ok (.aload_n 0, 1) := by decide +kernel
theorem dX1_enter_13 : decode cX1_enter 13 = .ok (.getfield 31, 3) := by decide +kernel
theorem dX1_enter_16 : decode cX1_enter 16 = .ok (.iload_n 1, 1) := by decide +kernel
theorem dX1_enter_17 : decode cX1_enter 17 = .ok (.iload_n 2, 1) := by decide +kernel
theorem dX1_enter_18 : decode cX1_enter 18 = .ok (.iastore, 1) := by decide +kernel
theorem dX1_enter_19 : decode cX1_enter 19 = .ok (.aload_n 0, 1) := by decide +kernel
theorem dX1_enter_20 : decode cX1_enter 20 = .ok (.getfield 35, 3) := by decide +kernel
theorem dX1_enter_23 : decode cX1_enter 23 = .ok (.iload_n 1, 1) := by decide +kernel
theorem dX1_enter_24 : decode cX1_enter 24 = .ok (.iload_n 3, 1) := by decide +kernel
theorem dX1_enter_25 : decode cX1_enter 25 = .ok (.iastore, 1) := by decide +kernel
theorem dX1_enter_26 : decode cX1_enter 26 = .ok (.aload_n 0, 1) := by decide +kernel
theorem dX1_enter_27 : decode cX1_enter 27 = .ok (.getfield 38, 3) := by decide +kernel
theorem dX1_enter_30 : decode cX1_enter 30 = .ok (.iload_n 1, 1) := by decide +kernel
theorem dX1_enter_31 : decode cX1_enter 31 = .ok (.iload 4, 2) := by decide +kernel
theorem dX1_enter_33 : decode cX1_enter 33 = .ok (.iastore, 1) := by decide +kernel
theorem dX1_enter_34 : decode cX1_enter 34 = .ok (.aload_n 0, 1) := by decide +kernel
theorem dX1_enter_35 : decode cX1_enter 35 = .ok (.getfield 21, 3) := by decide +kernel
theorem dX1_enter_38 : decode cX1_enter 38 = .ok (.iload_n 1, 1) := by decide +kernel
theorem dX1_enter_39 : decode cX1_enter 39 = .ok (.invokevirtual 117, 3) := by decide +kernel
theorem dX1_enter_42 : decode cX1_enter 42 = .ok (.return_, 1) := by decide +kernel
theorem dX1_rest_0 : decode cX1_rest 0 = .ok (.iconst 0, 1) := by decide +kernel
theorem dX1_rest_1 : decode cX1_rest 1 = .ok (.istore_n 3, 1) := by decide +kernel
theorem dX1_rest_2 : decode cX1_rest 2 = .ok (.iload_n 3, 1) := by decide +kernel
theorem dX1_rest_3 : decode cX1_rest 3 = .ok (.iconst 3, 1) := by decide +kernel
theorem dX1_rest_4 : decode cX1_rest 4 = .ok (.if_icmp .ge 113, 3) := by decide +kernel
theorem dX1_rest_7 : decode cX1_rest 7 = .ok (.aload_n 0, 1) := by decide +kernel
theorem dX1_rest_8 : decode cX1_rest 8 = .ok (.aload_n 1, 1) := by decide +kernel
theorem dX1_rest_9 : decode cX1_rest 9 = .ok (.iload_n 2, 1) := by decide +kernel
theorem dX1_rest_10 : decode cX1_rest 10 = .ok (.iload_n 3, 1) := by decide +kernel
theorem dX1_rest_11 : decode cX1_rest 11 = .ok (.invokevirtual 121, 3) := by decide +kernel
theorem dX1_rest_14 : decode cX1_rest 14 = .ok (.istore 4, 2) := by decide +kernel
theorem dX1_rest_16 : decode cX1_rest 16 = .ok (.iload_n 2, 1) := by decide +kernel
theorem dX1_rest_17 : decode cX1_rest 17 = .ok (.ifCond .lt 94, 3) := by decide +kernel
theorem dX1_rest_20 : decode cX1_rest 20 = .ok (.iload_n 2, 1) := by decide +kernel
theorem dX1_rest_21 : decode cX1_rest 21 = .ok (.sipush 216, 3) := by decide +kernel
theorem dX1_rest_24 : decode cX1_rest 24 = .ok (.if_icmp .ge 87, 3) := by decide +kernel
theorem dX1_rest_27 : decode cX1_rest 27 = .ok (.iload 4, 2) := by decide +kernel
theorem dX1_rest_29 : decode cX1_rest 29 = .ok (.ifCond .lt 82, 3) := by decide +kernel
theorem dX1_rest_32 : decode cX1_rest 32 = .ok (.iload 4, 2) := by decide +kernel
theorem dX1_rest_34 : decode cX1_rest 34 = .ok (.sipush 216, 3) := by decide +kernel
theorem dX1_rest_37 : decode cX1_rest 37 = .ok (.if_icmp .lt 6, 3) := by decide +kernel
theorem dX1_rest_40 : decode cX1_rest 40 = .ok (.goto 71, 3) := by decide +kernel
theorem dX1_rest_43 : decode cX1_rest 43 = .ok (.aload_n 0, 1) := by decide +kernel
theorem dX1_rest_44 : decode cX1_rest 44 = .ok (.getfield 41, 3) := by decide +kernel
theorem dX1_rest_47 : decode cX1_rest 47 = .ok (.iload_n 2, 1) := by decide +kernel
theorem dX1_rest_48 : decode cX1_rest 48 = .ok (.aload_n 0, 1) := by decide +kernel
theorem dX1_rest_49 : decode cX1_rest 49 = .ok (.getfield 41, 3) := by decide +kernel
theorem dX1_rest_52 : decode cX1_rest 52 = .ok (.iload_n 2, 1) := by decide +kernel
theorem dX1_rest_53 : decode cX1_rest 53 = .ok (.iaload, 1) := by decide +kernel
theorem dX1_rest_54 : decode cX1_rest 54 = .ok (.aload_n 0, 1) := by decide +kernel
theorem dX1_rest_55 : decode cX1_rest 55 = .ok (.getfield 41, 3) := by decide +kernel
theorem dX1_rest_58 : decode cX1_rest 58 = .ok (.iload 4, 2) := by decide +kernel
theorem dX1_rest_60 : decode cX1_rest 60 = .ok (.iaload, 1) := by decide +kernel
theorem dX1_rest_61 : decode cX1_rest 61 = .ok (.iconst 1, 1) := by decide +kernel
theorem dX1_rest_62 : decode cX1_rest 62 = .ok (.iadd, 1) := by decide +kernel
theorem dX1_rest_63 : decode cX1_rest 63 = .ok (.invokestatic 125, 3) := by decide +kernel
theorem dX1_rest_66 : decode cX1_rest 66 = .ok (.iastore, 1) := by decide +kernel
theorem dX1_rest_67 : decode cX1_rest 67 = .ok (.iconst 0, 1) := by decide +kernel
theorem dX1_rest_68 : decode cX1_rest 68 = .ok (.istore 5, 2) := by decide +kernel
theorem dX1_rest_70 : decode cX1_rest 70 = .ok (.iload 5, 2) := by decide +kernel
theorem dX1_rest_72 : decode cX1_rest 72 = .ok (.bipush 6, 2) := by decide +kernel
theorem dX1_rest_74 : decode cX1_rest 74 = .ok (.if_icmp .ge 37, 3) := by decide +kernel
theorem dX1_rest_77 : decode cX1_rest 77 = .ok (.aload_n 0, 1) := by decide +kernel
theorem dX1_rest_78 : decode cX1_rest 78 = .ok (.getfield 44, 3) := by decide +kernel
theorem dX1_rest_81 : decode cX1_rest 81 = .ok (.bipush 6, 2) := by decide +kernel
theorem dX1_rest_83 : decode cX1_rest 83 = .ok (.iload_n 2, 1) := by decide +kernel
theorem dX1_rest_84 : decode cX1_rest 84 = .ok (.imul, 1) := by decide +kernel
theorem dX1_rest_85 : decode cX1_rest 85 = .ok (.iload 5, 2) := by decide +kernel
theorem dX1_rest_87 : decode cX1_rest 87 = .ok (.iadd, 1) := by decide +kernel
theorem dX1_rest_88 : decode cX1_rest 88 = .ok (.dup2, 1) := by decide +kernel
theorem dX1_rest_89 : decode cX1_rest 89 = .ok (.laload, 1) := by decide +kernel
theorem dX1_rest_90 : decode cX1_rest 90 = .ok (.aload_n 0, 1) := by decide +kernel
theorem dX1_rest_91 : decode cX1_rest 91 = .ok (.getfield 44, 3) := by decide +kernel
theorem dX1_rest_94 : decode cX1_rest 94 = .ok (.bipush 6, 2) := by decide +kernel
theorem dX1_rest_96 : decode cX1_rest 96 = .ok (.iload 4, 2) := by decide +kernel
theorem dX1_rest_98 : decode cX1_rest 98 = .ok (.imul, 1) := by decide +kernel
theorem dX1_rest_99 : decode cX1_rest 99 = .ok (.iload 5, 2) := by decide +kernel
theorem dX1_rest_101 : decode cX1_rest 101 = .ok (.iadd, 1) := by decide +kernel
theorem dX1_rest_102 : decode cX1_rest 102 = .ok (.laload, 1) := by decide +kernel
theorem dX1_rest_103 : decode cX1_rest 103 = .ok (.lor, 1) := by decide +kernel
theorem dX1_rest_104 : decode cX1_rest 104 = .ok (.lastore, 1) := by decide +kernel
theorem dX1_rest_105 : decode cX1_rest 105 = .ok (.iinc 5 1, 3) := by decide +kernel
theorem dX1_rest_108 : decode cX1_rest 108 = .ok (.goto (-38), 3) := by decide +kernel
theorem dX1_rest_111 : decode cX1_rest 111 = .ok (.iinc 3 1, 3) := by decide +kernel
theorem dX1_rest_114 : decode cX1_rest 114 = .ok (.goto (-112), 3) := by decide +kernel
theorem dX1_rest_117 : decode cX1_rest 117 = .ok (.return_, 1) := by decide +kernel
theorem dX1_maker_0 : decode cX1_maker 0 = .ok (.iload_n 1, 1) := by decide +kernel
theorem dX1_maker_1 : decode cX1_maker 1 = .ok (.ifCond .lt 21, 3) := by decide +kernel
theorem dX1_maker_4 : decode cX1_maker 4 = .ok (.iload_n 1, 1) := by decide +kernel
theorem dX1_maker_5 : decode cX1_maker 5 = .ok (.aload_n 0, 1) := by decide +kernel
theorem dX1_maker_6 : decode cX1_maker 6 = .ok (.getfield 35, 3) := by decide +kernel
theorem dX1_maker_9 : decode cX1_maker 9 = .ok (.arraylength, 1) := by decide +kernel
theorem dX1_maker_10 : decode cX1_maker 10 = .ok (.if_icmp .ge 12, 3) := by decide +kernel
theorem dX1_maker_13 : decode cX1_maker 13 = .ok (.aload_n 0, 1) := by decide +kernel
theorem dX1_maker_14 : decode cX1_maker 14 = .ok (.getfield 35, 3) := by decide +kernel
theorem dX1_maker_17 : decode cX1_maker 17 = .ok (.iload_n 1, 1) := by decide +kernel
theorem dX1_maker_18 : decode cX1_maker 18 = .ok (.iaload, 1) := by decide +kernel
theorem dX1_maker_19 : decode cX1_maker 19 = .ok (.goto 4, 3) := by decide +kernel
theorem dX1_maker_22 : decode cX1_maker 22 = .ok (.iconst (-1), 1) := by decide +kernel
theorem dX1_maker_23 : decode cX1_maker 23 = .ok (.ireturn, 1) := by decide +kernel
theorem dX1_need_0 : decode cX1_need 0 = .ok (.iload_n 2, 1) := by decide +kernel
theorem dX1_need_1 : decode cX1_need 1 = .ok (.ifCond .lt 10, 3) := by decide +kernel
theorem dX1_need_4 : decode cX1_need 4 = .ok (.iload_n 2, 1) := by decide +kernel
theorem dX1_need_5 : decode cX1_need 5 = .ok (.sipush 216, 3) := by decide +kernel
theorem dX1_need_8 : decode cX1_need 8 = .ok (.if_icmp .lt 5, 3) := by decide +kernel
theorem dX1_need_11 : decode cX1_need 11 = .ok (.iconst (-1), 1) := by decide +kernel
theorem dX1_need_12 : decode cX1_need 12 = .ok (.ireturn, 1) := by decide +kernel
theorem dX1_need_13 : decode cX1_need 13 = .ok (.aload_n 1, 1) := by decide +kernel
theorem dX1_need_14 : decode cX1_need 14 = .ok (.aload_n 0, 1) := by decide +kernel
theorem dX1_need_15 : decode cX1_need 15 = .ok (.getfield 35, 3) := by decide +kernel
theorem dX1_need_18 : decode cX1_need 18 = .ok (.iload_n 2, 1) := by decide +kernel
theorem dX1_need_19 : decode cX1_need 19 = .ok (.iaload, 1) := by decide +kernel
theorem dX1_need_20 : decode cX1_need 20 = .ok (.iload_n 3, 1) := by decide +kernel
theorem dX1_need_21 : decode cX1_need 21 = .ok (.invokevirtual 131, 3) := by decide +kernel
theorem dX1_need_24 : decode cX1_need 24 = .ok (.istore 4, 2) := by decide +kernel
theorem dX1_need_26 : decode cX1_need 26 = .ok (.iload 4, 2) := by decide +kernel
theorem dX1_need_28 : decode cX1_need 28 = .ok (.ifCond .gt 5, 3) := by decide +kernel
theorem dX1_need_31 : decode cX1_need 31 = .ok (.iconst (-1), 1) := by decide +kernel
theorem dX1_need_32 : decode cX1_need 32 = .ok (.ireturn, 1) := by decide +kernel
theorem dX1_need_33 : decode cX1_need 33 = .ok (.iload 4, 2) := by decide +kernel
theorem dX1_need_35 : decode cX1_need 35 = .ok (.invokestatic 134, 3) := by decide +kernel
theorem dX1_need_38 : decode cX1_need 38 = .ok (.iload_n 2, 1) := by decide +kernel
theorem dX1_need_39 : decode cX1_need 39 = .ok (.aload_n 0, 1) := by decide +kernel
theorem dX1_need_40 : decode cX1_need 40 = .ok (.getfield 38, 3) := by decide +kernel
theorem dX1_need_43 : decode cX1_need 43 = .ok (.iload_n 2, 1) := by decide +kernel
theorem dX1_need_44 : decode cX1_need 44 = .ok (.iaload, 1) := by decide +kernel
theorem dX1_need_45 : decode cX1_need 45 = .ok (.invokestatic 137, 3) := by decide +kernel
theorem dX1_need_48 : decode cX1_need 48 = .ok (.istore 5, 2) := by decide +kernel
theorem dX1_need_50 : decode cX1_need 50 = .ok (.iload 4, 2) := by decide +kernel
theorem dX1_need_52 : decode cX1_need 52 = .ok (.invokestatic 141, 3) := by decide +kernel
theorem dX1_need_55 : decode cX1_need 55 = .ok (.iload_n 2, 1) := by decide +kernel
theorem dX1_need_56 : decode cX1_need 56 = .ok (.aload_n 0, 1) := by decide +kernel
theorem dX1_need_57 : decode cX1_need 57 = .ok (.getfield 38, 3) := by decide +kernel
theorem dX1_need_60 : decode cX1_need 60 = .ok (.iload_n 2, 1) := by decide +kernel
theorem dX1_need_61 : decode cX1_need 61 = .ok (.iaload, 1) := by decide +kernel
theorem dX1_need_62 : decode cX1_need 62 = .ok (.invokestatic 137, 3) := by decide +kernel
theorem dX1_need_65 : decode cX1_need 65 = .ok (.istore 6, 2) := by decide +kernel
theorem dX1_need_67 : decode cX1_need 67 = .ok (.iload 4, 2) := by decide +kernel
theorem dX1_need_69 : decode cX1_need 69 = .ok (.invokestatic 144, 3) := by decide +kernel
theorem dX1_need_72 : decode cX1_need 72 = .ok (.iload 5, 2) := by decide +kernel
theorem dX1_need_74 : decode cX1_need 74 = .ok (.iload 6, 2) := by decide +kernel
theorem dX1_need_76 : decode cX1_need 76 = .ok (.invokestatic 147, 3) := by decide +kernel
theorem dX1_need_79 : decode cX1_need 79 = .ok (.ireturn, 1) := by decide +kernel
theorem dX1_person_0 : decode cX1_person 0 = .ok (.iload_n 0, 1) := by decide +kernel
theorem dX1_person_1 : decode cX1_person 1 = .ok (.iconst 2, 1) := by decide +kernel
theorem dX1_person_2 : decode cX1_person 2 = .ok (.if_icmp .ne 5, 3) := by decide +kernel
theorem dX1_person_5 : decode cX1_person 5 = .ok (.iload_n 2, 1) := by decide +kernel
theorem dX1_person_6 : decode cX1_person 6 = .ok (.ireturn, 1) := by decide +kernel
theorem dX1_person_7 : decode cX1_person 7 = .ok (.iload_n 0, 1) := by decide +kernel
theorem dX1_person_8 : decode cX1_person 8 = .ok (.ifCond .ne 13, 3) := by decide +kernel
theorem dX1_person_11 : decode cX1_person 11 = .ok (.iload_n 1, 1) := by decide +kernel
theorem dX1_person_12 : decode cX1_person 12 = .ok (.bipush 6, 2) := by decide +kernel
theorem dX1_person_14 : decode cX1_person 14 = .ok (.idiv, 1) := by decide +kernel
theorem dX1_person_15 : decode cX1_person 15 = .ok (.bipush 6, 2) := by decide +kernel
theorem dX1_person_17 : decode cX1_person 17 = .ok (.irem, 1) := by decide +kernel
theorem dX1_person_18 : decode cX1_person 18 = .ok (.goto 7, 3) := by decide +kernel
theorem dX1_person_21 : decode cX1_person 21 = .ok (.iload_n 1, 1) := by decide +kernel
theorem dX1_person_22 : decode cX1_person 22 = .ok (.bipush 6, 2) := by decide +kernel
theorem dX1_person_24 : decode cX1_person 24 = .ok (.irem, 1) := by decide +kernel
theorem dX1_person_25 : decode cX1_person 25 = .ok (.ireturn, 1) := by decide +kernel
theorem dX1_needs_0 : decode cX1_needs 0 = .ok (.aload_n 0, 1) := by decide +kernel
theorem dX1_needs_1 : decode cX1_needs 1 = .ok (.aload_n 1, 1) := by decide +kernel
theorem dX1_needs_2 : decode cX1_needs 2 = .ok (.iload_n 2, 1) := by decide +kernel
theorem dX1_needs_3 : decode cX1_needs 3 = .ok (.iconst 0, 1) := by decide +kernel
theorem dX1_needs_4 : decode cX1_needs 4 = .ok (.invokevirtual 121, 3) := by decide +kernel
theorem dX1_needs_7 : decode cX1_needs 7 = .ok (.istore_n 3, 1) := by decide +kernel
theorem dX1_needs_8 : decode cX1_needs 8 = .ok (.aload_n 0, 1) := by decide +kernel
theorem dX1_needs_9 : decode cX1_needs 9 = .ok (.aload_n 1, 1) := by decide +kernel
theorem dX1_needs_10 : decode cX1_needs 10 = .ok (.iload_n 2, 1) := by decide +kernel
theorem dX1_needs_11 : decode cX1_needs 11 = .ok (.iconst 1, 1) := by decide +kernel
theorem dX1_needs_12 : decode cX1_needs 12 = .ok (.invokevirtual 121, 3) := by decide +kernel
theorem dX1_needs_15 : decode cX1_needs 15 = .ok (.istore 4, 2) := by decide +kernel
theorem dX1_needs_17 : decode cX1_needs 17 = .ok (.aload_n 0, 1) := by decide +kernel
theorem dX1_needs_18 : decode cX1_needs 18 = .ok (.aload_n 1, 1) := by decide +kernel
theorem dX1_needs_19 : decode cX1_needs 19 = .ok (.iload_n 2, 1) := by decide +kernel
theorem dX1_needs_20 : decode cX1_needs 20 = .ok (.iconst 2, 1) := by decide +kernel
theorem dX1_needs_21 : decode cX1_needs 21 = .ok (.invokevirtual 121, 3) := by decide +kernel
theorem dX1_needs_24 : decode cX1_needs 24 = .ok (.istore 5, 2) := by decide +kernel
theorem dX1_needs_26 : decode cX1_needs 26 = .ok (.iload_n 3, 1) := by decide +kernel
theorem dX1_needs_27 : decode cX1_needs 27 = .ok (.ifCond .lt 7, 3) := by decide +kernel
theorem dX1_needs_30 : decode cX1_needs 30 = .ok (.iconst 1, 1) := by decide +kernel
theorem dX1_needs_31 : decode cX1_needs 31 = .ok (.goto 4, 3) := by decide +kernel
theorem dX1_needs_34 : decode cX1_needs 34 = .ok (.iconst 0, 1) := by decide +kernel
theorem dX1_needs_35 : decode cX1_needs 35 = .ok (.istore 6, 2) := by decide +kernel
theorem dX1_needs_37 : decode cX1_needs 37 = .ok (.iload 4, 2) := by decide +kernel
theorem dX1_needs_39 : decode cX1_needs 39 = .ok (.ifCond .lt 12, 3) := by decide +kernel
theorem dX1_needs_42 : decode cX1_needs 42 = .ok (.iload 4, 2) := by decide +kernel
theorem dX1_needs_44 : decode cX1_needs 44 = .ok (.iload_n 3, 1) := by decide +kernel
theorem dX1_needs_45 : decode cX1_needs 45 = .ok (.if_icmp .eq 6, 3) := by decide +kernel
theorem dX1_needs_48 : decode cX1_needs 48 = .ok (.iinc 6 1, 3) := by decide +kernel
theorem dX1_needs_51 : decode cX1_needs 51 = .ok (.iload 5, 2) := by decide +kernel
theorem dX1_needs_53 : decode cX1_needs 53 = .ok (.ifCond .lt 19, 3) := by decide +kernel
theorem dX1_needs_56 : decode cX1_needs 56 = .ok (.iload 5, 2) := by decide +kernel
theorem dX1_needs_58 : decode cX1_needs 58 = .ok (.iload_n 3, 1) := by decide +kernel
theorem dX1_needs_59 : decode cX1_needs 59 = .ok (.if_icmp .eq 13, 3) := by decide +kernel
theorem dX1_needs_62 : decode cX1_needs 62 = .ok (.iload 5, 2) := by decide +kernel
theorem dX1_needs_64 : decode cX1_needs 64 = .ok (.iload 4, 2) := by decide +kernel
theorem dX1_needs_66 : decode cX1_needs 66 = .ok (.if_icmp .eq 6, 3) := by decide +kernel
theorem dX1_needs_69 : decode cX1_needs 69 = .ok (.iinc 6 1, 3) := by decide +kernel
theorem dX1_needs_72 : decode cX1_needs 72 = .ok (.iload 6, 2) := by decide +kernel
theorem dX1_needs_74 : decode cX1_needs 74 = .ok (.ireturn, 1) := by decide +kernel
theorem dX1_sizeOf_0 : decode cX1_sizeOf 0 = .ok (.iload_n 1, 1) := by decide +kernel
theorem dX1_sizeOf_1 : decode cX1_sizeOf 1 = .ok (.ifCond .lt 10, 3) := by decide +kernel
theorem dX1_sizeOf_4 : decode cX1_sizeOf 4 = .ok (.iload_n 1, 1) := by decide +kernel
theorem dX1_sizeOf_5 : decode cX1_sizeOf 5 = .ok (.sipush 216, 3) := by decide +kernel
theorem dX1_sizeOf_8 : decode cX1_sizeOf 8 = .ok (.if_icmp .lt 5, 3) := by decide +kernel
theorem dX1_sizeOf_11 : decode cX1_sizeOf 11 = .ok (.iconst 0, 1) := by decide +kernel
theorem dX1_sizeOf_12 : decode cX1_sizeOf 12 = .ok (.ireturn, 1) := by decide +kernel
theorem dX1_sizeOf_13 : decode cX1_sizeOf 13 = .ok (.iconst 0, 1) := by decide +kernel
theorem dX1_sizeOf_14 : decode cX1_sizeOf 14 = .ok (.istore_n 2, 1) := by decide +kernel
theorem dX1_sizeOf_15 : decode cX1_sizeOf 15 = .ok (.iconst 0, 1) := by decide +kernel
theorem dX1_sizeOf_16 : decode cX1_sizeOf 16 = .ok (.istore_n 3, 1) := by decide +kernel
theorem dX1_sizeOf_17 : decode cX1_sizeOf 17 = .ok (.iload_n 3, 1) := by decide +kernel
theorem dX1_sizeOf_18 : decode cX1_sizeOf 18 = .ok (.bipush 6, 2) := by decide +kernel
theorem dX1_sizeOf_20 : decode cX1_sizeOf 20 = .ok (.if_icmp .ge 26, 3) := by decide +kernel
theorem dX1_sizeOf_23 : decode cX1_sizeOf 23 = .ok (.iload_n 2, 1) := by decide +kernel
theorem dX1_sizeOf_24 : decode cX1_sizeOf 24 = .ok (.aload_n 0, 1) := by decide +kernel
theorem dX1_sizeOf_25 : decode cX1_sizeOf 25 = .ok (.getfield 44, 3) := by decide +kernel
theorem dX1_sizeOf_28 : decode cX1_sizeOf 28 = .ok (.bipush 6, 2) := by decide +kernel
theorem dX1_sizeOf_30 : decode cX1_sizeOf 30 = .ok (.iload_n 1, 1) := by decide +kernel
theorem dX1_sizeOf_31 : decode cX1_sizeOf 31 = .ok (.imul, 1) := by decide +kernel
theorem dX1_sizeOf_32 : decode cX1_sizeOf 32 = .ok (.iload_n 3, 1) := by decide +kernel
theorem dX1_sizeOf_33 : decode cX1_sizeOf 33 = .ok (.iadd, 1) := by decide +kernel
theorem dX1_sizeOf_34 : decode cX1_sizeOf 34 = .ok (.laload, 1) := by decide +kernel
theorem dX1_sizeOf_35 : decode cX1_sizeOf 35 = .ok (.invokestatic 150, 3) := by decide +kernel
theorem dX1_sizeOf_38 : decode cX1_sizeOf 38 = .ok (.iadd, 1) := by decide +kernel
theorem dX1_sizeOf_39 : decode cX1_sizeOf 39 = .ok (.istore_n 2, 1) := by decide +kernel
theorem dX1_sizeOf_40 : decode cX1_sizeOf 40 = .ok (.iinc 3 1, 3) := by decide +kernel
theorem dX1_sizeOf_43 : decode cX1_sizeOf 43 = .ok (.goto (-26), 3) := by decide +kernel
theorem dX1_sizeOf_46 : decode cX1_sizeOf 46 = .ok (.iload_n 2, 1) := by decide +kernel
theorem dX1_sizeOf_47 : decode cX1_sizeOf 47 = .ok (.ireturn, 1) := by decide +kernel
theorem dX1_derivationsWith_0 : decode cX1_derivationsWith 0 = .ok (.iconst 0, 1) := by decide +kernel
theorem dX1_derivationsWith_1 : decode cX1_derivationsWith 1 = .ok (.istore_n 2, 1) := by decide +kernel
theorem dX1_derivationsWith_2 : decode cX1_derivationsWith 2 = .ok (.iconst 0, 1) := by decide +kernel
theorem dX1_derivationsWith_3 : decode cX1_derivationsWith 3 = .ok (.istore_n 3, 1) := by decide +kernel
theorem dX1_derivationsWith_4 : decode cX1_derivationsWith 4 = .ok (.iload_n 3, 1) := by decide +kernel
theorem dX1_derivationsWith_5 : decode cX1_derivationsWith 5 = .ok (.sipush 216, 3) := by decide +kernel
theorem dX1_derivationsWith_8 : decode cX1_derivationsWith 8 = .ok (.if_icmp .ge 22, 3) := by decide +kernel
theorem dX1_derivationsWith_11 : decode cX1_derivationsWith 11 = .ok (.aload_n 0, 1) := by decide +kernel
theorem dX1_derivationsWith_12 : decode cX1_derivationsWith 12 = .ok (.getfield 35, 3) := by decide +kernel
theorem dX1_derivationsWith_15 : decode cX1_derivationsWith 15 = .ok (.iload_n 3, 1) := by decide +kernel
theorem dX1_derivationsWith_16 : decode cX1_derivationsWith 16 = .ok (.iaload, 1) := by decide +kernel
theorem dX1_derivationsWith_17 : decode cX1_derivationsWith 17 = .ok (.iload_n 1, 1) := by decide +kernel
theorem dX1_derivationsWith_18 : decode cX1_derivationsWith 18 = .ok (.if_icmp .ne 6, 3) := by decide +kernel
theorem dX1_derivationsWith_21 : decode cX1_derivationsWith 21 = .ok (.iinc 2 1, 3) := by decide +kernel
theorem dX1_derivationsWith_24 : decode cX1_derivationsWith 24 = .ok (.iinc 3 1, 3) := by decide +kernel
theorem dX1_derivationsWith_27 : decode cX1_derivationsWith 27 = .ok (.goto (-23), 3) := by decide +kernel
theorem dX1_derivationsWith_30 : decode cX1_derivationsWith 30 = .ok (.iload_n 2, 1) := by decide +kernel
theorem dX1_derivationsWith_31 : decode cX1_derivationsWith 31 = .ok (.ireturn, 1) := by decide +kernel
theorem dX1_lastStage_0 : decode cX1_lastStage 0 = .ok (.iconst 0, 1) := by decide +kernel
theorem dX1_lastStage_1 : decode cX1_lastStage 1 = .ok (.istore_n 2, 1) := by decide +kernel
theorem dX1_lastStage_2 : decode cX1_lastStage 2 = .ok (.iconst 0, 1) := by decide +kernel
theorem dX1_lastStage_3 : decode cX1_lastStage 3 = .ok (.istore_n 3, 1) := by decide +kernel
theorem dX1_lastStage_4 : decode cX1_lastStage 4 = .ok (.iload_n 3, 1) := by decide +kernel
theorem dX1_lastStage_5 : decode cX1_lastStage 5 = .ok (.sipush 216, 3) := by decide +kernel
theorem dX1_lastStage_8 : decode cX1_lastStage 8 = .ok (.if_icmp .ge 28, 3) := by decide +kernel
theorem dX1_lastStage_11 : decode cX1_lastStage 11 = .ok (.iload_n 3, 1) := by decide +kernel
theorem dX1_lastStage_12 : decode cX1_lastStage 12 = .ok (.bipush 36, 2) := by decide +kernel
theorem dX1_lastStage_14 : decode cX1_lastStage 14 = .ok (.idiv, 1) := by decide +kernel
theorem dX1_lastStage_15 : decode cX1_lastStage 15 = .ok (.iload_n 1, 1) := by decide +kernel
theorem dX1_lastStage_16 : decode cX1_lastStage 16 = .ok (.if_icmp .ne 14, 3) := by decide +kernel
theorem dX1_lastStage_19 : decode cX1_lastStage 19 = .ok (.iload_n 2, 1) := by decide +kernel
theorem dX1_lastStage_20 : decode cX1_lastStage 20 = .ok (.aload_n 0, 1) := by decide +kernel
theorem dX1_lastStage_21 : decode cX1_lastStage 21 = .ok (.getfield 31, 3) := by decide +kernel
theorem dX1_lastStage_24 : decode cX1_lastStage 24 = .ok (.iload_n 3, 1) := by decide +kernel
theorem dX1_lastStage_25 : decode cX1_lastStage 25 = .ok (.iaload, 1) := by decide +kernel
theorem dX1_lastStage_26 : decode cX1_lastStage 26 = .ok (.invokestatic 125, 3) := by decide +kernel
theorem dX1_lastStage_29 : decode cX1_lastStage 29 = .ok (.istore_n 2, 1) := by decide +kernel
theorem dX1_lastStage_30 : decode cX1_lastStage 30 = .ok (.iinc 3 1, 3) := by decide +kernel
theorem dX1_lastStage_33 : decode cX1_lastStage 33 = .ok (.goto (-29), 3) := by decide +kernel
theorem dX1_lastStage_36 : decode cX1_lastStage 36 = .ok (.iload_n 2, 1) := by decide +kernel
theorem dX1_lastStage_37 : decode cX1_lastStage 37 = .ok (.ireturn, 1) := by decide +kernel
theorem dX1_roundsOf_0 : decode cX1_roundsOf 0 = .ok (.iconst 0, 1) := by decide +kernel
theorem dX1_roundsOf_1 : decode cX1_roundsOf 1 = .ok (.istore_n 2, 1) := by decide +kernel
theorem dX1_roundsOf_2 : decode cX1_roundsOf 2 = .ok (.iconst 0, 1) := by decide +kernel
theorem dX1_roundsOf_3 : decode cX1_roundsOf 3 = .ok (.istore_n 3, 1) := by decide +kernel
theorem dX1_roundsOf_4 : decode cX1_roundsOf 4 = .ok (.iload_n 3, 1) := by decide +kernel
theorem dX1_roundsOf_5 : decode cX1_roundsOf 5 = .ok (.bipush 6, 2) := by decide +kernel
theorem dX1_roundsOf_7 : decode cX1_roundsOf 7 = .ok (.if_icmp .ge 31, 3) := by decide +kernel
theorem dX1_roundsOf_10 : decode cX1_roundsOf 10 = .ok (.aload_n 0, 1) := by decide +kernel
theorem dX1_roundsOf_11 : decode cX1_roundsOf 11 = .ok (.getfield 27, 3) := by decide +kernel
theorem dX1_roundsOf_14 : decode cX1_roundsOf 14 = .ok (.iload_n 3, 1) := by decide +kernel
theorem dX1_roundsOf_15 : decode cX1_roundsOf 15 = .ok (.invokevirtual 95, 3) := by decide +kernel
theorem dX1_roundsOf_18 : decode cX1_roundsOf 18 = .ok (.iload_n 1, 1) := by decide +kernel
theorem dX1_roundsOf_19 : decode cX1_roundsOf 19 = .ok (.if_icmp .ne 13, 3) := by decide +kernel
theorem dX1_roundsOf_22 : decode cX1_roundsOf 22 = .ok (.iload_n 2, 1) := by decide +kernel
theorem dX1_roundsOf_23 : decode cX1_roundsOf 23 = .ok (.aload_n 0, 1) := by decide +kernel
theorem dX1_roundsOf_24 : decode cX1_roundsOf 24 = .ok (.iload_n 3, 1) := by decide +kernel
theorem dX1_roundsOf_25 : decode cX1_roundsOf 25 = .ok (.invokevirtual 156, 3) := by decide +kernel
theorem dX1_roundsOf_28 : decode cX1_roundsOf 28 = .ok (.invokestatic 125, 3) := by decide +kernel
theorem dX1_roundsOf_31 : decode cX1_roundsOf 31 = .ok (.istore_n 2, 1) := by decide +kernel
theorem dX1_roundsOf_32 : decode cX1_roundsOf 32 = .ok (.iinc 3 1, 3) := by decide +kernel
theorem dX1_roundsOf_35 : decode cX1_roundsOf 35 = .ok (.goto (-31), 3) := by decide +kernel
theorem dX1_roundsOf_38 : decode cX1_roundsOf 38 = .ok (.iload_n 2, 1) := by decide +kernel
theorem dX1_roundsOf_39 : decode cX1_roundsOf 39 = .ok (.ireturn, 1) := by decide +kernel
theorem dX1_allRounds_0 : decode cX1_allRounds 0 = .ok (.iconst 0, 1) := by decide +kernel
theorem dX1_allRounds_1 : decode cX1_allRounds 1 = .ok (.istore_n 1, 1) := by decide +kernel
theorem dX1_allRounds_2 : decode cX1_allRounds 2 = .ok (.aload_n 0, 1) := by decide +kernel
theorem dX1_allRounds_3 : decode cX1_allRounds 3 = .ok (.getfield 27, 3) := by decide +kernel
theorem dX1_allRounds_6 : decode cX1_allRounds 6 = .ok (.invokevirtual 75, 3) := by decide +kernel
theorem dX1_allRounds_9 : decode cX1_allRounds 9 = .ok (.istore_n 2, 1) := by decide +kernel
theorem dX1_allRounds_10 : decode cX1_allRounds 10 = .ok (.iconst 0, 1) := by decide +kernel
theorem dX1_allRounds_11 : decode cX1_allRounds 11 = .ok (.istore_n 3, 1) := by decide +kernel
theorem dX1_allRounds_12 : decode cX1_allRounds 12 = .ok (.iload_n 3, 1) := by decide +kernel
theorem dX1_allRounds_13 : decode cX1_allRounds 13 = .ok (.iload_n 2, 1) := by decide +kernel
theorem dX1_allRounds_14 : decode cX1_allRounds 14 = .ok (.if_icmp .ge 17, 3) := by decide +kernel
theorem dX1_allRounds_17 : decode cX1_allRounds 17 = .ok (.iload_n 1, 1) := by decide +kernel
theorem dX1_allRounds_18 : decode cX1_allRounds 18 = .ok (.aload_n 0, 1) := by decide +kernel
theorem dX1_allRounds_19 : decode cX1_allRounds 19 = .ok (.iload_n 3, 1) := by decide +kernel
theorem dX1_allRounds_20 : decode cX1_allRounds 20 = .ok (.invokevirtual 159, 3) := by decide +kernel
theorem dX1_allRounds_23 : decode cX1_allRounds 23 = .ok (.iadd, 1) := by decide +kernel
theorem dX1_allRounds_24 : decode cX1_allRounds 24 = .ok (.istore_n 1, 1) := by decide +kernel
theorem dX1_allRounds_25 : decode cX1_allRounds 25 = .ok (.iinc 3 1, 3) := by decide +kernel
theorem dX1_allRounds_28 : decode cX1_allRounds 28 = .ok (.goto (-16), 3) := by decide +kernel
theorem dX1_allRounds_31 : decode cX1_allRounds 31 = .ok (.iload_n 1, 1) := by decide +kernel
theorem dX1_allRounds_32 : decode cX1_allRounds 32 = .ok (.ireturn, 1) := by decide +kernel
theorem dX1_freshIn_0 : decode cX1_freshIn 0 = .ok (.iconst 0, 1) := by decide +kernel
theorem dX1_freshIn_1 : decode cX1_freshIn 1 = .ok (.istore_n 3, 1) := by decide +kernel
theorem dX1_freshIn_2 : decode cX1_freshIn 2 = .ok (.iconst 0, 1) := by decide +kernel
theorem dX1_freshIn_3 : decode cX1_freshIn 3 = .ok (.istore 4, 2) := by decide +kernel
theorem dX1_freshIn_5 : decode cX1_freshIn 5 = .ok (.iload 4, 2) := by decide +kernel
theorem dX1_freshIn_7 : decode cX1_freshIn 7 = .ok (.sipush 216, 3) := by decide +kernel
theorem dX1_freshIn_10 : decode cX1_freshIn 10 = .ok (.if_icmp .ge 39, 3) := by decide +kernel
theorem dX1_freshIn_13 : decode cX1_freshIn 13 = .ok (.aload_n 0, 1) := by decide +kernel
theorem dX1_freshIn_14 : decode cX1_freshIn 14 = .ok (.getfield 31, 3) := by decide +kernel
theorem dX1_freshIn_17 : decode cX1_freshIn 17 = .ok (.iload 4, 2) := by decide +kernel
theorem dX1_freshIn_19 : decode cX1_freshIn 19 = .ok (.iaload, 1) := by decide +kernel
theorem dX1_freshIn_20 : decode cX1_freshIn 20 = .ok (.iload_n 2, 1) := by decide +kernel
theorem dX1_freshIn_21 : decode cX1_freshIn 21 = .ok (.if_icmp .ne 22, 3) := by decide +kernel
theorem dX1_freshIn_24 : decode cX1_freshIn 24 = .ok (.aload_n 0, 1) := by decide +kernel
theorem dX1_freshIn_25 : decode cX1_freshIn 25 = .ok (.getfield 27, 3) := by decide +kernel
theorem dX1_freshIn_28 : decode cX1_freshIn 28 = .ok (.iload 4, 2) := by decide +kernel
theorem dX1_freshIn_30 : decode cX1_freshIn 30 = .ok (.bipush 36, 2) := by decide +kernel
theorem dX1_freshIn_32 : decode cX1_freshIn 32 = .ok (.idiv, 1) := by decide +kernel
theorem dX1_freshIn_33 : decode cX1_freshIn 33 = .ok (.invokevirtual 95, 3) := by decide +kernel
theorem dX1_freshIn_36 : decode cX1_freshIn 36 = .ok (.iload_n 1, 1) := by decide +kernel
theorem dX1_freshIn_37 : decode cX1_freshIn 37 = .ok (.if_icmp .ne 6, 3) := by decide +kernel
theorem dX1_freshIn_40 : decode cX1_freshIn 40 = .ok (.iinc 3 1, 3) := by decide +kernel
theorem dX1_freshIn_43 : decode cX1_freshIn 43 = .ok (.iinc 4 1, 3) := by decide +kernel
theorem dX1_freshIn_46 : decode cX1_freshIn 46 = .ok (.goto (-41), 3) := by decide +kernel
theorem dX1_freshIn_49 : decode cX1_freshIn 49 = .ok (.iload_n 3, 1) := by decide +kernel
theorem dX1_freshIn_50 : decode cX1_freshIn 50 = .ok (.ireturn, 1) := by decide +kernel
theorem dX1_greatestStage_0 : decode cX1_greatestStage 0 = .ok (.iconst 0, 1) := by decide +kernel
theorem dX1_greatestStage_1 : decode cX1_greatestStage 1 = .ok (.istore_n 1, 1) := by decide +kernel
theorem dX1_greatestStage_2 : decode cX1_greatestStage 2 = .ok (.iconst 0, 1) := by decide +kernel
theorem dX1_greatestStage_3 : decode cX1_greatestStage 3 = .ok (.istore_n 2, 1) := by decide +kernel
theorem dX1_greatestStage_4 : decode cX1_greatestStage 4 = .ok (.iload_n 2, 1) := by decide +kernel
theorem dX1_greatestStage_5 : decode cX1_greatestStage 5 = .ok (.sipush 216, 3) := by decide +kernel
theorem dX1_greatestStage_8 : decode cX1_greatestStage 8 = .ok (.if_icmp .ge 20, 3) := by decide +kernel
theorem dX1_greatestStage_11 : decode cX1_greatestStage 11 = .ok (.iload_n 1, 1) := by decide +kernel
theorem dX1_greatestStage_12 : decode cX1_greatestStage 12 = .ok (.aload_n 0, 1) := by decide +kernel
theorem dX1_greatestStage_13 : decode cX1_greatestStage 13 = .ok (.getfield 31, 3) := by decide +kernel
theorem dX1_greatestStage_16 : decode cX1_greatestStage 16 = .ok (.iload_n 2, 1) := by decide +kernel
theorem dX1_greatestStage_17 : decode cX1_greatestStage 17 = .ok (.iaload, 1) := by decide +kernel
theorem dX1_greatestStage_18 : decode cX1_greatestStage 18 = .ok (.invokestatic 125, 3) := by decide +kernel
theorem dX1_greatestStage_21 : decode cX1_greatestStage 21 = .ok (.istore_n 1, 1) := by decide +kernel
theorem dX1_greatestStage_22 : decode cX1_greatestStage 22 = .ok (.iinc 2 1, 3) := by decide +kernel
theorem dX1_greatestStage_25 : decode cX1_greatestStage 25 = .ok (.goto (-21), 3) := by decide +kernel
theorem dX1_greatestStage_28 : decode cX1_greatestStage 28 = .ok (.iload_n 1, 1) := by decide +kernel
theorem dX1_greatestStage_29 : decode cX1_greatestStage 29 = .ok (.ireturn, 1) := by decide +kernel
theorem dX1_greatestDepth_0 : decode cX1_greatestDepth 0 = .ok (.iconst 0, 1) := by decide +kernel
theorem dX1_greatestDepth_1 : decode cX1_greatestDepth 1 = .ok (.istore_n 1, 1) := by decide +kernel
theorem dX1_greatestDepth_2 : decode cX1_greatestDepth 2 = .ok (.iconst 0, 1) := by decide +kernel
theorem dX1_greatestDepth_3 : decode cX1_greatestDepth 3 = .ok (.istore_n 2, 1) := by decide +kernel
theorem dX1_greatestDepth_4 : decode cX1_greatestDepth 4 = .ok (.iload_n 2, 1) := by decide +kernel
theorem dX1_greatestDepth_5 : decode cX1_greatestDepth 5 = .ok (.sipush 216, 3) := by decide +kernel
theorem dX1_greatestDepth_8 : decode cX1_greatestDepth 8 = .ok (.if_icmp .ge 20, 3) := by decide +kernel
theorem dX1_greatestDepth_11 : decode cX1_greatestDepth 11 = .ok (.iload_n 1, 1) := by decide +kernel
theorem dX1_greatestDepth_12 : decode cX1_greatestDepth 12 = .ok (.aload_n 0, 1) := by decide +kernel
theorem dX1_greatestDepth_13 : decode cX1_greatestDepth 13 = .ok (.getfield 41, 3) := by decide +kernel
theorem dX1_greatestDepth_16 : decode cX1_greatestDepth 16 = .ok (.iload_n 2, 1) := by decide +kernel
theorem dX1_greatestDepth_17 : decode cX1_greatestDepth 17 = .ok (.iaload, 1) := by decide +kernel
theorem dX1_greatestDepth_18 : decode cX1_greatestDepth 18 = .ok (.invokestatic 125, 3) := by decide +kernel
theorem dX1_greatestDepth_21 : decode cX1_greatestDepth 21 = .ok (.istore_n 1, 1) := by decide +kernel
theorem dX1_greatestDepth_22 : decode cX1_greatestDepth 22 = .ok (.iinc 2 1, 3) := by decide +kernel
theorem dX1_greatestDepth_25 : decode cX1_greatestDepth 25 = .ok (.goto (-21), 3) := by decide +kernel
theorem dX1_greatestDepth_28 : decode cX1_greatestDepth 28 = .ok (.iload_n 1, 1) := by decide +kernel
theorem dX1_greatestDepth_29 : decode cX1_greatestDepth 29 = .ok (.ireturn, 1) := by decide +kernel
theorem dX1_greatestSize_0 : decode cX1_greatestSize 0 = .ok (.iconst 0, 1) := by decide +kernel
theorem dX1_greatestSize_1 : decode cX1_greatestSize 1 = .ok (.istore_n 1, 1) := by decide +kernel
theorem dX1_greatestSize_2 : decode cX1_greatestSize 2 = .ok (.iconst 0, 1) := by decide +kernel
theorem dX1_greatestSize_3 : decode cX1_greatestSize 3 = .ok (.istore_n 2, 1) := by decide +kernel
theorem dX1_greatestSize_4 : decode cX1_greatestSize 4 = .ok (.iload_n 2, 1) := by decide +kernel
theorem dX1_greatestSize_5 : decode cX1_greatestSize 5 = .ok (.sipush 216, 3) := by decide +kernel
theorem dX1_greatestSize_8 : decode cX1_greatestSize 8 = .ok (.if_icmp .ge 30, 3) := by decide +kernel
theorem dX1_greatestSize_11 : decode cX1_greatestSize 11 = .ok (.aload_n 0, 1) := by decide +kernel
theorem dX1_greatestSize_12 : decode cX1_greatestSize 12 = .ok (.getfield 12, 3) := by decide +kernel
theorem dX1_greatestSize_15 : decode cX1_greatestSize 15 = .ok (.iload_n 2, 1) := by decide +kernel
theorem dX1_greatestSize_16 : decode cX1_greatestSize 16 = .ok (.invokevirtual 98, 3) := by decide +kernel
theorem dX1_greatestSize_19 : decode cX1_greatestSize 19 = .ok (.ifCond .eq 13, 3) := by decide +kernel
theorem dX1_greatestSize_22 : decode cX1_greatestSize 22 = .ok (.iload_n 1, 1) := by decide +kernel
theorem dX1_greatestSize_23 : decode cX1_greatestSize 23 = .ok (.aload_n 0, 1) := by decide +kernel
theorem dX1_greatestSize_24 : decode cX1_greatestSize 24 = .ok (.iload_n 2, 1) := by decide +kernel
theorem dX1_greatestSize_25 : decode cX1_greatestSize 25 = .ok (.invokevirtual 162, 3) := by decide +kernel
theorem dX1_greatestSize_28 : decode cX1_greatestSize 28 = .ok (.invokestatic 125, 3) := by decide +kernel
theorem dX1_greatestSize_31 : decode cX1_greatestSize 31 = .ok (.istore_n 1, 1) := by decide +kernel
theorem dX1_greatestSize_32 : decode cX1_greatestSize 32 = .ok (.iinc 2 1, 3) := by decide +kernel
theorem dX1_greatestSize_35 : decode cX1_greatestSize 35 = .ok (.goto (-31), 3) := by decide +kernel
theorem dX1_greatestSize_38 : decode cX1_greatestSize 38 = .ok (.iload_n 1, 1) := by decide +kernel
theorem dX1_greatestSize_39 : decode cX1_greatestSize 39 = .ok (.ireturn, 1) := by decide +kernel
theorem dX1_allDepths_0 : decode cX1_allDepths 0 = .ok (.iconst 0, 1) := by decide +kernel
theorem dX1_allDepths_1 : decode cX1_allDepths 1 = .ok (.istore_n 1, 1) := by decide +kernel
theorem dX1_allDepths_2 : decode cX1_allDepths 2 = .ok (.iconst 0, 1) := by decide +kernel
theorem dX1_allDepths_3 : decode cX1_allDepths 3 = .ok (.istore_n 2, 1) := by decide +kernel
theorem dX1_allDepths_4 : decode cX1_allDepths 4 = .ok (.iload_n 2, 1) := by decide +kernel
theorem dX1_allDepths_5 : decode cX1_allDepths 5 = .ok (.sipush 216, 3) := by decide +kernel
theorem dX1_allDepths_8 : decode cX1_allDepths 8 = .ok (.if_icmp .ge 18, 3) := by decide +kernel
theorem dX1_allDepths_11 : decode cX1_allDepths 11 = .ok (.iload_n 1, 1) := by decide +kernel
theorem dX1_allDepths_12 : decode cX1_allDepths 12 = .ok (.aload_n 0, 1) := by decide +kernel
theorem dX1_allDepths_13 : decode cX1_allDepths 13 = .ok (.getfield 41, 3) := by decide +kernel
theorem dX1_allDepths_16 : decode cX1_allDepths 16 = .ok (.iload_n 2, 1) := by decide +kernel
theorem dX1_allDepths_17 : decode cX1_allDepths 17 = .ok (.iaload, 1) := by decide +kernel
theorem dX1_allDepths_18 : decode cX1_allDepths 18 = .ok (.iadd, 1) := by decide +kernel
theorem dX1_allDepths_19 : decode cX1_allDepths 19 = .ok (.istore_n 1, 1) := by decide +kernel
theorem dX1_allDepths_20 : decode cX1_allDepths 20 = .ok (.iinc 2 1, 3) := by decide +kernel
theorem dX1_allDepths_23 : decode cX1_allDepths 23 = .ok (.goto (-19), 3) := by decide +kernel
theorem dX1_allDepths_26 : decode cX1_allDepths 26 = .ok (.iload_n 1, 1) := by decide +kernel
theorem dX1_allDepths_27 : decode cX1_allDepths 27 = .ok (.ireturn, 1) := by decide +kernel
theorem dX1_areFounded_0 : decode cX1_areFounded 0 = .ok (.iconst 0, 1) := by decide +kernel
theorem dX1_areFounded_1 : decode cX1_areFounded 1 = .ok (.istore_n 2, 1) := by decide +kernel
theorem dX1_areFounded_2 : decode cX1_areFounded 2 = .ok (.iload_n 2, 1) := by decide +kernel
theorem dX1_areFounded_3 : decode cX1_areFounded 3 = .ok (.sipush 216, 3) := by decide +kernel
theorem dX1_areFounded_6 : decode cX1_areFounded 6 = .ok (.if_icmp .ge 95, 3) := by decide +kernel
theorem dX1_areFounded_9 : decode cX1_areFounded 9 = .ok (.aload_n 0, 1) := by decide +kernel
theorem dX1_areFounded_10 : decode cX1_areFounded 10 = .ok (.getfield 12, 3) := by decide +kernel
theorem dX1_areFounded_13 : decode cX1_areFounded 13 = .ok (.iload_n 2, 1) := by decide +kernel
theorem dX1_areFounded_14 : decode cX1_areFounded 14 = .ok (.invokevirtual 98, 3) := by decide +kernel
theorem dX1_areFounded_17 : decode cX1_areFounded 17 = .ok (.ifCond .eq 78, 3) := by decide +kernel
theorem dX1_areFounded_20 : decode cX1_areFounded 20 = .ok (.aload_n 1, 1) := by decide +kernel
theorem dX1_areFounded_21 : decode cX1_areFounded 21 = .ok (.getfield 52, 3) := by decide +kernel
theorem dX1_areFounded_24 : decode cX1_areFounded 24 = .ok (.iload_n 2, 1) := by decide +kernel
theorem dX1_areFounded_25 : decode cX1_areFounded 25 = .ok (.invokevirtual 98, 3) := by decide +kernel
theorem dX1_areFounded_28 : decode cX1_areFounded 28 = .ok (.ifCond .eq 6, 3) := by decide +kernel
theorem dX1_areFounded_31 : decode cX1_areFounded 31 = .ok (.goto 64, 3) := by decide +kernel
theorem dX1_areFounded_34 : decode cX1_areFounded 34 = .ok (.aload_n 1, 1) := by decide +kernel
theorem dX1_areFounded_35 : decode cX1_areFounded 35 = .ok (.getfield 61, 3) := by decide +kernel
theorem dX1_areFounded_38 : decode cX1_areFounded 38 = .ok (.iload_n 2, 1) := by decide +kernel
theorem dX1_areFounded_39 : decode cX1_areFounded 39 = .ok (.aload_n 0, 1) := by decide +kernel
theorem dX1_areFounded_40 : decode cX1_areFounded 40 = .ok (.getfield 12, 3) := by decide +kernel
theorem dX1_areFounded_43 : decode cX1_areFounded 43 = .ok (.invokevirtual 165, 3) := by decide +kernel
theorem dX1_areFounded_46 : decode cX1_areFounded 46 = .ok (.ifCond .ne 5, 3) := by decide +kernel
theorem dX1_areFounded_49 : decode cX1_areFounded 49 = .ok (.iconst 0, 1) := by decide +kernel
theorem dX1_areFounded_50 : decode cX1_areFounded 50 = .ok (.ireturn, 1) := by decide +kernel
theorem dX1_areFounded_51 : decode cX1_areFounded 51 = .ok (.iconst 0, 1) := by decide +kernel
theorem dX1_areFounded_52 : decode cX1_areFounded 52 = .ok (.istore_n 3, 1) := by decide +kernel
theorem dX1_areFounded_53 : decode cX1_areFounded 53 = .ok (.iload_n 3, 1) := by decide +kernel
theorem dX1_areFounded_54 : decode cX1_areFounded 54 = .ok (.iconst 3, 1) := by decide +kernel
theorem dX1_areFounded_55 : decode cX1_areFounded 55 = .ok (.if_icmp .ge 40, 3) := by decide +kernel
theorem dX1_areFounded_58 : decode cX1_areFounded 58 = .ok (.aload_n 0, 1) := by decide +kernel
theorem dX1_areFounded_59 : decode cX1_areFounded 59 = .ok (.aload_n 1, 1) := by decide +kernel
theorem dX1_areFounded_60 : decode cX1_areFounded 60 = .ok (.getfield 61, 3) := by decide +kernel
theorem dX1_areFounded_63 : decode cX1_areFounded 63 = .ok (.iload_n 2, 1) := by decide +kernel
theorem dX1_areFounded_64 : decode cX1_areFounded 64 = .ok (.iload_n 3, 1) := by decide +kernel
theorem dX1_areFounded_65 : decode cX1_areFounded 65 = .ok (.invokevirtual 121, 3) := by decide +kernel
theorem dX1_areFounded_68 : decode cX1_areFounded 68 = .ok (.istore 4, 2) := by decide +kernel
theorem dX1_areFounded_70 : decode cX1_areFounded 70 = .ok (.iload 4, 2) := by decide +kernel
theorem dX1_areFounded_72 : decode cX1_areFounded 72 = .ok (.ifCond .lt 17, 3) := by decide +kernel
theorem dX1_areFounded_75 : decode cX1_areFounded 75 = .ok (.aload_n 0, 1) := by decide +kernel
theorem dX1_areFounded_76 : decode cX1_areFounded 76 = .ok (.getfield 12, 3) := by decide +kernel
theorem dX1_areFounded_79 : decode cX1_areFounded 79 = .ok (.iload 4, 2) := by decide +kernel
theorem dX1_areFounded_81 : decode cX1_areFounded 81 = .ok (.invokevirtual 98, 3) := by decide +kernel
theorem dX1_areFounded_84 : decode cX1_areFounded 84 = .ok (.ifCond .ne 5, 3) := by decide +kernel
theorem dX1_areFounded_87 : decode cX1_areFounded 87 = .ok (.iconst 0, 1) := by decide +kernel
theorem dX1_areFounded_88 : decode cX1_areFounded 88 = .ok (.ireturn, 1) := by decide +kernel
theorem dX1_areFounded_89 : decode cX1_areFounded 89 = .ok (.iinc 3 1, 3) := by decide +kernel
theorem dX1_areFounded_92 : decode cX1_areFounded 92 = .ok (.goto (-39), 3) := by decide +kernel
theorem dX1_areFounded_95 : decode cX1_areFounded 95 = .ok (.iinc 2 1, 3) := by decide +kernel
theorem dX1_areFounded_98 : decode cX1_areFounded 98 = .ok (.goto (-96), 3) := by decide +kernel
theorem dX1_areFounded_101 : decode cX1_areFounded 101 = .ok (.iconst 1, 1) := by decide +kernel
theorem dX1_areFounded_102 : decode cX1_areFounded 102 = .ok (.ireturn, 1) := by decide +kernel
theorem dX2_init_0 : decode cX2_init 0 = .ok (.aload_n 0, 1) := by decide +kernel
theorem dX2_init_1 : decode cX2_init 1 = .ok (.invokespecial 3, 3) := by decide +kernel
theorem dX2_init_4 : decode cX2_init 4 = .ok (.aload_n 0, 1) := by decide +kernel
theorem dX2_init_5 : decode cX2_init 5 = .ok (.bipush 36, 2) := by decide +kernel
theorem dX2_init_7 : decode cX2_init 7 = .ok (.newarray .int, 2) := by decide +kernel
theorem dX2_init_9 : decode cX2_init 9 = .ok (.putfield 9, 3) := by decide +kernel
theorem dX2_init_12 : decode cX2_init 12 = .ok (.aload_n 0, 1) := by decide +kernel
theorem dX2_init_13 : decode cX2_init 13 = .ok (.bipush 36, 2) := by decide +kernel
theorem dX2_init_15 : decode cX2_init 15 = .ok (.newarray .int, 2) := by decide +kernel
theorem dX2_init_17 : decode cX2_init 17 = .ok (.putfield 15, 3) := by decide +kernel
theorem dX2_init_20 : decode cX2_init 20 = .ok (.return_, 1) := by decide +kernel
theorem dX2_to_0 : decode cX2_to 0 = .ok (.bipush 6, 2) := by decide +kernel
theorem dX2_to_2 : decode cX2_to 2 = .ok (.iload_n 1, 1) := by decide +kernel
theorem dX2_to_3 : decode cX2_to 3 = .ok (.imul, 1) := by decide +kernel
theorem dX2_to_4 : decode cX2_to 4 = .ok (.iload_n 2, 1) := by decide +kernel
theorem dX2_to_5 : decode cX2_to 5 = .ok (.iadd, 1) := by decide +kernel
theorem dX2_to_6 : decode cX2_to 6 = .ok (.istore_n 3, 1) := by decide +kernel
theorem dX2_to_7 : decode cX2_to 7 = .ok (.iload_n 3, 1) := by decide +kernel
theorem dX2_to_8 : decode cX2_to 8 = .ok (.ifCond .lt 21, 3) := by decide +kernel
theorem dX2_to_11 : decode cX2_to 11 = .ok (.iload_n 3, 1) := by decide +kernel
theorem dX2_to_12 : decode cX2_to 12 = .ok (.aload_n 0, 1) := by decide +kernel
theorem dX2_to_13 : decode cX2_to 13 = .ok (.getfield 9, 3) := by decide +kernel
theorem dX2_to_16 : decode cX2_to 16 = .ok (.arraylength, 1) := by decide +kernel
theorem dX2_to_17 : decode cX2_to 17 = .ok (.if_icmp .ge 12, 3) := by decide +kernel
theorem dX2_to_20 : decode cX2_to 20 = .ok (.aload_n 0, 1) := by decide +kernel
theorem dX2_to_21 : decode cX2_to 21 = .ok (.getfield 9, 3) := by decide +kernel
theorem dX2_to_24 : decode cX2_to 24 = .ok (.iload_n 3, 1) := by decide +kernel
theorem dX2_to_25 : decode cX2_to 25 = .ok (.iaload, 1) := by decide +kernel
theorem dX2_to_26 : decode cX2_to 26 = .ok (.goto 4, 3) := by decide +kernel
theorem dX2_to_29 : decode cX2_to 29 = .ok (.iconst 0, 1) := by decide +kernel
theorem dX2_to_30 : decode cX2_to 30 = .ok (.ireturn, 1) := by decide +kernel
theorem dX2_from_0 : decode cX2_from 0 = .ok (.bipush 6, 2) := by decide +kernel
theorem dX2_from_2 : decode cX2_from 2 = .ok (.iload_n 1, 1) := by decide +kernel
theorem dX2_from_3 : decode cX2_from 3 = .ok (.imul, 1) := by decide +kernel
theorem dX2_from_4 : decode cX2_from 4 = .ok (.iload_n 2, 1) := by decide +kernel
theorem dX2_from_5 : decode cX2_from 5 = .ok (.iadd, 1) := by decide +kernel
theorem dX2_from_6 : decode cX2_from 6 = .ok (.istore_n 3, 1) := by decide +kernel
theorem dX2_from_7 : decode cX2_from 7 = .ok (.iload_n 3, 1) := by decide +kernel
theorem dX2_from_8 : decode cX2_from 8 = .ok (.ifCond .lt 21, 3) := by decide +kernel
theorem dX2_from_11 : decode cX2_from 11 = .ok (.iload_n 3, 1) := by decide +kernel
theorem dX2_from_12 : decode cX2_from 12 = .ok (.aload_n 0, 1) := by decide +kernel
theorem dX2_from_13 : decode cX2_from 13 = .ok (.getfield 15, 3) := by decide +kernel
theorem dX2_from_16 : decode cX2_from 16 = .ok (.arraylength, 1) := by decide +kernel
theorem dX2_from_17 : decode cX2_from 17 = .ok (.if_icmp .ge 12, 3) := by decide +kernel
theorem dX2_from_20 : decode cX2_from 20 = .ok (.aload_n 0, 1) := by decide +kernel
theorem dX2_from_21 : decode cX2_from 21 = .ok (.getfield 15, 3) := by decide +kernel
theorem dX2_from_24 : decode cX2_from 24 = .ok (.iload_n 3, 1) := by decide +kernel
theorem dX2_from_25 : decode cX2_from 25 = .ok (.iaload, 1) := by decide +kernel
theorem dX2_from_26 : decode cX2_from 26 = .ok (.goto 4, 3) := by decide +kernel
theorem dX2_from_29 : decode cX2_from 29 = .ok (.iconst 0, 1) := by decide +kernel
theorem dX2_from_30 : decode cX2_from 30 = .ok (.ireturn, 1) := by decide +kernel
theorem dX2_toThemselves_0 : decode cX2_toThemselves 0 = .ok (.iconst 0, 1) := by decide +kernel
theorem dX2_toThemselves_1 : decode cX2_toThemselves 1 = .ok (.istore_n 2, 1) := by decide +kernel
theorem dX2_toThemselves_2 : decode cX2_toThemselves 2 = .ok (.iconst 0, 1) := by decide +kernel
theorem dX2_toThemselves_3 : decode cX2_toThemselves 3 = .ok (.istore_n 3, 1) := by decide +kernel
theorem dX2_toThemselves_4 : decode cX2_toThemselves 4 = .ok (.iload_n 3, 1) := by decide +kernel
theorem dX2_toThemselves_5 : decode cX2_toThemselves 5 = .ok (.bipush 6, 2) := by decide +kernel
theorem dX2_toThemselves_7 : decode cX2_toThemselves 7 = .ok (.if_icmp .ge 46, 3) := by decide +kernel
theorem dX2_toThemselves_10 : decode cX2_toThemselves 10 = .ok (.bipush 6, 2) := by decide +kernel
theorem dX2_toThemselves_12 : decode cX2_toThemselves 12 = .ok (.iload_n 1, 1) := by decide +kernel
theorem dX2_toThemselves_13 : decode cX2_toThemselves 13 = .ok (.imul, 1) := by decide +kernel
theorem dX2_toThemselves_14 : decode cX2_toThemselves 14 = .ok (.iload_n 3, 1) := by decide +kernel
theorem dX2_toThemselves_15 : decode cX2_toThemselves 15 = .ok (.iadd, 1) := by decide +kernel
theorem dX2_toThemselves_16 : decode cX2_toThemselves 16 = .ok (.istore 4, 2) := by decide +kernel
theorem dX2_toThemselves_18 : decode cX2_toThemselves 18 = .ok (.iload 4, 2) := by decide +kernel
theorem dX2_toThemselves_20 : decode cX2_toThemselves 20 = .ok (.ifCond .lt 27, 3) := by decide +kernel
theorem dX2_toThemselves_23 : decode cX2_toThemselves 23 = .ok (.iload 4, 2) := by decide +kernel
theorem dX2_toThemselves_25 : decode cX2_toThemselves 25 = .ok (.aload_n 0, 1) := by decide +kernel
theorem dX2_toThemselves_26 : decode cX2_toThemselves 26 = .ok (.getfield 9, 3) := by decide +kernel
theorem dX2_toThemselves_29 : decode cX2_toThemselves 29 = .ok (.arraylength, 1) := by decide +kernel
theorem dX2_toThemselves_30 : decode cX2_toThemselves 30 = .ok (.if_icmp .ge 17, 3) := by decide +kernel
theorem dX2_toThemselves_33 : decode cX2_toThemselves 33 = .ok (.iload_n 2, 1) := by decide +kernel
theorem dX2_toThemselves_34 : decode cX2_toThemselves 34 = .ok (.aload_n 0, 1) := by decide +kernel
theorem dX2_toThemselves_35 : decode cX2_toThemselves 35 = .ok (.getfield 9, 3) := by decide +kernel
theorem dX2_toThemselves_38 : decode cX2_toThemselves 38 = .ok (.iload 4, 2) := by decide +kernel
theorem dX2_toThemselves_40 : decode cX2_toThemselves 40 = .ok (.iaload, 1) := by decide +kernel
theorem dX2_toThemselves_41 : decode cX2_toThemselves 41 = .ok (.iconst 1, 1) := by decide +kernel
theorem dX2_toThemselves_42 : decode cX2_toThemselves 42 = .ok (.iload_n 3, 1) := by decide +kernel
theorem dX2_toThemselves_43 : decode cX2_toThemselves 43 = .ok (.ishl, 1) := by decide +kernel
theorem dX2_toThemselves_44 : decode cX2_toThemselves 44 = .ok (.iand, 1) := by decide +kernel
theorem dX2_toThemselves_45 : decode cX2_toThemselves 45 = .ok (.ior, 1) := by decide +kernel
theorem dX2_toThemselves_46 : decode cX2_toThemselves 46 = .ok (.istore_n 2, 1) := by decide +kernel
theorem dX2_toThemselves_47 : decode cX2_toThemselves 47 = .ok (.iinc 3 1, 3) := by decide +kernel
theorem dX2_toThemselves_50 : decode cX2_toThemselves 50 = .ok (.goto (-46), 3) := by decide +kernel
theorem dX2_toThemselves_53 : decode cX2_toThemselves 53 = .ok (.iload_n 2, 1) := by decide +kernel
theorem dX2_toThemselves_54 : decode cX2_toThemselves 54 = .ok (.ireturn, 1) := by decide +kernel
theorem dX2_has_0 : decode cX2_has 0 = .ok (.iload_n 1, 1) := by decide +kernel
theorem dX2_has_1 : decode cX2_has 1 = .ok (.bipush 6, 2) := by decide +kernel
theorem dX2_has_3 : decode cX2_has 3 = .ok (.idiv, 1) := by decide +kernel
theorem dX2_has_4 : decode cX2_has 4 = .ok (.istore_n 2, 1) := by decide +kernel
theorem dX2_has_5 : decode cX2_has 5 = .ok (.iload_n 1, 1) := by decide +kernel
theorem dX2_has_6 : decode cX2_has 6 = .ok (.ifCond .lt 32, 3) := by decide +kernel
theorem dX2_has_9 : decode cX2_has 9 = .ok (.iload_n 2, 1) := by decide +kernel
theorem dX2_has_10 : decode cX2_has 10 = .ok (.aload_n 0, 1) := by decide +kernel
theorem dX2_has_11 : decode cX2_has 11 = .ok (.getfield 9, 3) := by decide +kernel
theorem dX2_has_14 : decode cX2_has 14 = .ok (.arraylength, 1) := by decide +kernel
theorem dX2_has_15 : decode cX2_has 15 = .ok (.if_icmp .ge 23, 3) := by decide +kernel
theorem dX2_has_18 : decode cX2_has 18 = .ok (.aload_n 0, 1) := by decide +kernel
theorem dX2_has_19 : decode cX2_has 19 = .ok (.getfield 9, 3) := by decide +kernel
theorem dX2_has_22 : decode cX2_has 22 = .ok (.iload_n 2, 1) := by decide +kernel
theorem dX2_has_23 : decode cX2_has 23 = .ok (.iaload, 1) := by decide +kernel
theorem dX2_has_24 : decode cX2_has 24 = .ok (.iload_n 1, 1) := by decide +kernel
theorem dX2_has_25 : decode cX2_has 25 = .ok (.bipush 6, 2) := by decide +kernel
theorem dX2_has_27 : decode cX2_has 27 = .ok (.irem, 1) := by decide +kernel
theorem dX2_has_28 : decode cX2_has 28 = .ok (.ishr, 1) := by decide +kernel
theorem dX2_has_29 : decode cX2_has 29 = .ok (.iconst 1, 1) := by decide +kernel
theorem dX2_has_30 : decode cX2_has 30 = .ok (.iand, 1) := by decide +kernel
theorem dX2_has_31 : decode cX2_has 31 = .ok (.ifCond .eq 7, 3) := by decide +kernel
theorem dX2_has_34 : decode cX2_has 34 = .ok (.iconst 1, 1) := by decide +kernel
theorem dX2_has_35 : decode cX2_has 35 = .ok (.goto 4, 3) := by decide +kernel
theorem dX2_has_38 : decode cX2_has 38 = .ok (.iconst 0, 1) := by decide +kernel
theorem dX2_has_39 : decode cX2_has 39 = .ok (.ireturn, 1) := by decide +kernel
theorem dX2_put_0 : decode cX2_put 0 = .ok (.iload_n 1, 1) := by decide +kernel
theorem dX2_put_1 : decode cX2_put 1 = .ok (.ifCond .lt 10, 3) := by decide +kernel
theorem dX2_put_4 : decode cX2_put 4 = .ok (.iload_n 1, 1) := by decide +kernel
theorem dX2_put_5 : decode cX2_put 5 = .ok (.sipush 216, 3) := by decide +kernel
theorem dX2_put_8 : decode cX2_put 8 = .ok (.if_icmp .lt 4, 3) := by decide +kernel
theorem dX2_put_11 : decode cX2_put 11 = .ok (.return_, 1) := by decide +kernel
theorem dX2_put_12 : decode cX2_put 12 = .ok (.aload_n 0, 1) := by decide +kernel
theorem dX2_put_13 : decode cX2_put 13 = .ok (.getfield 9, 3) := by decide +kernel
theorem dX2_put_16 : decode cX2_put 16 = .ok (.iload_n 1, 1) := by decide +kernel
theorem dX2_put_17 : decode cX2_put 17 = .ok (.bipush 6, 2) := by decide +kernel
theorem dX2_put_19 : decode cX2_put 19 = .ok (.idiv, 1) := by decide +kernel
theorem dX2_put_20 : decode cX2_put 20 = .ok (.dup2, 1) := by decide +kernel
theorem dX2_put_21 : decode cX2_put 21 = .ok (.iaload, 1) := by decide +kernel
theorem dX2_put_22 : decode cX2_put 22 = .ok (.iconst 1, 1) := by decide +kernel
theorem dX2_put_23 : decode cX2_put 23 = .ok (.iload_n 1, 1) := by decide +kernel
theorem dX2_put_24 : decode cX2_put 24 = .ok (.bipush 6, 2) := by decide +kernel
theorem dX2_put_26 : decode cX2_put 26 = .ok (.irem, 1) := by decide +kernel
theorem dX2_put_27 : decode cX2_put 27 = .ok (.ishl, 1) := by decide +kernel
theorem dX2_put_28 : decode cX2_put 28 = .ok (.ior, 1) := by decide +kernel
theorem dX2_put_29 : decode cX2_put 29 = .ok (.iastore, 1) := by decide +kernel
theorem dX2_put_30 : decode cX2_put 30 = .ok (.aload_n 0, 1) := by decide +kernel
theorem dX2_put_31 : decode cX2_put 31 = .ok (.getfield 15, 3) := by decide +kernel
theorem dX2_put_34 : decode cX2_put 34 = .ok (.iload_n 1, 1) := by decide +kernel
theorem dX2_put_35 : decode cX2_put 35 = .ok (.bipush 36, 2) := by decide +kernel
theorem dX2_put_37 : decode cX2_put 37 = .ok (.idiv, 1) := by decide +kernel
theorem dX2_put_38 : decode cX2_put 38 = .ok (.bipush 6, 2) := by decide +kernel
theorem dX2_put_40 : decode cX2_put 40 = .ok (.imul, 1) := by decide +kernel
theorem dX2_put_41 : decode cX2_put 41 = .ok (.iload_n 1, 1) := by decide +kernel
theorem dX2_put_42 : decode cX2_put 42 = .ok (.bipush 6, 2) := by decide +kernel
theorem dX2_put_44 : decode cX2_put 44 = .ok (.irem, 1) := by decide +kernel
theorem dX2_put_45 : decode cX2_put 45 = .ok (.iadd, 1) := by decide +kernel
theorem dX2_put_46 : decode cX2_put 46 = .ok (.dup2, 1) := by decide +kernel
theorem dX2_put_47 : decode cX2_put 47 = .ok (.iaload, 1) := by decide +kernel
theorem dX2_put_48 : decode cX2_put 48 = .ok (.iconst 1, 1) := by decide +kernel
theorem dX2_put_49 : decode cX2_put 49 = .ok (.iload_n 1, 1) := by decide +kernel
theorem dX2_put_50 : decode cX2_put 50 = .ok (.bipush 6, 2) := by decide +kernel
theorem dX2_put_52 : decode cX2_put 52 = .ok (.idiv, 1) := by decide +kernel
theorem dX2_put_53 : decode cX2_put 53 = .ok (.bipush 6, 2) := by decide +kernel
theorem dX2_put_55 : decode cX2_put 55 = .ok (.irem, 1) := by decide +kernel
theorem dX2_put_56 : decode cX2_put 56 = .ok (.ishl, 1) := by decide +kernel
theorem dX2_put_57 : decode cX2_put 57 = .ok (.ior, 1) := by decide +kernel
theorem dX2_put_58 : decode cX2_put 58 = .ok (.iastore, 1) := by decide +kernel
theorem dX2_put_59 : decode cX2_put 59 = .ok (.return_, 1) := by decide +kernel
theorem dX2_take_0 : decode cX2_take 0 = .ok (.iload_n 1, 1) := by decide +kernel
theorem dX2_take_1 : decode cX2_take 1 = .ok (.ifCond .lt 10, 3) := by decide +kernel
theorem dX2_take_4 : decode cX2_take 4 = .ok (.iload_n 1, 1) := by decide +kernel
theorem dX2_take_5 : decode cX2_take 5 = .ok (.sipush 216, 3) := by decide +kernel
theorem dX2_take_8 : decode cX2_take 8 = .ok (.if_icmp .lt 4, 3) := by decide +kernel
theorem dX2_take_11 : decode cX2_take 11 = .ok (.return_, 1) := by decide +kernel
theorem dX2_take_12 : decode cX2_take 12 = .ok (.aload_n 0, 1) := by decide +kernel
theorem dX2_take_13 : decode cX2_take 13 = .ok (.getfield 9, 3) := by decide +kernel
theorem dX2_take_16 : decode cX2_take 16 = .ok (.iload_n 1, 1) := by decide +kernel
theorem dX2_take_17 : decode cX2_take 17 = .ok (.bipush 6, 2) := by decide +kernel
theorem dX2_take_19 : decode cX2_take 19 = .ok (.idiv, 1) := by decide +kernel
theorem dX2_take_20 : decode cX2_take 20 = .ok (.dup2, 1) := by decide +kernel
theorem dX2_take_21 : decode cX2_take 21 = .ok (.iaload, 1) := by decide +kernel
theorem dX2_take_22 : decode cX2_take 22 = .ok (.iconst 1, 1) := by decide +kernel
theorem dX2_take_23 : decode cX2_take 23 = .ok (.iload_n 1, 1) := by decide +kernel
theorem dX2_take_24 : decode cX2_take 24 = .ok (.bipush 6, 2) := by decide +kernel
theorem dX2_take_26 : decode cX2_take 26 = .ok (.irem, 1) := by decide +kernel
theorem dX2_take_27 : decode cX2_take 27 = .ok (.ishl, 1) := by decide +kernel
theorem dX2_take_28 : decode cX2_take 28 = .ok (.iconst (-1), 1) := by decide +kernel
theorem dX2_take_29 : decode cX2_take 29 = .ok (.ixor, 1) := by decide +kernel
theorem dX2_take_30 : decode cX2_take 30 = .ok (.iand, 1) := by decide +kernel
theorem dX2_take_31 : decode cX2_take 31 = .ok (.iastore, 1) := by decide +kernel
theorem dX2_take_32 : decode cX2_take 32 = .ok (.aload_n 0, 1) := by decide +kernel
theorem dX2_take_33 : decode cX2_take 33 = .ok (.getfield 15, 3) := by decide +kernel
theorem dX2_take_36 : decode cX2_take 36 = .ok (.iload_n 1, 1) := by decide +kernel
theorem dX2_take_37 : decode cX2_take 37 = .ok (.bipush 36, 2) := by decide +kernel
theorem dX2_take_39 : decode cX2_take 39 = .ok (.idiv, 1) := by decide +kernel
theorem dX2_take_40 : decode cX2_take 40 = .ok (.bipush 6, 2) := by decide +kernel
theorem dX2_take_42 : decode cX2_take 42 = .ok (.imul, 1) := by decide +kernel
theorem dX2_take_43 : decode cX2_take 43 = .ok (.iload_n 1, 1) := by decide +kernel
theorem dX2_take_44 : decode cX2_take 44 = .ok (.bipush 6, 2) := by decide +kernel
theorem dX2_take_46 : decode cX2_take 46 = .ok (.irem, 1) := by decide +kernel
theorem dX2_take_47 : decode cX2_take 47 = .ok (.iadd, 1) := by decide +kernel
theorem dX2_take_48 : decode cX2_take 48 = .ok (.dup2, 1) := by decide +kernel
theorem dX2_take_49 : decode cX2_take 49 = .ok (.iaload, 1) := by decide +kernel
theorem dX2_take_50 : decode cX2_take 50 = .ok (.iconst 1, 1) := by decide +kernel
theorem dX2_take_51 : decode cX2_take 51 = .ok (.iload_n 1, 1) := by decide +kernel
theorem dX2_take_52 : decode cX2_take 52 = .ok (.bipush 6, 2) := by decide +kernel
theorem dX2_take_54 : decode cX2_take 54 = .ok (.idiv, 1) := by decide +kernel
theorem dX2_take_55 : decode cX2_take 55 = .ok (.bipush 6, 2) := by decide +kernel
theorem dX2_take_57 : decode cX2_take 57 = .ok (.irem, 1) := by decide +kernel
theorem dX2_take_58 : decode cX2_take 58 = .ok (.ishl, 1) := by decide +kernel
theorem dX2_take_59 : decode cX2_take 59 = .ok (.iconst (-1), 1) := by decide +kernel
theorem dX2_take_60 : decode cX2_take 60 = .ok (.ixor, 1) := by decide +kernel
theorem dX2_take_61 : decode cX2_take 61 = .ok (.iand, 1) := by decide +kernel
theorem dX2_take_62 : decode cX2_take 62 = .ok (.iastore, 1) := by decide +kernel
theorem dX2_take_63 : decode cX2_take 63 = .ok (.return_, 1) := by decide +kernel
theorem dX2_clear_0 : decode cX2_clear 0 = .ok (.iconst 0, 1) := by decide +kernel
theorem dX2_clear_1 : decode cX2_clear 1 = .ok (.istore_n 1, 1) := by decide +kernel
theorem dX2_clear_2 : decode cX2_clear 2 = .ok (.iload_n 1, 1) := by decide +kernel
theorem dX2_clear_3 : decode cX2_clear 3 = .ok (.aload_n 0, 1) := by decide +kernel
theorem dX2_clear_4 : decode cX2_clear 4 = .ok (.getfield 9, 3) := by decide +kernel
theorem dX2_clear_7 : decode cX2_clear 7 = .ok (.arraylength, 1) := by decide +kernel
theorem dX2_clear_8 : decode cX2_clear 8 = .ok (.if_icmp .ge 23, 3) := by decide +kernel
theorem dX2_clear_11 : decode cX2_clear 11 = .ok (.aload_n 0, 1) := by decide +kernel
theorem dX2_clear_12 : decode cX2_clear 12 = .ok (.getfield 9, 3) := by decide +kernel
theorem dX2_clear_15 : decode cX2_clear 15 = .ok (.iload_n 1, 1) := by decide +kernel
theorem dX2_clear_16 : decode cX2_clear 16 = .ok (.iconst 0, 1) := by decide +kernel
theorem dX2_clear_17 : decode cX2_clear 17 = .ok (.iastore, 1) := by decide +kernel
theorem dX2_clear_18 : decode cX2_clear 18 = .ok (.aload_n 0, 1) := by decide +kernel
theorem dX2_clear_19 : decode cX2_clear 19 = .ok (.getfield 15, 3) := by decide +kernel
theorem dX2_clear_22 : decode cX2_clear 22 = .ok (.iload_n 1, 1) := by decide +kernel
theorem dX2_clear_23 : decode cX2_clear 23 = .ok (.iconst 0, 1) := by decide +kernel
theorem dX2_clear_24 : decode cX2_clear 24 = .ok (.iastore, 1) := by decide +kernel
theorem dX2_clear_25 : decode cX2_clear 25 = .ok (.iinc 1 1, 3) := by decide +kernel
theorem dX2_clear_28 : decode cX2_clear 28 = .ok (.goto (-26), 3) := by decide +kernel
theorem dX2_clear_31 : decode cX2_clear 31 = .ok (.return_, 1) := by decide +kernel
theorem dX2_copy_0 : decode cX2_copy 0 = .ok (.iconst 0, 1) := by decide +kernel
theorem dX2_copy_1 : decode cX2_copy 1 = .ok (.istore_n 2, 1) := by decide +kernel
theorem dX2_copy_2 : decode cX2_copy 2 = .ok (.iload_n 2, 1) := by decide +kernel
theorem dX2_copy_3 : decode cX2_copy 3 = .ok (.aload_n 0, 1) := by decide +kernel
theorem dX2_copy_4 : decode cX2_copy 4 = .ok (.getfield 9, 3) := by decide +kernel
theorem dX2_copy_7 : decode cX2_copy 7 = .ok (.arraylength, 1) := by decide +kernel
theorem dX2_copy_8 : decode cX2_copy 8 = .ok (.if_icmp .ge 33, 3) := by decide +kernel
theorem dX2_copy_11 : decode cX2_copy 11 = .ok (.aload_n 0, 1) := by decide +kernel
theorem dX2_copy_12 : decode cX2_copy 12 = .ok (.getfield 9, 3) := by decide +kernel
theorem dX2_copy_15 : decode cX2_copy 15 = .ok (.iload_n 2, 1) := by decide +kernel
theorem dX2_copy_16 : decode cX2_copy 16 = .ok (.aload_n 1, 1) := by decide +kernel
theorem dX2_copy_17 : decode cX2_copy 17 = .ok (.getfield 9, 3) := by decide +kernel
theorem dX2_copy_20 : decode cX2_copy 20 = .ok (.iload_n 2, 1) := by decide +kernel
theorem dX2_copy_21 : decode cX2_copy 21 = .ok (.iaload, 1) := by decide +kernel
theorem dX2_copy_22 : decode cX2_copy 22 = .ok (.iastore, 1) := by decide +kernel
theorem dX2_copy_23 : decode cX2_copy 23 = .ok (.aload_n 0, 1) := by decide +kernel
theorem dX2_copy_24 : decode cX2_copy 24 = .ok (.getfield 15, 3) := by decide +kernel
theorem dX2_copy_27 : decode cX2_copy 27 = .ok (.iload_n 2, 1) := by decide +kernel
theorem dX2_copy_28 : decode cX2_copy 28 = .ok (.aload_n 1, 1) := by decide +kernel
theorem dX2_copy_29 : decode cX2_copy 29 = .ok (.getfield 15, 3) := by decide +kernel
theorem dX2_copy_32 : decode cX2_copy 32 = .ok (.iload_n 2, 1) := by decide +kernel
theorem dX2_copy_33 : decode cX2_copy 33 = .ok (.iaload, 1) := by decide +kernel
theorem dX2_copy_34 : decode cX2_copy 34 = .ok (.iastore, 1) := by decide +kernel
theorem dX2_copy_35 : decode cX2_copy 35 = .ok (.iinc 2 1, 3) := by decide +kernel
theorem dX2_copy_38 : decode cX2_copy 38 = .ok (.goto (-36), 3) := by decide +kernel
theorem dX2_copy_41 : decode cX2_copy 41 = .ok (.return_, 1) := by decide +kernel
theorem dX2_join_0 : decode cX2_join 0 = .ok (.iconst 0, 1) := by decide +kernel
theorem dX2_join_1 : decode cX2_join 1 = .ok (.istore_n 2, 1) := by decide +kernel
theorem dX2_join_2 : decode cX2_join 2 = .ok (.iload_n 2, 1) := by decide +kernel
theorem dX2_join_3 : decode cX2_join 3 = .ok (.aload_n 0, 1) := by decide +kernel
theorem dX2_join_4 : decode cX2_join 4 = .ok (.getfield 9, 3) := by decide +kernel
theorem dX2_join_7 : decode cX2_join 7 = .ok (.arraylength, 1) := by decide +kernel
theorem dX2_join_8 : decode cX2_join 8 = .ok (.if_icmp .ge 39, 3) := by decide +kernel
theorem dX2_join_11 : decode cX2_join 11 = .ok (.aload_n 0, 1) := by decide +kernel
theorem dX2_join_12 : decode cX2_join 12 = .ok (.getfield 9, 3) := by decide +kernel
theorem dX2_join_15 : decode cX2_join 15 = .ok (.iload_n 2, 1) := by decide +kernel
theorem dX2_join_16 : decode cX2_join 16 = .ok (.dup2, 1) := by decide +kernel
theorem dX2_join_17 : decode cX2_join 17 = .ok (.iaload, 1) := by decide +kernel
theorem dX2_join_18 : decode cX2_join 18 = .ok (.aload_n 1, 1) := by decide +kernel
theorem dX2_join_19 : decode cX2_join 19 = .ok (.getfield 9, 3) := by decide +kernel
theorem dX2_join_22 : decode cX2_join 22 = .ok (.iload_n 2, 1) := by decide +kernel
theorem dX2_join_23 : decode cX2_join 23 = .ok (.iaload, 1) := by decide +kernel
theorem dX2_join_24 : decode cX2_join 24 = .ok (.ior, 1) := by decide +kernel
theorem dX2_join_25 : decode cX2_join 25 = .ok (.iastore, 1) := by decide +kernel
theorem dX2_join_26 : decode cX2_join 26 = .ok (.aload_n 0, 1) := by decide +kernel
theorem dX2_join_27 : decode cX2_join 27 = .ok (.getfield 15, 3) := by decide +kernel
theorem dX2_join_30 : decode cX2_join 30 = .ok (.iload_n 2, 1) := by decide +kernel
theorem dX2_join_31 : decode cX2_join 31 = .ok (.dup2, 1) := by decide +kernel
theorem dX2_join_32 : decode cX2_join 32 = .ok (.iaload, 1) := by decide +kernel
theorem dX2_join_33 : decode cX2_join 33 = .ok (.aload_n 1, 1) := by decide +kernel
theorem dX2_join_34 : decode cX2_join 34 = .ok (.getfield 15, 3) := by decide +kernel
theorem dX2_join_37 : decode cX2_join 37 = .ok (.iload_n 2, 1) := by decide +kernel
theorem dX2_join_38 : decode cX2_join 38 = .ok (.iaload, 1) := by decide +kernel
theorem dX2_join_39 : decode cX2_join 39 = .ok (.ior, 1) := by decide +kernel
theorem dX2_join_40 : decode cX2_join 40 = .ok (.iastore, 1) := by decide +kernel
theorem dX2_join_41 : decode cX2_join 41 = .ok (.iinc 2 1, 3) := by decide +kernel
theorem dX2_join_44 : decode cX2_join 44 = .ok (.goto (-42), 3) := by decide +kernel
theorem dX2_join_47 : decode cX2_join 47 = .ok (.return_, 1) := by decide +kernel
theorem dX2_isSame_0 : decode cX2_isSame 0 = .ok (.iconst 0, 1) := by decide +kernel
theorem dX2_isSame_1 : decode cX2_isSame 1 = .ok (.istore_n 2, 1) := by decide +kernel
theorem dX2_isSame_2 : decode cX2_isSame 2 = .ok (.iload_n 2, 1) := by decide +kernel
theorem dX2_isSame_3 : decode cX2_isSame 3 = .ok (.aload_n 0, 1) := by decide +kernel
theorem dX2_isSame_4 : decode cX2_isSame 4 = .ok (.getfield 9, 3) := by decide +kernel
theorem dX2_isSame_7 : decode cX2_isSame 7 = .ok (.arraylength, 1) := by decide +kernel
theorem dX2_isSame_8 : decode cX2_isSame 8 = .ok (.if_icmp .ge 41, 3) := by decide +kernel
theorem dX2_isSame_11 : decode cX2_isSame 11 = .ok (.aload_n 0, 1) := by decide +kernel
theorem dX2_isSame_12 : decode cX2_isSame 12 = .ok (.getfield 9, 3) := by decide +kernel
theorem dX2_isSame_15 : decode cX2_isSame 15 = .ok (.iload_n 2, 1) := by decide +kernel
theorem dX2_isSame_16 : decode cX2_isSame 16 = .ok (.iaload, 1) := by decide +kernel
theorem dX2_isSame_17 : decode cX2_isSame 17 = .ok (.aload_n 1, 1) := by decide +kernel
theorem dX2_isSame_18 : decode cX2_isSame 18 = .ok (.getfield 9, 3) := by decide +kernel
theorem dX2_isSame_21 : decode cX2_isSame 21 = .ok (.iload_n 2, 1) := by decide +kernel
theorem dX2_isSame_22 : decode cX2_isSame 22 = .ok (.iaload, 1) := by decide +kernel
theorem dX2_isSame_23 : decode cX2_isSame 23 = .ok (.if_icmp .ne 18, 3) := by decide +kernel
theorem dX2_isSame_26 : decode cX2_isSame 26 = .ok (.aload_n 0, 1) := by decide +kernel
theorem dX2_isSame_27 : decode cX2_isSame 27 = .ok (.getfield 15, 3) := by decide +kernel
theorem dX2_isSame_30 : decode cX2_isSame 30 = .ok (.iload_n 2, 1) := by decide +kernel
theorem dX2_isSame_31 : decode cX2_isSame 31 = .ok (.iaload, 1) := by decide +kernel
theorem dX2_isSame_32 : decode cX2_isSame 32 = .ok (.aload_n 1, 1) := by decide +kernel
theorem dX2_isSame_33 : decode cX2_isSame 33 = .ok (.getfield 15, 3) := by decide +kernel
theorem dX2_isSame_36 : decode cX2_isSame 36 = .ok (.iload_n 2, 1) := by decide +kernel
theorem dX2_isSame_37 : decode cX2_isSame 37 = .ok (.iaload, 1) := by decide +kernel
theorem dX2_isSame_38 : decode cX2_isSame 38 = .ok (.if_icmp .eq 5, 3) := by decide +kernel
theorem dX2_isSame_41 : decode cX2_isSame 41 = .ok (.iconst 0, 1) := by decide +kernel
theorem dX2_isSame_42 : decode cX2_isSame 42 = .ok (.ireturn, 1) := by decide +kernel
theorem dX2_isSame_43 : decode cX2_isSame 43 = .ok (.iinc 2 1, 3) := by decide +kernel
theorem dX2_isSame_46 : decode cX2_isSame 46 = .ok (.goto (-44), 3) := by decide +kernel
theorem dX2_isSame_49 : decode cX2_isSame 49 = .ok (.iconst 1, 1) := by decide +kernel
theorem dX2_isSame_50 : decode cX2_isSame 50 = .ok (.ireturn, 1) := by decide +kernel
theorem dX2_sizeOf_0 : decode cX2_sizeOf 0 = .ok (.iconst 0, 1) := by decide +kernel
theorem dX2_sizeOf_1 : decode cX2_sizeOf 1 = .ok (.istore_n 2, 1) := by decide +kernel
theorem dX2_sizeOf_2 : decode cX2_sizeOf 2 = .ok (.iconst 0, 1) := by decide +kernel
theorem dX2_sizeOf_3 : decode cX2_sizeOf 3 = .ok (.istore_n 3, 1) := by decide +kernel
theorem dX2_sizeOf_4 : decode cX2_sizeOf 4 = .ok (.iload_n 3, 1) := by decide +kernel
theorem dX2_sizeOf_5 : decode cX2_sizeOf 5 = .ok (.bipush 6, 2) := by decide +kernel
theorem dX2_sizeOf_7 : decode cX2_sizeOf 7 = .ok (.if_icmp .ge 21, 3) := by decide +kernel
theorem dX2_sizeOf_10 : decode cX2_sizeOf 10 = .ok (.iload_n 2, 1) := by decide +kernel
theorem dX2_sizeOf_11 : decode cX2_sizeOf 11 = .ok (.aload_n 0, 1) := by decide +kernel
theorem dX2_sizeOf_12 : decode cX2_sizeOf 12 = .ok (.iload_n 1, 1) := by decide +kernel
theorem dX2_sizeOf_13 : decode cX2_sizeOf 13 = .ok (.iload_n 3, 1) := by decide +kernel
theorem dX2_sizeOf_14 : decode cX2_sizeOf 14 = .ok (.invokevirtual 18, 3) := by decide +kernel
theorem dX2_sizeOf_17 : decode cX2_sizeOf 17 = .ok (.invokestatic 21, 3) := by decide +kernel
theorem dX2_sizeOf_20 : decode cX2_sizeOf 20 = .ok (.iadd, 1) := by decide +kernel
theorem dX2_sizeOf_21 : decode cX2_sizeOf 21 = .ok (.istore_n 2, 1) := by decide +kernel
theorem dX2_sizeOf_22 : decode cX2_sizeOf 22 = .ok (.iinc 3 1, 3) := by decide +kernel
theorem dX2_sizeOf_25 : decode cX2_sizeOf 25 = .ok (.goto (-21), 3) := by decide +kernel
theorem dX2_sizeOf_28 : decode cX2_sizeOf 28 = .ok (.iload_n 2, 1) := by decide +kernel
theorem dX2_sizeOf_29 : decode cX2_sizeOf 29 = .ok (.ireturn, 1) := by decide +kernel
theorem dX2_size_0 : decode cX2_size 0 = .ok (.iconst 0, 1) := by decide +kernel
theorem dX2_size_1 : decode cX2_size 1 = .ok (.istore_n 1, 1) := by decide +kernel
theorem dX2_size_2 : decode cX2_size 2 = .ok (.iconst 0, 1) := by decide +kernel
theorem dX2_size_3 : decode cX2_size 3 = .ok (.istore_n 2, 1) := by decide +kernel
theorem dX2_size_4 : decode cX2_size 4 = .ok (.iload_n 2, 1) := by decide +kernel
theorem dX2_size_5 : decode cX2_size 5 = .ok (.aload_n 0, 1) := by decide +kernel
theorem dX2_size_6 : decode cX2_size 6 = .ok (.getfield 9, 3) := by decide +kernel
theorem dX2_size_9 : decode cX2_size 9 = .ok (.arraylength, 1) := by decide +kernel
theorem dX2_size_10 : decode cX2_size 10 = .ok (.if_icmp .ge 21, 3) := by decide +kernel
theorem dX2_size_13 : decode cX2_size 13 = .ok (.iload_n 1, 1) := by decide +kernel
theorem dX2_size_14 : decode cX2_size 14 = .ok (.aload_n 0, 1) := by decide +kernel
theorem dX2_size_15 : decode cX2_size 15 = .ok (.getfield 9, 3) := by decide +kernel
theorem dX2_size_18 : decode cX2_size 18 = .ok (.iload_n 2, 1) := by decide +kernel
theorem dX2_size_19 : decode cX2_size 19 = .ok (.iaload, 1) := by decide +kernel
theorem dX2_size_20 : decode cX2_size 20 = .ok (.invokestatic 21, 3) := by decide +kernel
theorem dX2_size_23 : decode cX2_size 23 = .ok (.iadd, 1) := by decide +kernel
theorem dX2_size_24 : decode cX2_size 24 = .ok (.istore_n 1, 1) := by decide +kernel
theorem dX2_size_25 : decode cX2_size 25 = .ok (.iinc 2 1, 3) := by decide +kernel
theorem dX2_size_28 : decode cX2_size 28 = .ok (.goto (-24), 3) := by decide +kernel
theorem dX2_size_31 : decode cX2_size 31 = .ok (.iload_n 1, 1) := by decide +kernel
theorem dX2_size_32 : decode cX2_size 32 = .ok (.ireturn, 1) := by decide +kernel
theorem dX3_init_0 : decode cX3_init 0 = .ok (.aload_n 0, 1) := by decide +kernel
theorem dX3_init_1 : decode cX3_init 1 = .ok (.invokespecial 3, 3) := by decide +kernel
theorem dX3_init_4 : decode cX3_init 4 = .ok (.aload_n 0, 1) := by decide +kernel
theorem dX3_init_5 : decode cX3_init 5 = .ok (.bipush 6, 2) := by decide +kernel
theorem dX3_init_7 : decode cX3_init 7 = .ok (.newarray .int, 2) := by decide +kernel
theorem dX3_init_9 : decode cX3_init 9 = .ok (.putfield 9, 3) := by decide +kernel
theorem dX3_init_12 : decode cX3_init 12 = .ok (.return_, 1) := by decide +kernel
theorem dX3_of_0 : decode cX3_of 0 = .ok (.iload_n 1, 1) := by decide +kernel
theorem dX3_of_1 : decode cX3_of 1 = .ok (.ifCond .lt 21, 3) := by decide +kernel
theorem dX3_of_4 : decode cX3_of 4 = .ok (.iload_n 1, 1) := by decide +kernel
theorem dX3_of_5 : decode cX3_of 5 = .ok (.aload_n 0, 1) := by decide +kernel
theorem dX3_of_6 : decode cX3_of 6 = .ok (.getfield 9, 3) := by decide +kernel
theorem dX3_of_9 : decode cX3_of 9 = .ok (.arraylength, 1) := by decide +kernel
theorem dX3_of_10 : decode cX3_of 10 = .ok (.if_icmp .ge 12, 3) := by decide +kernel
theorem dX3_of_13 : decode cX3_of 13 = .ok (.aload_n 0, 1) := by decide +kernel
theorem dX3_of_14 : decode cX3_of 14 = .ok (.getfield 9, 3) := by decide +kernel
theorem dX3_of_17 : decode cX3_of 17 = .ok (.iload_n 1, 1) := by decide +kernel
theorem dX3_of_18 : decode cX3_of 18 = .ok (.iaload, 1) := by decide +kernel
theorem dX3_of_19 : decode cX3_of 19 = .ok (.goto 4, 3) := by decide +kernel
theorem dX3_of_22 : decode cX3_of 22 = .ok (.iconst 0, 1) := by decide +kernel
theorem dX3_of_23 : decode cX3_of 23 = .ok (.ireturn, 1) := by decide +kernel
theorem dX3_count_0 : decode cX3_count 0 = .ok (.iconst 0, 1) := by decide +kernel
theorem dX3_count_1 : decode cX3_count 1 = .ok (.istore_n 1, 1) := by decide +kernel
theorem dX3_count_2 : decode cX3_count 2 = .ok (.iconst 0, 1) := by decide +kernel
theorem dX3_count_3 : decode cX3_count 3 = .ok (.istore_n 2, 1) := by decide +kernel
theorem dX3_count_4 : decode cX3_count 4 = .ok (.iload_n 2, 1) := by decide +kernel
theorem dX3_count_5 : decode cX3_count 5 = .ok (.aload_n 0, 1) := by decide +kernel
theorem dX3_count_6 : decode cX3_count 6 = .ok (.getfield 9, 3) := by decide +kernel
theorem dX3_count_9 : decode cX3_count 9 = .ok (.arraylength, 1) := by decide +kernel
theorem dX3_count_10 : decode cX3_count 10 = .ok (.if_icmp .ge 20, 3) := by decide +kernel
theorem dX3_count_13 : decode cX3_count 13 = .ok (.iload_n 1, 1) := by decide +kernel
theorem dX3_count_14 : decode cX3_count 14 = .ok (.aload_n 0, 1) := by decide +kernel
theorem dX3_count_15 : decode cX3_count 15 = .ok (.getfield 9, 3) := by decide +kernel
theorem dX3_count_18 : decode cX3_count 18 = .ok (.iload_n 2, 1) := by decide +kernel
theorem dX3_count_19 : decode cX3_count 19 = .ok (.iaload, 1) := by decide +kernel
theorem dX3_count_20 : decode cX3_count 20 = .ok (.invokestatic 15, 3) := by decide +kernel
theorem dX3_count_23 : decode cX3_count 23 = .ok (.istore_n 1, 1) := by decide +kernel
theorem dX3_count_24 : decode cX3_count 24 = .ok (.iinc 2 1, 3) := by decide +kernel
theorem dX3_count_27 : decode cX3_count 27 = .ok (.goto (-23), 3) := by decide +kernel
theorem dX3_count_30 : decode cX3_count 30 = .ok (.iload_n 1, 1) := by decide +kernel
theorem dX3_count_31 : decode cX3_count 31 = .ok (.iconst 1, 1) := by decide +kernel
theorem dX3_count_32 : decode cX3_count 32 = .ok (.iadd, 1) := by decide +kernel
theorem dX3_count_33 : decode cX3_count 33 = .ok (.ireturn, 1) := by decide +kernel
theorem dX3_arrange_0 : decode cX3_arrange 0 = .ok (.iconst 0, 1) := by decide +kernel
theorem dX3_arrange_1 : decode cX3_arrange 1 = .ok (.istore_n 3, 1) := by decide +kernel
theorem dX3_arrange_2 : decode cX3_arrange 2 = .ok (.iload_n 3, 1) := by decide +kernel
theorem dX3_arrange_3 : decode cX3_arrange 3 = .ok (.aload_n 0, 1) := by decide +kernel
theorem dX3_arrange_4 : decode cX3_arrange 4 = .ok (.getfield 9, 3) := by decide +kernel
theorem dX3_arrange_7 : decode cX3_arrange 7 = .ok (.arraylength, 1) := by decide +kernel
theorem dX3_arrange_8 : decode cX3_arrange 8 = .ok (.if_icmp .ge 16, 3) := by decide +kernel
theorem dX3_arrange_11 : decode cX3_arrange 11 = .ok (.aload_n 0, 1) := by decide +kernel
theorem dX3_arrange_12 : decode cX3_arrange 12 = .ok (.getfield 9, 3) := by decide +kernel
theorem dX3_arrange_15 : decode cX3_arrange 15 = .ok (.iload_n 3, 1) := by decide +kernel
theorem dX3_arrange_16 : decode cX3_arrange 16 = .ok (.iconst 0, 1) := by decide +kernel
theorem dX3_arrange_17 : decode cX3_arrange 17 = .ok (.iastore, 1) := by decide +kernel
theorem dX3_arrange_18 : decode cX3_arrange 18 = .ok (.iinc 3 1, 3) := by decide +kernel
theorem dX3_arrange_21 : decode cX3_arrange 21 = .ok (.goto (-19), 3) := by decide +kernel
theorem dX3_arrange_24 : decode cX3_arrange 24 = .ok (.iconst 0, 1) := by decide +kernel
theorem dX3_arrange_25 : decode cX3_arrange 25 = .ok (.istore_n 3, 1) := by decide +kernel
theorem dX3_arrange_26 : decode cX3_arrange 26 = .ok (.iload_n 3, 1) := by decide +kernel
theorem dX3_arrange_27 : decode cX3_arrange 27 = .ok (.bipush 36, 2) := by decide +kernel
theorem dX3_arrange_29 : decode cX3_arrange 29 = .ok (.if_icmp .gt 31, 3) := by decide +kernel
theorem dX3_arrange_32 : decode cX3_arrange 32 = .ok (.aload_n 0, 1) := by decide +kernel
theorem dX3_arrange_33 : decode cX3_arrange 33 = .ok (.aload_n 1, 1) := by decide +kernel
theorem dX3_arrange_34 : decode cX3_arrange 34 = .ok (.iload_n 2, 1) := by decide +kernel
theorem dX3_arrange_35 : decode cX3_arrange 35 = .ok (.invokevirtual 21, 3) := by decide +kernel
theorem dX3_arrange_38 : decode cX3_arrange 38 = .ok (.ifCond .ne 5, 3) := by decide +kernel
theorem dX3_arrange_41 : decode cX3_arrange 41 = .ok (.iconst 1, 1) := by decide +kernel
theorem dX3_arrange_42 : decode cX3_arrange 42 = .ok (.ireturn, 1) := by decide +kernel
theorem dX3_arrange_43 : decode cX3_arrange 43 = .ok (.aload_n 0, 1) := by decide +kernel
theorem dX3_arrange_44 : decode cX3_arrange 44 = .ok (.invokevirtual 25, 3) := by decide +kernel
theorem dX3_arrange_47 : decode cX3_arrange 47 = .ok (.bipush 6, 2) := by decide +kernel
theorem dX3_arrange_49 : decode cX3_arrange 49 = .ok (.if_icmp .le 5, 3) := by decide +kernel
theorem dX3_arrange_52 : decode cX3_arrange 52 = .ok (.iconst 0, 1) := by decide +kernel
theorem dX3_arrange_53 : decode cX3_arrange 53 = .ok (.ireturn, 1) := by decide +kernel
theorem dX3_arrange_54 : decode cX3_arrange 54 = .ok (.iinc 3 1, 3) := by decide +kernel
theorem dX3_arrange_57 : decode cX3_arrange 57 = .ok (.goto (-31), 3) := by decide +kernel
theorem dX3_arrange_60 : decode cX3_arrange 60 = .ok (.iconst 0, 1) := by decide +kernel
theorem dX3_arrange_61 : decode cX3_arrange 61 = .ok (.ireturn, 1) := by decide +kernel
theorem dX3_lift_0 : decode cX3_lift 0 = .ok (.iconst 0, 1) := by decide +kernel
theorem dX3_lift_1 : decode cX3_lift 1 = .ok (.istore_n 3, 1) := by decide +kernel
theorem dX3_lift_2 : decode cX3_lift 2 = .ok (.iconst 0, 1) := by decide +kernel
theorem dX3_lift_3 : decode cX3_lift 3 = .ok (.istore 4, 2) := by decide +kernel
theorem dX3_lift_5 : decode cX3_lift 5 = .ok (.iload 4, 2) := by decide +kernel
theorem dX3_lift_7 : decode cX3_lift 7 = .ok (.iload_n 2, 1) := by decide +kernel
theorem dX3_lift_8 : decode cX3_lift 8 = .ok (.if_icmp .ge 94, 3) := by decide +kernel
theorem dX3_lift_11 : decode cX3_lift 11 = .ok (.aload_n 1, 1) := by decide +kernel
theorem dX3_lift_12 : decode cX3_lift 12 = .ok (.iload 4, 2) := by decide +kernel
theorem dX3_lift_14 : decode cX3_lift 14 = .ok (.invokevirtual 29, 3) := by decide +kernel
theorem dX3_lift_17 : decode cX3_lift 17 = .ok (.istore 5, 2) := by decide +kernel
theorem dX3_lift_19 : decode cX3_lift 19 = .ok (.iconst 0, 1) := by decide +kernel
theorem dX3_lift_20 : decode cX3_lift 20 = .ok (.istore 6, 2) := by decide +kernel
theorem dX3_lift_22 : decode cX3_lift 22 = .ok (.iload 6, 2) := by decide +kernel
theorem dX3_lift_24 : decode cX3_lift 24 = .ok (.iconst 3, 1) := by decide +kernel
theorem dX3_lift_25 : decode cX3_lift 25 = .ok (.if_icmp .ge 71, 3) := by decide +kernel
theorem dX3_lift_28 : decode cX3_lift 28 = .ok (.aload_n 1, 1) := by decide +kernel
theorem dX3_lift_29 : decode cX3_lift 29 = .ok (.iload 4, 2) := by decide +kernel
theorem dX3_lift_31 : decode cX3_lift 31 = .ok (.iload 6, 2) := by decide +kernel
theorem dX3_lift_33 : decode cX3_lift 33 = .ok (.invokevirtual 35, 3) := by decide +kernel
theorem dX3_lift_36 : decode cX3_lift 36 = .ok (.istore 7, 2) := by decide +kernel
theorem dX3_lift_38 : decode cX3_lift 38 = .ok (.iload 7, 2) := by decide +kernel
theorem dX3_lift_40 : decode cX3_lift 40 = .ok (.ifCond .ne 7, 3) := by decide +kernel
theorem dX3_lift_43 : decode cX3_lift 43 = .ok (.iconst 0, 1) := by decide +kernel
theorem dX3_lift_44 : decode cX3_lift 44 = .ok (.goto 23, 3) := by decide +kernel
theorem dX3_lift_47 : decode cX3_lift 47 = .ok (.aload_n 0, 1) := by decide +kernel
theorem dX3_lift_48 : decode cX3_lift 48 = .ok (.iload 7, 2) := by decide +kernel
theorem dX3_lift_50 : decode cX3_lift 50 = .ok (.invokestatic 38, 3) := by decide +kernel
theorem dX3_lift_53 : decode cX3_lift 53 = .ok (.invokevirtual 41, 3) := by decide +kernel
theorem dX3_lift_56 : decode cX3_lift 56 = .ok (.iload 7, 2) := by decide +kernel
theorem dX3_lift_58 : decode cX3_lift 58 = .ok (.ifCond .ge 7, 3) := by decide +kernel
theorem dX3_lift_61 : decode cX3_lift 61 = .ok (.iconst 1, 1) := by decide +kernel
theorem dX3_lift_62 : decode cX3_lift 62 = .ok (.goto 4, 3) := by decide +kernel
theorem dX3_lift_65 : decode cX3_lift 65 = .ok (.iconst 0, 1) := by decide +kernel
theorem dX3_lift_66 : decode cX3_lift 66 = .ok (.iadd, 1) := by decide +kernel
theorem dX3_lift_67 : decode cX3_lift 67 = .ok (.istore 8, 2) := by decide +kernel
theorem dX3_lift_69 : decode cX3_lift 69 = .ok (.aload_n 0, 1) := by decide +kernel
theorem dX3_lift_70 : decode cX3_lift 70 = .ok (.iload 5, 2) := by decide +kernel
theorem dX3_lift_72 : decode cX3_lift 72 = .ok (.invokevirtual 41, 3) := by decide +kernel
theorem dX3_lift_75 : decode cX3_lift 75 = .ok (.iload 8, 2) := by decide +kernel
theorem dX3_lift_77 : decode cX3_lift 77 = .ok (.if_icmp .ge 13, 3) := by decide +kernel
theorem dX3_lift_80 : decode cX3_lift 80 = .ok (.aload_n 0, 1) := by decide +kernel
theorem dX3_lift_81 : decode cX3_lift 81 = .ok (.iload 5, 2) := by decide +kernel
theorem dX3_lift_83 : decode cX3_lift 83 = .ok (.iload 8, 2) := by decide +kernel
theorem dX3_lift_85 : decode cX3_lift 85 = .ok (.invokevirtual 44, 3) := by decide +kernel
theorem dX3_lift_88 : decode cX3_lift 88 = .ok (.iconst 1, 1) := by decide +kernel
theorem dX3_lift_89 : decode cX3_lift 89 = .ok (.istore_n 3, 1) := by decide +kernel
theorem dX3_lift_90 : decode cX3_lift 90 = .ok (.iinc 6 1, 3) := by decide +kernel
theorem dX3_lift_93 : decode cX3_lift 93 = .ok (.goto (-71), 3) := by decide +kernel
theorem dX3_lift_96 : decode cX3_lift 96 = .ok (.iinc 4 1, 3) := by decide +kernel
theorem dX3_lift_99 : decode cX3_lift 99 = .ok (.goto (-94), 3) := by decide +kernel
theorem dX3_lift_102 : decode cX3_lift 102 = .ok (.iload_n 3, 1) := by decide +kernel
theorem dX3_lift_103 : decode cX3_lift 103 = .ok (.ireturn, 1) := by decide +kernel
theorem dX3_raise_0 : decode cX3_raise 0 = .ok (.iload_n 1, 1) := by decide +kernel
theorem dX3_raise_1 : decode cX3_raise 1 = .ok (.ifCond .lt 19, 3) := by decide +kernel
theorem dX3_raise_4 : decode cX3_raise 4 = .ok (.iload_n 1, 1) := by decide +kernel
theorem dX3_raise_5 : decode cX3_raise 5 = .ok (.aload_n 0, 1) := by decide +kernel
theorem dX3_raise_6 : decode cX3_raise 6 = .ok (.getfield 9, 3) := by decide +kernel
theorem dX3_raise_9 : decode cX3_raise 9 = .ok (.arraylength, 1) := by decide +kernel
theorem dX3_raise_10 : decode cX3_raise 10 = .ok (.if_icmp .ge 10, 3) := by decide +kernel
theorem dX3_raise_13 : decode cX3_raise 13 = .ok (.aload_n 0, 1) := by decide +kernel
theorem dX3_raise_14 : decode cX3_raise 14 = .ok (.getfield 9, 3) := by decide +kernel
theorem dX3_raise_17 : decode cX3_raise 17 = .ok (.iload_n 1, 1) := by decide +kernel
theorem dX3_raise_18 : decode cX3_raise 18 = .ok (.iload_n 2, 1) := by decide +kernel
theorem dX3_raise_19 : decode cX3_raise 19 = .ok (.iastore, 1) := by decide +kernel
theorem dX3_raise_20 : decode cX3_raise 20 = .ok (.return_, 1) := by decide +kernel
theorem dX4_init_0 : decode cX4_init 0 = .ok (.aload_n 0, 1) := by decide +kernel
theorem dX4_init_1 : decode cX4_init 1 = .ok (.invokespecial 3, 3) := by decide +kernel
theorem dX4_init_4 : decode cX4_init 4 = .ok (.aload_n 0, 1) := by decide +kernel
theorem dX4_init_5 : decode cX4_init 5 = .ok (.bipush 24, 2) := by decide +kernel
theorem dX4_init_7 : decode cX4_init 7 = .ok (.newarray .char, 2) := by decide +kernel
theorem dX4_init_9 : decode cX4_init 9 = .ok (.putfield 9, 3) := by decide +kernel
theorem dX4_init_12 : decode cX4_init 12 = .ok (.aload_n 0, 1) := by decide +kernel
theorem dX4_init_13 : decode cX4_init 13 = .ok (.iconst 0, 1) := by decide +kernel
theorem dX4_init_14 : decode cX4_init 14 = .ok (.putfield 15, 3) := by decide +kernel
theorem dX4_init_17 : decode cX4_init 17 = .ok (.return_, 1) := by decide +kernel
theorem dX4_clear_0 : decode cX4_clear 0 = .ok (.aload_n 0, 1) := by decide +kernel
theorem dX4_clear_1 : decode cX4_clear 1 = .ok (.iconst 0, 1) := by decide +kernel
theorem dX4_clear_2 : decode cX4_clear 2 = .ok (.putfield 15, 3) := by decide +kernel
theorem dX4_clear_5 : decode cX4_clear 5 = .ok (.return_, 1) := by decide +kernel
theorem dX4_add_0 : decode cX4_add 0 = .ok (.aload_n 0, 1) := by decide +kernel
theorem dX4_add_1 : decode cX4_add 1 = .ok (.getfield 15, 3) := by decide +kernel
theorem dX4_add_4 : decode cX4_add 4 = .ok (.aload_n 0, 1) := by decide +kernel
theorem dX4_add_5 : decode cX4_add 5 = .ok (.getfield 9, 3) := by decide +kernel
theorem dX4_add_8 : decode cX4_add 8 = .ok (.arraylength, 1) := by decide +kernel
theorem dX4_add_9 : decode cX4_add 9 = .ok (.if_icmp .ge 23, 3) := by decide +kernel
theorem dX4_add_12 : decode cX4_add 12 = .ok (.aload_n 0, 1) := by decide +kernel
theorem dX4_add_13 : decode cX4_add 13 = .ok (.getfield 9, 3) := by decide +kernel
theorem dX4_add_16 : decode cX4_add 16 = .ok (.aload_n 0, 1) := by decide +kernel
theorem dX4_add_17 : decode cX4_add 17 = .ok (.getfield 15, 3) := by decide +kernel
theorem dX4_add_20 : decode cX4_add 20 = .ok (.iload_n 1, 1) := by decide +kernel
theorem dX4_add_21 : decode cX4_add 21 = .ok (.castore, 1) := by decide +kernel
theorem dX4_add_22 : decode cX4_add 22 = .ok (.aload_n 0, 1) := by decide +kernel
theorem dX4_add_23 : decode cX4_add 23 = .ok (.dup, 1) := by decide +kernel
theorem dX4_add_24 : decode cX4_add 24 = .ok (.getfield 15, 3) := by decide +kernel
theorem dX4_add_27 : decode cX4_add 27 = .ok (.iconst 1, 1) := by decide +kernel
theorem dX4_add_28 : decode cX4_add 28 = .ok (.iadd, 1) := by decide +kernel
theorem dX4_add_29 : decode cX4_add 29 = .ok (.putfield 15, 3) := by decide +kernel
theorem dX4_add_32 : decode cX4_add 32 = .ok (.return_, 1) := by decide +kernel
theorem dX4_addNumber_0 : decode cX4_addNumber 0 = .ok (.aload_n 0, 1) := by decide +kernel
theorem dX4_addNumber_1 : decode cX4_addNumber 1 = .ok (.iload_n 1, 1) := by decide +kernel
theorem dX4_addNumber_2 : decode cX4_addNumber 2 = .ok (.iload_n 2, 1) := by decide +kernel
theorem dX4_addNumber_3 : decode cX4_addNumber 3 = .ok (.iadd, 1) := by decide +kernel
theorem dX4_addNumber_4 : decode cX4_addNumber 4 = .ok (.i2c, 1) := by decide +kernel
theorem dX4_addNumber_5 : decode cX4_addNumber 5 = .ok (.invokevirtual 19, 3) := by decide +kernel
theorem dX4_addNumber_8 : decode cX4_addNumber 8 = .ok (.return_, 1) := by decide +kernel
theorem dX4_addFact_0 : decode cX4_addFact 0 = .ok (.aload_n 0, 1) := by decide +kernel
theorem dX4_addFact_1 : decode cX4_addFact 1 = .ok (.bipush 48, 2) := by decide +kernel
theorem dX4_addFact_3 : decode cX4_addFact 3 = .ok (.iload_n 1, 1) := by decide +kernel
theorem dX4_addFact_4 : decode cX4_addFact 4 = .ok (.bipush 36, 2) := by decide +kernel
theorem dX4_addFact_6 : decode cX4_addFact 6 = .ok (.idiv, 1) := by decide +kernel
theorem dX4_addFact_7 : decode cX4_addFact 7 = .ok (.invokevirtual 23, 3) := by decide +kernel
theorem dX4_addFact_10 : decode cX4_addFact 10 = .ok (.aload_n 0, 1) := by decide +kernel
theorem dX4_addFact_11 : decode cX4_addFact 11 = .ok (.bipush 97, 2) := by decide +kernel
theorem dX4_addFact_13 : decode cX4_addFact 13 = .ok (.iload_n 1, 1) := by decide +kernel
theorem dX4_addFact_14 : decode cX4_addFact 14 = .ok (.bipush 6, 2) := by decide +kernel
theorem dX4_addFact_16 : decode cX4_addFact 16 = .ok (.idiv, 1) := by decide +kernel
theorem dX4_addFact_17 : decode cX4_addFact 17 = .ok (.bipush 6, 2) := by decide +kernel
theorem dX4_addFact_19 : decode cX4_addFact 19 = .ok (.irem, 1) := by decide +kernel
theorem dX4_addFact_20 : decode cX4_addFact 20 = .ok (.invokevirtual 23, 3) := by decide +kernel
theorem dX4_addFact_23 : decode cX4_addFact 23 = .ok (.aload_n 0, 1) := by decide +kernel
theorem dX4_addFact_24 : decode cX4_addFact 24 = .ok (.bipush 97, 2) := by decide +kernel
theorem dX4_addFact_26 : decode cX4_addFact 26 = .ok (.iload_n 1, 1) := by decide +kernel
theorem dX4_addFact_27 : decode cX4_addFact 27 = .ok (.bipush 6, 2) := by decide +kernel
theorem dX4_addFact_29 : decode cX4_addFact 29 = .ok (.irem, 1) := by decide +kernel
theorem dX4_addFact_30 : decode cX4_addFact 30 = .ok (.invokevirtual 23, 3) := by decide +kernel
theorem dX4_addFact_33 : decode cX4_addFact 33 = .ok (.return_, 1) := by decide +kernel
theorem dX4_addCondition_0 : decode cX4_addCondition 0 = .ok (.iload_n 1, 1) := by decide +kernel
theorem dX4_addCondition_1 : decode cX4_addCondition 1 = .ok (.ifCond .ge 9, 3) := by decide +kernel
theorem dX4_addCondition_4 : decode cX4_addCondition 4 = .ok (.aload_n 0, 1) := by decide +kernel
theorem dX4_addCondition_5 : decode cX4_addCondition 5 = .ok (.bipush 33, 2) := by decide +kernel
theorem dX4_addCondition_7 : decode cX4_addCondition 7 = .ok (.invokevirtual 19, 3) := by decide +kernel
theorem dX4_addCondition_10 : decode cX4_addCondition 10 = .ok (.aload_n 0, 1) := by decide +kernel
theorem dX4_addCondition_11 : decode cX4_addCondition 11 = .ok (.bipush 48, 2) := by decide +kernel
theorem dX4_addCondition_13 : decode cX4_addCondition 13 = .ok (.iload_n 1, 1) := by decide +kernel
theorem dX4_addCondition_14 : decode cX4_addCondition 14 = .ok (.invokestatic 27, 3) := by decide +kernel
theorem dX4_addCondition_17 : decode cX4_addCondition 17 = .ok (.invokevirtual 23, 3) := by decide +kernel
theorem dX4_addCondition_20 : decode cX4_addCondition 20 = .ok (.aload_n 0, 1) := by decide +kernel
theorem dX4_addCondition_21 : decode cX4_addCondition 21 = .ok (.bipush 120, 2) := by decide +kernel
theorem dX4_addCondition_23 : decode cX4_addCondition 23 = .ok (.iload_n 1, 1) := by decide +kernel
theorem dX4_addCondition_24 : decode cX4_addCondition 24 = .ok (.invokestatic 31, 3) := by decide +kernel
theorem dX4_addCondition_27 : decode cX4_addCondition 27 = .ok (.invokevirtual 23, 3) := by decide +kernel
theorem dX4_addCondition_30 : decode cX4_addCondition 30 = .ok (.aload_n 0, 1) := by decide +kernel
theorem dX4_addCondition_31 : decode cX4_addCondition 31 = .ok (.bipush 120, 2) := by decide +kernel
theorem dX4_addCondition_33 : decode cX4_addCondition 33 = .ok (.iload_n 1, 1) := by decide +kernel
theorem dX4_addCondition_34 : decode cX4_addCondition 34 = .ok (.invokestatic 34, 3) := by decide +kernel
theorem dX4_addCondition_37 : decode cX4_addCondition 37 = .ok (.invokevirtual 23, 3) := by decide +kernel
theorem dX4_addCondition_40 : decode cX4_addCondition 40 = .ok (.return_, 1) := by decide +kernel
theorem dX5_init_0 : decode cX5_init 0 = .ok (.aload_n 0, 1) := by decide +kernel
theorem dX5_init_1 : decode cX5_init 1 = .ok (.invokespecial 3, 3) := by decide +kernel
theorem dX5_init_4 : decode cX5_init 4 = .ok (.aload_n 0, 1) := by decide +kernel
theorem dX5_init_5 : decode cX5_init 5 = .ok (.bipush 9, 2) := by decide +kernel
theorem dX5_init_7 : decode cX5_init 7 = .ok (.anewarray 9, 3) := by decide +kernel
theorem dX5_init_10 : decode cX5_init 10 = .ok (.putfield 11, 3) := by decide +kernel
theorem dX5_init_13 : decode cX5_init 13 = .ok (.aload_n 0, 1) := by decide +kernel
theorem dX5_init_14 : decode cX5_init 14 = .ok (.iconst 0, 1) := by decide +kernel
theorem dX5_init_15 : decode cX5_init 15 = .ok (.putfield 17, 3) := by decide +kernel
theorem dX5_init_18 : decode cX5_init 18 = .ok (.aload_n 0, 1) := by decide +kernel
theorem dX5_init_19 : decode cX5_init 19 = .ok (.iconst 0, 1) := by decide +kernel
theorem dX5_init_20 : decode cX5_init 20 = .ok (.putfield 21, 3) := by decide +kernel
theorem dX5_init_23 : decode cX5_init 23 = .ok (.iconst 0, 1) := by decide +kernel
theorem dX5_init_24 : decode cX5_init 24 = .ok (.istore_n 1, 1) := by decide +kernel
theorem dX5_init_25 : decode cX5_init 25 = .ok (.iload_n 1, 1) := by decide +kernel
theorem dX5_init_26 : decode cX5_init 26 = .ok (.aload_n 0, 1) := by decide +kernel
theorem dX5_init_27 : decode cX5_init 27 = .ok (.getfield 11, 3) := by decide +kernel
theorem dX5_init_30 : decode cX5_init 30 = .ok (.arraylength, 1) := by decide +kernel
theorem dX5_init_31 : decode cX5_init 31 = .ok (.if_icmp .ge 22, 3) := by decide +kernel
theorem dX5_init_34 : decode cX5_init 34 = .ok (.aload_n 0, 1) := by decide +kernel
theorem dX5_init_35 : decode cX5_init 35 = .ok (.getfield 11, 3) := by decide +kernel
theorem dX5_init_38 : decode cX5_init 38 = .ok (.iload_n 1, 1) := by decide +kernel
theorem dX5_init_39 : decode cX5_init 39 = .ok (.new 9, 3) := by decide +kernel
theorem dX5_init_42 : decode cX5_init 42 = .ok (.dup, 1) := by decide +kernel
theorem dX5_init_43 : decode cX5_init 43 = .ok (.invokespecial 24, 3) := by decide +kernel
theorem dX5_init_46 : decode cX5_init 46 = .ok (.aastore, 1) := by decide +kernel
theorem dX5_init_47 : decode cX5_init 47 = .ok (.iinc 1 1, 3) := by decide +kernel
theorem dX5_init_50 : decode cX5_init 50 = .ok (.goto (-25), 3) := by decide +kernel
theorem dX5_init_53 : decode cX5_init 53 = .ok (.return_, 1) := by decide +kernel
theorem dX5_mark_0 : decode cX5_mark 0 = .ok (.aload_n 0, 1) := by decide +kernel
theorem dX5_mark_1 : decode cX5_mark 1 = .ok (.invokevirtual 25, 3) := by decide +kernel
theorem dX5_mark_4 : decode cX5_mark 4 = .ok (.astore_n 2, 1) := by decide +kernel
theorem dX5_mark_5 : decode cX5_mark 5 = .ok (.aload_n 2, 1) := by decide +kernel
theorem dX5_mark_6 : decode cX5_mark 6 = .ok (.ifnull 8, 3) := by decide +kernel
theorem dX5_mark_9 : decode cX5_mark 9 = .ok (.aload_n 2, 1) := by decide +kernel
theorem dX5_mark_10 : decode cX5_mark 10 = .ok (.aload_n 1, 1) := by decide +kernel
theorem dX5_mark_11 : decode cX5_mark 11 = .ok (.invokevirtual 29, 3) := by decide +kernel
theorem dX5_mark_14 : decode cX5_mark 14 = .ok (.return_, 1) := by decide +kernel
theorem dX5_giveBack_0 : decode cX5_giveBack 0 = .ok (.aload_n 0, 1) := by decide +kernel
theorem dX5_giveBack_1 : decode cX5_giveBack 1 = .ok (.invokevirtual 25, 3) := by decide +kernel
theorem dX5_giveBack_4 : decode cX5_giveBack 4 = .ok (.astore_n 2, 1) := by decide +kernel
theorem dX5_giveBack_5 : decode cX5_giveBack 5 = .ok (.aload_n 2, 1) := by decide +kernel
theorem dX5_giveBack_6 : decode cX5_giveBack 6 = .ok (.ifnull 8, 3) := by decide +kernel
theorem dX5_giveBack_9 : decode cX5_giveBack 9 = .ok (.aload_n 1, 1) := by decide +kernel
theorem dX5_giveBack_10 : decode cX5_giveBack 10 = .ok (.aload_n 2, 1) := by decide +kernel
theorem dX5_giveBack_11 : decode cX5_giveBack 11 = .ok (.invokevirtual 29, 3) := by decide +kernel
theorem dX5_giveBack_14 : decode cX5_giveBack 14 = .ok (.return_, 1) := by decide +kernel
theorem dX5_marked_0 : decode cX5_marked 0 = .ok (.aload_n 0, 1) := by decide +kernel
theorem dX5_marked_1 : decode cX5_marked 1 = .ok (.getfield 17, 3) := by decide +kernel
theorem dX5_marked_4 : decode cX5_marked 4 = .ok (.ifCond .lt 27, 3) := by decide +kernel
theorem dX5_marked_7 : decode cX5_marked 7 = .ok (.aload_n 0, 1) := by decide +kernel
theorem dX5_marked_8 : decode cX5_marked 8 = .ok (.getfield 17, 3) := by decide +kernel
theorem dX5_marked_11 : decode cX5_marked 11 = .ok (.aload_n 0, 1) := by decide +kernel
theorem dX5_marked_12 : decode cX5_marked 12 = .ok (.getfield 11, 3) := by decide +kernel
theorem dX5_marked_15 : decode cX5_marked 15 = .ok (.arraylength, 1) := by decide +kernel
theorem dX5_marked_16 : decode cX5_marked 16 = .ok (.if_icmp .ge 15, 3) := by decide +kernel
theorem dX5_marked_19 : decode cX5_marked 19 = .ok (.aload_n 0, 1) := by decide +kernel
theorem dX5_marked_20 : decode cX5_marked 20 = .ok (.getfield 11, 3) := by decide +kernel
theorem dX5_marked_23 : decode cX5_marked 23 = .ok (.aload_n 0, 1) := by decide +kernel
theorem dX5_marked_24 : decode cX5_marked 24 = .ok (.getfield 17, 3) := by decide +kernel
theorem dX5_marked_27 : decode cX5_marked 27 = .ok (.aaload, 1) := by decide +kernel
theorem dX5_marked_28 : decode cX5_marked 28 = .ok (.goto 4, 3) := by decide +kernel
theorem dX5_marked_31 : decode cX5_marked 31 = .ok (.aconst_null, 1) := by decide +kernel
theorem dX5_marked_32 : decode cX5_marked 32 = .ok (.areturn, 1) := by decide +kernel
theorem dX5_keep_0 : decode cX5_keep 0 = .ok (.aload_n 0, 1) := by decide +kernel
theorem dX5_keep_1 : decode cX5_keep 1 = .ok (.aload_n 0, 1) := by decide +kernel
theorem dX5_keep_2 : decode cX5_keep 2 = .ok (.getfield 17, 3) := by decide +kernel
theorem dX5_keep_5 : decode cX5_keep 5 = .ok (.bipush 8, 2) := by decide +kernel
theorem dX5_keep_7 : decode cX5_keep 7 = .ok (.if_icmp .ge 12, 3) := by decide +kernel
theorem dX5_keep_10 : decode cX5_keep 10 = .ok (.aload_n 0, 1) := by decide +kernel
theorem dX5_keep_11 : decode cX5_keep 11 = .ok (.getfield 17, 3) := by decide +kernel
theorem dX5_keep_14 : decode cX5_keep 14 = .ok (.iconst 1, 1) := by decide +kernel
theorem dX5_keep_15 : decode cX5_keep 15 = .ok (.iadd, 1) := by decide +kernel
theorem dX5_keep_16 : decode cX5_keep 16 = .ok (.goto 4, 3) := by decide +kernel
theorem dX5_keep_19 : decode cX5_keep 19 = .ok (.iconst 0, 1) := by decide +kernel
theorem dX5_keep_20 : decode cX5_keep 20 = .ok (.putfield 17, 3) := by decide +kernel
theorem dX5_keep_23 : decode cX5_keep 23 = .ok (.aload_n 0, 1) := by decide +kernel
theorem dX5_keep_24 : decode cX5_keep 24 = .ok (.aload_n 0, 1) := by decide +kernel
theorem dX5_keep_25 : decode cX5_keep 25 = .ok (.getfield 21, 3) := by decide +kernel
theorem dX5_keep_28 : decode cX5_keep 28 = .ok (.iconst 1, 1) := by decide +kernel
theorem dX5_keep_29 : decode cX5_keep 29 = .ok (.iadd, 1) := by decide +kernel
theorem dX5_keep_30 : decode cX5_keep 30 = .ok (.bipush 8, 2) := by decide +kernel
theorem dX5_keep_32 : decode cX5_keep 32 = .ok (.invokestatic 33, 3) := by decide +kernel
theorem dX5_keep_35 : decode cX5_keep 35 = .ok (.putfield 21, 3) := by decide +kernel
theorem dX5_keep_38 : decode cX5_keep 38 = .ok (.return_, 1) := by decide +kernel
theorem dX5_stepBack_0 : decode cX5_stepBack 0 = .ok (.aload_n 0, 1) := by decide +kernel
theorem dX5_stepBack_1 : decode cX5_stepBack 1 = .ok (.aload_n 0, 1) := by decide +kernel
theorem dX5_stepBack_2 : decode cX5_stepBack 2 = .ok (.getfield 17, 3) := by decide +kernel
theorem dX5_stepBack_5 : decode cX5_stepBack 5 = .ok (.ifCond .le 12, 3) := by decide +kernel
theorem dX5_stepBack_8 : decode cX5_stepBack 8 = .ok (.aload_n 0, 1) := by decide +kernel
theorem dX5_stepBack_9 : decode cX5_stepBack 9 = .ok (.getfield 17, 3) := by decide +kernel
theorem dX5_stepBack_12 : decode cX5_stepBack 12 = .ok (.iconst 1, 1) := by decide +kernel
theorem dX5_stepBack_13 : decode cX5_stepBack 13 = .ok (.isub, 1) := by decide +kernel
theorem dX5_stepBack_14 : decode cX5_stepBack 14 = .ok (.goto 5, 3) := by decide +kernel
theorem dX5_stepBack_17 : decode cX5_stepBack 17 = .ok (.bipush 8, 2) := by decide +kernel
theorem dX5_stepBack_19 : decode cX5_stepBack 19 = .ok (.putfield 17, 3) := by decide +kernel
theorem dX5_stepBack_22 : decode cX5_stepBack 22 = .ok (.aload_n 0, 1) := by decide +kernel
theorem dX5_stepBack_23 : decode cX5_stepBack 23 = .ok (.aload_n 0, 1) := by decide +kernel
theorem dX5_stepBack_24 : decode cX5_stepBack 24 = .ok (.getfield 21, 3) := by decide +kernel
theorem dX5_stepBack_27 : decode cX5_stepBack 27 = .ok (.iconst 1, 1) := by decide +kernel
theorem dX5_stepBack_28 : decode cX5_stepBack 28 = .ok (.isub, 1) := by decide +kernel
theorem dX5_stepBack_29 : decode cX5_stepBack 29 = .ok (.iconst 0, 1) := by decide +kernel
theorem dX5_stepBack_30 : decode cX5_stepBack 30 = .ok (.invokestatic 39, 3) := by decide +kernel
theorem dX5_stepBack_33 : decode cX5_stepBack 33 = .ok (.putfield 21, 3) := by decide +kernel
theorem dX5_stepBack_36 : decode cX5_stepBack 36 = .ok (.aload_n 0, 1) := by decide +kernel
theorem dX5_stepBack_37 : decode cX5_stepBack 37 = .ok (.aload_n 1, 1) := by decide +kernel
theorem dX5_stepBack_38 : decode cX5_stepBack 38 = .ok (.invokevirtual 42, 3) := by decide +kernel
theorem dX5_stepBack_41 : decode cX5_stepBack 41 = .ok (.return_, 1) := by decide +kernel
theorem dX5_forget_0 : decode cX5_forget 0 = .ok (.aload_n 0, 1) := by decide +kernel
theorem dX5_forget_1 : decode cX5_forget 1 = .ok (.iconst 0, 1) := by decide +kernel
theorem dX5_forget_2 : decode cX5_forget 2 = .ok (.putfield 21, 3) := by decide +kernel
theorem dX5_forget_5 : decode cX5_forget 5 = .ok (.return_, 1) := by decide +kernel
theorem dX6_init_0 : decode cX6_init 0 = .ok (.aload_n 0, 1) := by decide +kernel
theorem dX6_init_1 : decode cX6_init 1 = .ok (.invokespecial 3, 3) := by decide +kernel
theorem dX6_init_4 : decode cX6_init 4 = .ok (.aload_n 0, 1) := by decide +kernel
theorem dX6_init_5 : decode cX6_init 5 = .ok (.bipush 11, 2) := by decide +kernel
theorem dX6_init_7 : decode cX6_init 7 = .ok (.newarray .int, 2) := by decide +kernel
theorem dX6_init_9 : decode cX6_init 9 = .ok (.putfield 9, 3) := by decide +kernel
theorem dX6_init_12 : decode cX6_init 12 = .ok (.aload_n 0, 1) := by decide +kernel
theorem dX6_init_13 : decode cX6_init 13 = .ok (.bipush 33, 2) := by decide +kernel
theorem dX6_init_15 : decode cX6_init 15 = .ok (.newarray .int, 2) := by decide +kernel
theorem dX6_init_17 : decode cX6_init 17 = .ok (.putfield 15, 3) := by decide +kernel
theorem dX6_init_20 : decode cX6_init 20 = .ok (.aload_n 0, 1) := by decide +kernel
theorem dX6_init_21 : decode cX6_init 21 = .ok (.bipush 11, 2) := by decide +kernel
theorem dX6_init_23 : decode cX6_init 23 = .ok (.newarray .int, 2) := by decide +kernel
theorem dX6_init_25 : decode cX6_init 25 = .ok (.putfield 18, 3) := by decide +kernel
theorem dX6_init_28 : decode cX6_init 28 = .ok (.aload_n 0, 1) := by decide +kernel
theorem dX6_init_29 : decode cX6_init 29 = .ok (.iconst 0, 1) := by decide +kernel
theorem dX6_init_30 : decode cX6_init 30 = .ok (.putfield 21, 3) := by decide +kernel
theorem dX6_init_33 : decode cX6_init 33 = .ok (.return_, 1) := by decide +kernel
theorem dX6_has_0 : decode cX6_has 0 = .ok (.iload_n 1, 1) := by decide +kernel
theorem dX6_has_1 : decode cX6_has 1 = .ok (.ifCond .lt 15, 3) := by decide +kernel
theorem dX6_has_4 : decode cX6_has 4 = .ok (.iload_n 1, 1) := by decide +kernel
theorem dX6_has_5 : decode cX6_has 5 = .ok (.aload_n 0, 1) := by decide +kernel
theorem dX6_has_6 : decode cX6_has 6 = .ok (.getfield 21, 3) := by decide +kernel
theorem dX6_has_9 : decode cX6_has 9 = .ok (.if_icmp .ge 7, 3) := by decide +kernel
theorem dX6_has_12 : decode cX6_has 12 = .ok (.iconst 1, 1) := by decide +kernel
theorem dX6_has_13 : decode cX6_has 13 = .ok (.goto 4, 3) := by decide +kernel
theorem dX6_has_16 : decode cX6_has 16 = .ok (.iconst 0, 1) := by decide +kernel
theorem dX6_has_17 : decode cX6_has 17 = .ok (.ireturn, 1) := by decide +kernel
theorem dX6_head_0 : decode cX6_head 0 = .ok (.iload_n 1, 1) := by decide +kernel
theorem dX6_head_1 : decode cX6_head 1 = .ok (.ifCond .lt 21, 3) := by decide +kernel
theorem dX6_head_4 : decode cX6_head 4 = .ok (.iload_n 1, 1) := by decide +kernel
theorem dX6_head_5 : decode cX6_head 5 = .ok (.aload_n 0, 1) := by decide +kernel
theorem dX6_head_6 : decode cX6_head 6 = .ok (.getfield 9, 3) := by decide +kernel
theorem dX6_head_9 : decode cX6_head 9 = .ok (.arraylength, 1) := by decide +kernel
theorem dX6_head_10 : decode cX6_head 10 = .ok (.if_icmp .ge 12, 3) := by decide +kernel
theorem dX6_head_13 : decode cX6_head 13 = .ok (.aload_n 0, 1) := by decide +kernel
theorem dX6_head_14 : decode cX6_head 14 = .ok (.getfield 9, 3) := by decide +kernel
theorem dX6_head_17 : decode cX6_head 17 = .ok (.iload_n 1, 1) := by decide +kernel
theorem dX6_head_18 : decode cX6_head 18 = .ok (.iaload, 1) := by decide +kernel
theorem dX6_head_19 : decode cX6_head 19 = .ok (.goto 4, 3) := by decide +kernel
theorem dX6_head_22 : decode cX6_head 22 = .ok (.iconst 0, 1) := by decide +kernel
theorem dX6_head_23 : decode cX6_head 23 = .ok (.ireturn, 1) := by decide +kernel
theorem dX6_code_0 : decode cX6_code 0 = .ok (.iload_n 1, 1) := by decide +kernel
theorem dX6_code_1 : decode cX6_code 1 = .ok (.ifCond .lt 21, 3) := by decide +kernel
theorem dX6_code_4 : decode cX6_code 4 = .ok (.iload_n 1, 1) := by decide +kernel
theorem dX6_code_5 : decode cX6_code 5 = .ok (.aload_n 0, 1) := by decide +kernel
theorem dX6_code_6 : decode cX6_code 6 = .ok (.getfield 9, 3) := by decide +kernel
theorem dX6_code_9 : decode cX6_code 9 = .ok (.arraylength, 1) := by decide +kernel
theorem dX6_code_10 : decode cX6_code 10 = .ok (.if_icmp .ge 12, 3) := by decide +kernel
theorem dX6_code_13 : decode cX6_code 13 = .ok (.iload_n 2, 1) := by decide +kernel
theorem dX6_code_14 : decode cX6_code 14 = .ok (.ifCond .lt 8, 3) := by decide +kernel
theorem dX6_code_17 : decode cX6_code 17 = .ok (.iload_n 2, 1) := by decide +kernel
theorem dX6_code_18 : decode cX6_code 18 = .ok (.iconst 3, 1) := by decide +kernel
theorem dX6_code_19 : decode cX6_code 19 = .ok (.if_icmp .lt 5, 3) := by decide +kernel
theorem dX6_code_22 : decode cX6_code 22 = .ok (.iconst 0, 1) := by decide +kernel
theorem dX6_code_23 : decode cX6_code 23 = .ok (.ireturn, 1) := by decide +kernel
theorem dX6_code_24 : decode cX6_code 24 = .ok (.aload_n 0, 1) := by decide +kernel
theorem dX6_code_25 : decode cX6_code 25 = .ok (.getfield 15, 3) := by decide +kernel
theorem dX6_code_28 : decode cX6_code 28 = .ok (.iconst 3, 1) := by decide +kernel
theorem dX6_code_29 : decode cX6_code 29 = .ok (.iload_n 1, 1) := by decide +kernel
theorem dX6_code_30 : decode cX6_code 30 = .ok (.imul, 1) := by decide +kernel
theorem dX6_code_31 : decode cX6_code 31 = .ok (.iload_n 2, 1) := by decide +kernel
theorem dX6_code_32 : decode cX6_code 32 = .ok (.iadd, 1) := by decide +kernel
theorem dX6_code_33 : decode cX6_code 33 = .ok (.iaload, 1) := by decide +kernel
theorem dX6_code_34 : decode cX6_code 34 = .ok (.ireturn, 1) := by decide +kernel
theorem dX6_conditionsOf_0 : decode cX6_conditionsOf 0 = .ok (.iconst 0, 1) := by decide +kernel
theorem dX6_conditionsOf_1 : decode cX6_conditionsOf 1 = .ok (.istore_n 2, 1) := by decide +kernel
theorem dX6_conditionsOf_2 : decode cX6_conditionsOf 2 = .ok (.iconst 0, 1) := by decide +kernel
theorem dX6_conditionsOf_3 : decode cX6_conditionsOf 3 = .ok (.istore_n 3, 1) := by decide +kernel
theorem dX6_conditionsOf_4 : decode cX6_conditionsOf 4 = .ok (.iload_n 3, 1) := by decide +kernel
theorem dX6_conditionsOf_5 : decode cX6_conditionsOf 5 = .ok (.iconst 3, 1) := by decide +kernel
theorem dX6_conditionsOf_6 : decode cX6_conditionsOf 6 = .ok (.if_icmp .ge 21, 3) := by decide +kernel
theorem dX6_conditionsOf_9 : decode cX6_conditionsOf 9 = .ok (.aload_n 0, 1) := by decide +kernel
theorem dX6_conditionsOf_10 : decode cX6_conditionsOf 10 = .ok (.iload_n 1, 1) := by decide +kernel
theorem dX6_conditionsOf_11 : decode cX6_conditionsOf 11 = .ok (.iload_n 3, 1) := by decide +kernel
theorem dX6_conditionsOf_12 : decode cX6_conditionsOf 12 = .ok (.invokevirtual 25, 3) := by decide +kernel
theorem dX6_conditionsOf_15 : decode cX6_conditionsOf 15 = .ok (.ifCond .eq 6, 3) := by decide +kernel
theorem dX6_conditionsOf_18 : decode cX6_conditionsOf 18 = .ok (.iinc 2 1, 3) := by decide +kernel
theorem dX6_conditionsOf_21 : decode cX6_conditionsOf 21 = .ok (.iinc 3 1, 3) := by decide +kernel
theorem dX6_conditionsOf_24 : decode cX6_conditionsOf 24 = .ok (.goto (-20), 3) := by decide +kernel
theorem dX6_conditionsOf_27 : decode cX6_conditionsOf 27 = .ok (.iload_n 2, 1) := by decide +kernel
theorem dX6_conditionsOf_28 : decode cX6_conditionsOf 28 = .ok (.ireturn, 1) := by decide +kernel
theorem dX6_propose_0 : decode cX6_propose 0 = .ok (.aload_n 0, 1) := by decide +kernel
theorem dX6_propose_1 : decode cX6_propose 1 = .ok (.getfield 21, 3) := by decide +kernel
theorem dX6_propose_4 : decode cX6_propose 4 = .ok (.ifCond .lt 12, 3) := by decide +kernel
theorem dX6_propose_7 : decode cX6_propose 7 = .ok (.aload_n 0, 1) := by decide +kernel
theorem dX6_propose_8 : decode cX6_propose 8 = .ok (.getfield 21, 3) := by decide +kernel
theorem dX6_propose_11 : decode cX6_propose 11 = .ok (.bipush 10, 2) := by decide +kernel
theorem dX6_propose_13 : decode cX6_propose 13 = .ok (.if_icmp .le 4, 3) := by decide +kernel
theorem dX6_propose_16 : decode cX6_propose 16 = .ok (.return_, 1) := by decide +kernel
theorem dX6_propose_17 : decode cX6_propose 17 = .ok (.aload_n 0, 1) := by decide +kernel
theorem dX6_propose_18 : decode cX6_propose 18 = .ok (.getfield 9, 3) := by decide +kernel
theorem dX6_propose_21 : decode cX6_propose 21 = .ok (.aload_n 0, 1) := by decide +kernel
theorem dX6_propose_22 : decode cX6_propose 22 = .ok (.getfield 21, 3) := by decide +kernel
theorem dX6_propose_25 : decode cX6_propose 25 = .ok (.iload_n 1, 1) := by decide +kernel
theorem dX6_propose_26 : decode cX6_propose 26 = .ok (.iastore, 1) := by decide +kernel
theorem dX6_propose_27 : decode cX6_propose 27 = .ok (.aload_n 0, 1) := by decide +kernel
theorem dX6_propose_28 : decode cX6_propose 28 = .ok (.getfield 15, 3) := by decide +kernel
theorem dX6_propose_31 : decode cX6_propose 31 = .ok (.iconst 3, 1) := by decide +kernel
theorem dX6_propose_32 : decode cX6_propose 32 = .ok (.aload_n 0, 1) := by decide +kernel
theorem dX6_propose_33 : decode cX6_propose 33 = .ok (.getfield 21, 3) := by decide +kernel
theorem dX6_propose_36 : decode cX6_propose 36 = .ok (.imul, 1) := by decide +kernel
theorem dX6_propose_37 : decode cX6_propose 37 = .ok (.iload_n 2, 1) := by decide +kernel
theorem dX6_propose_38 : decode cX6_propose 38 = .ok (.iastore, 1) := by decide +kernel
theorem dX6_propose_39 : decode cX6_propose 39 = .ok (.aload_n 0, 1) := by decide +kernel
theorem dX6_propose_40 : decode cX6_propose 40 = .ok (.getfield 15, 3) := by decide +kernel
theorem dX6_propose_43 : decode cX6_propose 43 = .ok (.iconst 3, 1) := by decide +kernel
theorem dX6_propose_44 : decode cX6_propose 44 = .ok (.aload_n 0, 1) := by decide +kernel
theorem dX6_propose_45 : decode cX6_propose 45 = .ok (.getfield 21, 3) := by decide +kernel
theorem dX6_propose_48 : decode cX6_propose 48 = .ok (.imul, 1) := by decide +kernel
theorem dX6_propose_49 : decode cX6_propose 49 = .ok (.iconst 1, 1) := by decide +kernel
theorem dX6_propose_50 : decode cX6_propose 50 = .ok (.iadd, 1) := by decide +kernel
theorem dX6_propose_51 : decode cX6_propose 51 = .ok (.iload_n 3, 1) := by decide +kernel
theorem dX6_propose_52 : decode cX6_propose 52 = .ok (.iastore, 1) := by decide +kernel
theorem dX6_propose_53 : decode cX6_propose 53 = .ok (.aload_n 0, 1) := by decide +kernel
theorem dX6_propose_54 : decode cX6_propose 54 = .ok (.getfield 15, 3) := by decide +kernel
theorem dX6_propose_57 : decode cX6_propose 57 = .ok (.iconst 3, 1) := by decide +kernel
theorem dX6_propose_58 : decode cX6_propose 58 = .ok (.aload_n 0, 1) := by decide +kernel
theorem dX6_propose_59 : decode cX6_propose 59 = .ok (.getfield 21, 3) := by decide +kernel
theorem dX6_propose_62 : decode cX6_propose 62 = .ok (.imul, 1) := by decide +kernel
theorem dX6_propose_63 : decode cX6_propose 63 = .ok (.iconst 2, 1) := by decide +kernel
theorem dX6_propose_64 : decode cX6_propose 64 = .ok (.iadd, 1) := by decide +kernel
theorem dX6_propose_65 : decode cX6_propose 65 = .ok (.iload 4, 2) := by decide +kernel
theorem dX6_propose_67 : decode cX6_propose 67 = .ok (.iastore, 1) := by decide +kernel
theorem dX6_propose_68 : decode cX6_propose 68 = .ok (.iload_n 2, 1) := by decide +kernel
theorem dX6_propose_69 : decode cX6_propose 69 = .ok (.invokestatic 29, 3) := by decide +kernel
theorem dX6_propose_72 : decode cX6_propose 72 = .ok (.ifCond .ne 18, 3) := by decide +kernel
theorem dX6_propose_75 : decode cX6_propose 75 = .ok (.iload_n 3, 1) := by decide +kernel
theorem dX6_propose_76 : decode cX6_propose 76 = .ok (.invokestatic 29, 3) := by decide +kernel
theorem dX6_propose_79 : decode cX6_propose 79 = .ok (.ifCond .ne 11, 3) := by decide +kernel
theorem dX6_propose_82 : decode cX6_propose 82 = .ok (.iload 4, 2) := by decide +kernel
theorem dX6_propose_84 : decode cX6_propose 84 = .ok (.invokestatic 29, 3) := by decide +kernel
theorem dX6_propose_87 : decode cX6_propose 87 = .ok (.ifCond .eq 7, 3) := by decide +kernel
theorem dX6_propose_90 : decode cX6_propose 90 = .ok (.iconst 1, 1) := by decide +kernel
theorem dX6_propose_91 : decode cX6_propose 91 = .ok (.goto 4, 3) := by decide +kernel
theorem dX6_propose_94 : decode cX6_propose 94 = .ok (.iconst 0, 1) := by decide +kernel
theorem dX6_propose_95 : decode cX6_propose 95 = .ok (.istore 5, 2) := by decide +kernel
theorem dX6_propose_97 : decode cX6_propose 97 = .ok (.aload_n 0, 1) := by decide +kernel
theorem dX6_propose_98 : decode cX6_propose 98 = .ok (.getfield 18, 3) := by decide +kernel
theorem dX6_propose_101 : decode cX6_propose 101 = .ok (.aload_n 0, 1) := by decide +kernel
theorem dX6_propose_102 : decode cX6_propose 102 = .ok (.getfield 21, 3) := by decide +kernel
theorem dX6_propose_105 : decode cX6_propose 105 = .ok (.iload 5, 2) := by decide +kernel
theorem dX6_propose_107 : decode cX6_propose 107 = .ok (.ifCond .eq 8, 3) := by decide +kernel
theorem dX6_propose_110 : decode cX6_propose 110 = .ok (.bipush 63, 2) := by decide +kernel
theorem dX6_propose_112 : decode cX6_propose 112 = .ok (.goto 4, 3) := by decide +kernel
theorem dX6_propose_115 : decode cX6_propose 115 = .ok (.iconst 1, 1) := by decide +kernel
theorem dX6_propose_116 : decode cX6_propose 116 = .ok (.iastore, 1) := by decide +kernel
theorem dX6_propose_117 : decode cX6_propose 117 = .ok (.return_, 1) := by decide +kernel
theorem dX6_hasZ_0 : decode cX6_hasZ 0 = .ok (.iload_n 0, 1) := by decide +kernel
theorem dX6_hasZ_1 : decode cX6_hasZ 1 = .ok (.ifCond .eq 23, 3) := by decide +kernel
theorem dX6_hasZ_4 : decode cX6_hasZ 4 = .ok (.iload_n 0, 1) := by decide +kernel
theorem dX6_hasZ_5 : decode cX6_hasZ 5 = .ok (.invokestatic 33, 3) := by decide +kernel
theorem dX6_hasZ_8 : decode cX6_hasZ 8 = .ok (.iconst 2, 1) := by decide +kernel
theorem dX6_hasZ_9 : decode cX6_hasZ 9 = .ok (.if_icmp .eq 11, 3) := by decide +kernel
theorem dX6_hasZ_12 : decode cX6_hasZ 12 = .ok (.iload_n 0, 1) := by decide +kernel
theorem dX6_hasZ_13 : decode cX6_hasZ 13 = .ok (.invokestatic 37, 3) := by decide +kernel
theorem dX6_hasZ_16 : decode cX6_hasZ 16 = .ok (.iconst 2, 1) := by decide +kernel
theorem dX6_hasZ_17 : decode cX6_hasZ 17 = .ok (.if_icmp .ne 7, 3) := by decide +kernel
theorem dX6_hasZ_20 : decode cX6_hasZ 20 = .ok (.iconst 1, 1) := by decide +kernel
theorem dX6_hasZ_21 : decode cX6_hasZ 21 = .ok (.goto 4, 3) := by decide +kernel
theorem dX6_hasZ_24 : decode cX6_hasZ 24 = .ok (.iconst 0, 1) := by decide +kernel
theorem dX6_hasZ_25 : decode cX6_hasZ 25 = .ok (.ireturn, 1) := by decide +kernel
theorem dX6_accept_0 : decode cX6_accept 0 = .ok (.aload_n 0, 1) := by decide +kernel
theorem dX6_accept_1 : decode cX6_accept 1 = .ok (.getfield 21, 3) := by decide +kernel
theorem dX6_accept_4 : decode cX6_accept 4 = .ok (.bipush 10, 2) := by decide +kernel
theorem dX6_accept_6 : decode cX6_accept 6 = .ok (.if_icmp .ge 13, 3) := by decide +kernel
theorem dX6_accept_9 : decode cX6_accept 9 = .ok (.aload_n 0, 1) := by decide +kernel
theorem dX6_accept_10 : decode cX6_accept 10 = .ok (.dup, 1) := by decide +kernel
theorem dX6_accept_11 : decode cX6_accept 11 = .ok (.getfield 21, 3) := by decide +kernel
theorem dX6_accept_14 : decode cX6_accept 14 = .ok (.iconst 1, 1) := by decide +kernel
theorem dX6_accept_15 : decode cX6_accept 15 = .ok (.iadd, 1) := by decide +kernel
theorem dX6_accept_16 : decode cX6_accept 16 = .ok (.putfield 21, 3) := by decide +kernel
theorem dX6_accept_19 : decode cX6_accept 19 = .ok (.return_, 1) := by decide +kernel
theorem dX6_unsafeLetter_0 : decode cX6_unsafeLetter 0 = .ok (.iconst 0, 1) := by decide +kernel
theorem dX6_unsafeLetter_1 : decode cX6_unsafeLetter 1 = .ok (.istore_n 1, 1) := by decide +kernel
theorem dX6_unsafeLetter_2 : decode cX6_unsafeLetter 2 = .ok (.iconst 3, 1) := by decide +kernel
theorem dX6_unsafeLetter_3 : decode cX6_unsafeLetter 3 = .ok (.istore_n 2, 1) := by decide +kernel
theorem dX6_unsafeLetter_4 : decode cX6_unsafeLetter 4 = .ok (.iconst 0, 1) := by decide +kernel
theorem dX6_unsafeLetter_5 : decode cX6_unsafeLetter 5 = .ok (.istore_n 3, 1) := by decide +kernel
theorem dX6_unsafeLetter_6 : decode cX6_unsafeLetter 6 = .ok (.iload_n 3, 1) := by decide +kernel
theorem dX6_unsafeLetter_7 : decode cX6_unsafeLetter 7 = .ok (.iconst 3, 1) := by decide +kernel
theorem dX6_unsafeLetter_8 : decode cX6_unsafeLetter 8 = .ok (.if_icmp .ge 69, 3) := by decide +kernel
theorem dX6_unsafeLetter_11 : decode cX6_unsafeLetter 11 = .ok (.aload_n 0, 1) := by decide +kernel
theorem dX6_unsafeLetter_12 : decode cX6_unsafeLetter 12 = .ok (.aload_n 0, 1) := by decide +kernel
theorem dX6_unsafeLetter_13 : decode cX6_unsafeLetter 13 = .ok (.getfield 21, 3) := by decide +kernel
theorem dX6_unsafeLetter_16 : decode cX6_unsafeLetter 16 = .ok (.iload_n 3, 1) := by decide +kernel
theorem dX6_unsafeLetter_17 : decode cX6_unsafeLetter 17 = .ok (.invokevirtual 25, 3) := by decide +kernel
theorem dX6_unsafeLetter_20 : decode cX6_unsafeLetter 20 = .ok (.istore 4, 2) := by decide +kernel
theorem dX6_unsafeLetter_22 : decode cX6_unsafeLetter 22 = .ok (.iload 4, 2) := by decide +kernel
theorem dX6_unsafeLetter_24 : decode cX6_unsafeLetter 24 = .ok (.ifCond .le 24, 3) := by decide +kernel
theorem dX6_unsafeLetter_27 : decode cX6_unsafeLetter 27 = .ok (.iload_n 1, 1) := by decide +kernel
theorem dX6_unsafeLetter_28 : decode cX6_unsafeLetter 28 = .ok (.iconst 1, 1) := by decide +kernel
theorem dX6_unsafeLetter_29 : decode cX6_unsafeLetter 29 = .ok (.iload 4, 2) := by decide +kernel
theorem dX6_unsafeLetter_31 : decode cX6_unsafeLetter 31 = .ok (.invokestatic 33, 3) := by decide +kernel
theorem dX6_unsafeLetter_34 : decode cX6_unsafeLetter 34 = .ok (.ishl, 1) := by decide +kernel
theorem dX6_unsafeLetter_35 : decode cX6_unsafeLetter 35 = .ok (.iconst 1, 1) := by decide +kernel
theorem dX6_unsafeLetter_36 : decode cX6_unsafeLetter 36 = .ok (.iload 4, 2) := by decide +kernel
theorem dX6_unsafeLetter_38 : decode cX6_unsafeLetter 38 = .ok (.invokestatic 37, 3) := by decide +kernel
theorem dX6_unsafeLetter_41 : decode cX6_unsafeLetter 41 = .ok (.ishl, 1) := by decide +kernel
theorem dX6_unsafeLetter_42 : decode cX6_unsafeLetter 42 = .ok (.ior, 1) := by decide +kernel
theorem dX6_unsafeLetter_43 : decode cX6_unsafeLetter 43 = .ok (.ior, 1) := by decide +kernel
theorem dX6_unsafeLetter_44 : decode cX6_unsafeLetter 44 = .ok (.istore_n 1, 1) := by decide +kernel
theorem dX6_unsafeLetter_45 : decode cX6_unsafeLetter 45 = .ok (.goto 26, 3) := by decide +kernel
theorem dX6_unsafeLetter_48 : decode cX6_unsafeLetter 48 = .ok (.iload 4, 2) := by decide +kernel
theorem dX6_unsafeLetter_50 : decode cX6_unsafeLetter 50 = .ok (.ifCond .ge 21, 3) := by decide +kernel
theorem dX6_unsafeLetter_53 : decode cX6_unsafeLetter 53 = .ok (.iload_n 2, 1) := by decide +kernel
theorem dX6_unsafeLetter_54 : decode cX6_unsafeLetter 54 = .ok (.iconst 1, 1) := by decide +kernel
theorem dX6_unsafeLetter_55 : decode cX6_unsafeLetter 55 = .ok (.iload 4, 2) := by decide +kernel
theorem dX6_unsafeLetter_57 : decode cX6_unsafeLetter 57 = .ok (.invokestatic 33, 3) := by decide +kernel
theorem dX6_unsafeLetter_60 : decode cX6_unsafeLetter 60 = .ok (.ishl, 1) := by decide +kernel
theorem dX6_unsafeLetter_61 : decode cX6_unsafeLetter 61 = .ok (.iconst 1, 1) := by decide +kernel
theorem dX6_unsafeLetter_62 : decode cX6_unsafeLetter 62 = .ok (.iload 4, 2) := by decide +kernel
theorem dX6_unsafeLetter_64 : decode cX6_unsafeLetter 64 = .ok (.invokestatic 37, 3) := by decide +kernel
theorem dX6_unsafeLetter_67 : decode cX6_unsafeLetter 67 = .ok (.ishl, 1) := by decide +kernel
theorem dX6_unsafeLetter_68 : decode cX6_unsafeLetter 68 = .ok (.ior, 1) := by decide +kernel
theorem dX6_unsafeLetter_69 : decode cX6_unsafeLetter 69 = .ok (.ior, 1) := by decide +kernel
theorem dX6_unsafeLetter_70 : decode cX6_unsafeLetter 70 = .ok (.istore_n 2, 1) := by decide +kernel
theorem dX6_unsafeLetter_71 : decode cX6_unsafeLetter 71 = .ok (.iinc 3 1, 3) := by decide +kernel
theorem dX6_unsafeLetter_74 : decode cX6_unsafeLetter 74 = .ok (.goto (-68), 3) := by decide +kernel
theorem dX6_unsafeLetter_77 : decode cX6_unsafeLetter 77 = .ok (.iconst 0, 1) := by decide +kernel
theorem dX6_unsafeLetter_78 : decode cX6_unsafeLetter 78 = .ok (.istore_n 3, 1) := by decide +kernel
theorem dX6_unsafeLetter_79 : decode cX6_unsafeLetter 79 = .ok (.iload_n 3, 1) := by decide +kernel
theorem dX6_unsafeLetter_80 : decode cX6_unsafeLetter 80 = .ok (.iconst 3, 1) := by decide +kernel
theorem dX6_unsafeLetter_81 : decode cX6_unsafeLetter 81 = .ok (.if_icmp .ge 23, 3) := by decide +kernel
theorem dX6_unsafeLetter_84 : decode cX6_unsafeLetter 84 = .ok (.iload_n 2, 1) := by decide +kernel
theorem dX6_unsafeLetter_85 : decode cX6_unsafeLetter 85 = .ok (.iload_n 1, 1) := by decide +kernel
theorem dX6_unsafeLetter_86 : decode cX6_unsafeLetter 86 = .ok (.iconst (-1), 1) := by decide +kernel
theorem dX6_unsafeLetter_87 : decode cX6_unsafeLetter 87 = .ok (.ixor, 1) := by decide +kernel
theorem dX6_unsafeLetter_88 : decode cX6_unsafeLetter 88 = .ok (.iand, 1) := by decide +kernel
theorem dX6_unsafeLetter_89 : decode cX6_unsafeLetter 89 = .ok (.iconst 1, 1) := by decide +kernel
theorem dX6_unsafeLetter_90 : decode cX6_unsafeLetter 90 = .ok (.iload_n 3, 1) := by decide +kernel
theorem dX6_unsafeLetter_91 : decode cX6_unsafeLetter 91 = .ok (.ishl, 1) := by decide +kernel
theorem dX6_unsafeLetter_92 : decode cX6_unsafeLetter 92 = .ok (.iand, 1) := by decide +kernel
theorem dX6_unsafeLetter_93 : decode cX6_unsafeLetter 93 = .ok (.ifCond .eq 5, 3) := by decide +kernel
theorem dX6_unsafeLetter_96 : decode cX6_unsafeLetter 96 = .ok (.iload_n 3, 1) := by decide +kernel
theorem dX6_unsafeLetter_97 : decode cX6_unsafeLetter 97 = .ok (.ireturn, 1) := by decide +kernel
theorem dX6_unsafeLetter_98 : decode cX6_unsafeLetter 98 = .ok (.iinc 3 1, 3) := by decide +kernel
theorem dX6_unsafeLetter_101 : decode cX6_unsafeLetter 101 = .ok (.goto (-22), 3) := by decide +kernel
theorem dX6_unsafeLetter_104 : decode cX6_unsafeLetter 104 = .ok (.iconst (-1), 1) := by decide +kernel
theorem dX6_unsafeLetter_105 : decode cX6_unsafeLetter 105 = .ok (.ireturn, 1) := by decide +kernel
theorem dX6_sameAsProposed_0 : decode cX6_sameAsProposed 0 = .ok (.iconst 0, 1) := by decide +kernel
theorem dX6_sameAsProposed_1 : decode cX6_sameAsProposed 1 = .ok (.istore_n 1, 1) := by decide +kernel
theorem dX6_sameAsProposed_2 : decode cX6_sameAsProposed 2 = .ok (.iload_n 1, 1) := by decide +kernel
theorem dX6_sameAsProposed_3 : decode cX6_sameAsProposed 3 = .ok (.aload_n 0, 1) := by decide +kernel
theorem dX6_sameAsProposed_4 : decode cX6_sameAsProposed 4 = .ok (.getfield 21, 3) := by decide +kernel
theorem dX6_sameAsProposed_7 : decode cX6_sameAsProposed 7 = .ok (.if_icmp .ge 81, 3) := by decide +kernel
theorem dX6_sameAsProposed_10 : decode cX6_sameAsProposed 10 = .ok (.aload_n 0, 1) := by decide +kernel
theorem dX6_sameAsProposed_11 : decode cX6_sameAsProposed 11 = .ok (.iload_n 1, 1) := by decide +kernel
theorem dX6_sameAsProposed_12 : decode cX6_sameAsProposed 12 = .ok (.invokevirtual 40, 3) := by decide +kernel
theorem dX6_sameAsProposed_15 : decode cX6_sameAsProposed 15 = .ok (.aload_n 0, 1) := by decide +kernel
theorem dX6_sameAsProposed_16 : decode cX6_sameAsProposed 16 = .ok (.aload_n 0, 1) := by decide +kernel
theorem dX6_sameAsProposed_17 : decode cX6_sameAsProposed 17 = .ok (.getfield 21, 3) := by decide +kernel
theorem dX6_sameAsProposed_20 : decode cX6_sameAsProposed 20 = .ok (.invokevirtual 40, 3) := by decide +kernel
theorem dX6_sameAsProposed_23 : decode cX6_sameAsProposed 23 = .ok (.if_icmp .ne 59, 3) := by decide +kernel
theorem dX6_sameAsProposed_26 : decode cX6_sameAsProposed 26 = .ok (.aload_n 0, 1) := by decide +kernel
theorem dX6_sameAsProposed_27 : decode cX6_sameAsProposed 27 = .ok (.iload_n 1, 1) := by decide +kernel
theorem dX6_sameAsProposed_28 : decode cX6_sameAsProposed 28 = .ok (.iconst 0, 1) := by decide +kernel
theorem dX6_sameAsProposed_29 : decode cX6_sameAsProposed 29 = .ok (.invokevirtual 25, 3) := by decide +kernel
theorem dX6_sameAsProposed_32 : decode cX6_sameAsProposed 32 = .ok (.aload_n 0, 1) := by decide +kernel
theorem dX6_sameAsProposed_33 : decode cX6_sameAsProposed 33 = .ok (.aload_n 0, 1) := by decide +kernel
theorem dX6_sameAsProposed_34 : decode cX6_sameAsProposed 34 = .ok (.getfield 21, 3) := by decide +kernel
theorem dX6_sameAsProposed_37 : decode cX6_sameAsProposed 37 = .ok (.iconst 0, 1) := by decide +kernel
theorem dX6_sameAsProposed_38 : decode cX6_sameAsProposed 38 = .ok (.invokevirtual 25, 3) := by decide +kernel
theorem dX6_sameAsProposed_41 : decode cX6_sameAsProposed 41 = .ok (.if_icmp .ne 41, 3) := by decide +kernel
theorem dX6_sameAsProposed_44 : decode cX6_sameAsProposed 44 = .ok (.aload_n 0, 1) := by decide +kernel
theorem dX6_sameAsProposed_45 : decode cX6_sameAsProposed 45 = .ok (.iload_n 1, 1) := by decide +kernel
theorem dX6_sameAsProposed_46 : decode cX6_sameAsProposed 46 = .ok (.iconst 1, 1) := by decide +kernel
theorem dX6_sameAsProposed_47 : decode cX6_sameAsProposed 47 = .ok (.invokevirtual 25, 3) := by decide +kernel
theorem dX6_sameAsProposed_50 : decode cX6_sameAsProposed 50 = .ok (.aload_n 0, 1) := by decide +kernel
theorem dX6_sameAsProposed_51 : decode cX6_sameAsProposed 51 = .ok (.aload_n 0, 1) := by decide +kernel
theorem dX6_sameAsProposed_52 : decode cX6_sameAsProposed 52 = .ok (.getfield 21, 3) := by decide +kernel
theorem dX6_sameAsProposed_55 : decode cX6_sameAsProposed 55 = .ok (.iconst 1, 1) := by decide +kernel
theorem dX6_sameAsProposed_56 : decode cX6_sameAsProposed 56 = .ok (.invokevirtual 25, 3) := by decide +kernel
theorem dX6_sameAsProposed_59 : decode cX6_sameAsProposed 59 = .ok (.if_icmp .ne 23, 3) := by decide +kernel
theorem dX6_sameAsProposed_62 : decode cX6_sameAsProposed 62 = .ok (.aload_n 0, 1) := by decide +kernel
theorem dX6_sameAsProposed_63 : decode cX6_sameAsProposed 63 = .ok (.iload_n 1, 1) := by decide +kernel
theorem dX6_sameAsProposed_64 : decode cX6_sameAsProposed 64 = .ok (.iconst 2, 1) := by decide +kernel
theorem dX6_sameAsProposed_65 : decode cX6_sameAsProposed 65 = .ok (.invokevirtual 25, 3) := by decide +kernel
theorem dX6_sameAsProposed_68 : decode cX6_sameAsProposed 68 = .ok (.aload_n 0, 1) := by decide +kernel
theorem dX6_sameAsProposed_69 : decode cX6_sameAsProposed 69 = .ok (.aload_n 0, 1) := by decide +kernel
theorem dX6_sameAsProposed_70 : decode cX6_sameAsProposed 70 = .ok (.getfield 21, 3) := by decide +kernel
theorem dX6_sameAsProposed_73 : decode cX6_sameAsProposed 73 = .ok (.iconst 2, 1) := by decide +kernel
theorem dX6_sameAsProposed_74 : decode cX6_sameAsProposed 74 = .ok (.invokevirtual 25, 3) := by decide +kernel
theorem dX6_sameAsProposed_77 : decode cX6_sameAsProposed 77 = .ok (.if_icmp .ne 5, 3) := by decide +kernel
theorem dX6_sameAsProposed_80 : decode cX6_sameAsProposed 80 = .ok (.iload_n 1, 1) := by decide +kernel
theorem dX6_sameAsProposed_81 : decode cX6_sameAsProposed 81 = .ok (.ireturn, 1) := by decide +kernel
theorem dX6_sameAsProposed_82 : decode cX6_sameAsProposed 82 = .ok (.iinc 1 1, 3) := by decide +kernel
theorem dX6_sameAsProposed_85 : decode cX6_sameAsProposed 85 = .ok (.goto (-83), 3) := by decide +kernel
theorem dX6_sameAsProposed_88 : decode cX6_sameAsProposed 88 = .ok (.iconst (-1), 1) := by decide +kernel
theorem dX6_sameAsProposed_89 : decode cX6_sameAsProposed 89 = .ok (.ireturn, 1) := by decide +kernel
theorem dX6_remove_0 : decode cX6_remove 0 = .ok (.aload_n 0, 1) := by decide +kernel
theorem dX6_remove_1 : decode cX6_remove 1 = .ok (.iload_n 1, 1) := by decide +kernel
theorem dX6_remove_2 : decode cX6_remove 2 = .ok (.invokevirtual 43, 3) := by decide +kernel
theorem dX6_remove_5 : decode cX6_remove 5 = .ok (.ifCond .eq 12, 3) := by decide +kernel
theorem dX6_remove_8 : decode cX6_remove 8 = .ok (.aload_n 0, 1) := by decide +kernel
theorem dX6_remove_9 : decode cX6_remove 9 = .ok (.getfield 21, 3) := by decide +kernel
theorem dX6_remove_12 : decode cX6_remove 12 = .ok (.bipush 10, 2) := by decide +kernel
theorem dX6_remove_14 : decode cX6_remove 14 = .ok (.if_icmp .le 4, 3) := by decide +kernel
theorem dX6_remove_17 : decode cX6_remove 17 = .ok (.return_, 1) := by decide +kernel
theorem dX6_remove_18 : decode cX6_remove 18 = .ok (.iload_n 1, 1) := by decide +kernel
theorem dX6_remove_19 : decode cX6_remove 19 = .ok (.istore_n 2, 1) := by decide +kernel
theorem dX6_remove_20 : decode cX6_remove 20 = .ok (.iload_n 2, 1) := by decide +kernel
theorem dX6_remove_21 : decode cX6_remove 21 = .ok (.iconst 1, 1) := by decide +kernel
theorem dX6_remove_22 : decode cX6_remove 22 = .ok (.iadd, 1) := by decide +kernel
theorem dX6_remove_23 : decode cX6_remove 23 = .ok (.aload_n 0, 1) := by decide +kernel
theorem dX6_remove_24 : decode cX6_remove 24 = .ok (.getfield 21, 3) := by decide +kernel
theorem dX6_remove_27 : decode cX6_remove 27 = .ok (.if_icmp .ge 37, 3) := by decide +kernel
theorem dX6_remove_30 : decode cX6_remove 30 = .ok (.aload_n 0, 1) := by decide +kernel
theorem dX6_remove_31 : decode cX6_remove 31 = .ok (.getfield 9, 3) := by decide +kernel
theorem dX6_remove_34 : decode cX6_remove 34 = .ok (.iload_n 2, 1) := by decide +kernel
theorem dX6_remove_35 : decode cX6_remove 35 = .ok (.aload_n 0, 1) := by decide +kernel
theorem dX6_remove_36 : decode cX6_remove 36 = .ok (.getfield 9, 3) := by decide +kernel
theorem dX6_remove_39 : decode cX6_remove 39 = .ok (.iload_n 2, 1) := by decide +kernel
theorem dX6_remove_40 : decode cX6_remove 40 = .ok (.iconst 1, 1) := by decide +kernel
theorem dX6_remove_41 : decode cX6_remove 41 = .ok (.iadd, 1) := by decide +kernel
theorem dX6_remove_42 : decode cX6_remove 42 = .ok (.iaload, 1) := by decide +kernel
theorem dX6_remove_43 : decode cX6_remove 43 = .ok (.iastore, 1) := by decide +kernel
theorem dX6_remove_44 : decode cX6_remove 44 = .ok (.aload_n 0, 1) := by decide +kernel
theorem dX6_remove_45 : decode cX6_remove 45 = .ok (.getfield 18, 3) := by decide +kernel
theorem dX6_remove_48 : decode cX6_remove 48 = .ok (.iload_n 2, 1) := by decide +kernel
theorem dX6_remove_49 : decode cX6_remove 49 = .ok (.aload_n 0, 1) := by decide +kernel
theorem dX6_remove_50 : decode cX6_remove 50 = .ok (.getfield 18, 3) := by decide +kernel
theorem dX6_remove_53 : decode cX6_remove 53 = .ok (.iload_n 2, 1) := by decide +kernel
theorem dX6_remove_54 : decode cX6_remove 54 = .ok (.iconst 1, 1) := by decide +kernel
theorem dX6_remove_55 : decode cX6_remove 55 = .ok (.iadd, 1) := by decide +kernel
theorem dX6_remove_56 : decode cX6_remove 56 = .ok (.iaload, 1) := by decide +kernel
theorem dX6_remove_57 : decode cX6_remove 57 = .ok (.iastore, 1) := by decide +kernel
theorem dX6_remove_58 : decode cX6_remove 58 = .ok (.iinc 2 1, 3) := by decide +kernel
theorem dX6_remove_61 : decode cX6_remove 61 = .ok (.goto (-41), 3) := by decide +kernel
theorem dX6_remove_64 : decode cX6_remove 64 = .ok (.iconst 3, 1) := by decide +kernel
theorem dX6_remove_65 : decode cX6_remove 65 = .ok (.iload_n 1, 1) := by decide +kernel
theorem dX6_remove_66 : decode cX6_remove 66 = .ok (.imul, 1) := by decide +kernel
theorem dX6_remove_67 : decode cX6_remove 67 = .ok (.istore_n 2, 1) := by decide +kernel
theorem dX6_remove_68 : decode cX6_remove 68 = .ok (.iload_n 2, 1) := by decide +kernel
theorem dX6_remove_69 : decode cX6_remove 69 = .ok (.iconst 3, 1) := by decide +kernel
theorem dX6_remove_70 : decode cX6_remove 70 = .ok (.aload_n 0, 1) := by decide +kernel
theorem dX6_remove_71 : decode cX6_remove 71 = .ok (.getfield 21, 3) := by decide +kernel
theorem dX6_remove_74 : decode cX6_remove 74 = .ok (.iconst 1, 1) := by decide +kernel
theorem dX6_remove_75 : decode cX6_remove 75 = .ok (.isub, 1) := by decide +kernel
theorem dX6_remove_76 : decode cX6_remove 76 = .ok (.imul, 1) := by decide +kernel
theorem dX6_remove_77 : decode cX6_remove 77 = .ok (.if_icmp .ge 23, 3) := by decide +kernel
theorem dX6_remove_80 : decode cX6_remove 80 = .ok (.aload_n 0, 1) := by decide +kernel
theorem dX6_remove_81 : decode cX6_remove 81 = .ok (.getfield 15, 3) := by decide +kernel
theorem dX6_remove_84 : decode cX6_remove 84 = .ok (.iload_n 2, 1) := by decide +kernel
theorem dX6_remove_85 : decode cX6_remove 85 = .ok (.aload_n 0, 1) := by decide +kernel
theorem dX6_remove_86 : decode cX6_remove 86 = .ok (.getfield 15, 3) := by decide +kernel
theorem dX6_remove_89 : decode cX6_remove 89 = .ok (.iload_n 2, 1) := by decide +kernel
theorem dX6_remove_90 : decode cX6_remove 90 = .ok (.iconst 3, 1) := by decide +kernel
theorem dX6_remove_91 : decode cX6_remove 91 = .ok (.iadd, 1) := by decide +kernel
theorem dX6_remove_92 : decode cX6_remove 92 = .ok (.iaload, 1) := by decide +kernel
theorem dX6_remove_93 : decode cX6_remove 93 = .ok (.iastore, 1) := by decide +kernel
theorem dX6_remove_94 : decode cX6_remove 94 = .ok (.iinc 2 1, 3) := by decide +kernel
theorem dX6_remove_97 : decode cX6_remove 97 = .ok (.goto (-29), 3) := by decide +kernel
theorem dX6_remove_100 : decode cX6_remove 100 = .ok (.aload_n 0, 1) := by decide +kernel
theorem dX6_remove_101 : decode cX6_remove 101 = .ok (.dup, 1) := by decide +kernel
theorem dX6_remove_102 : decode cX6_remove 102 = .ok (.getfield 21, 3) := by decide +kernel
theorem dX6_remove_105 : decode cX6_remove 105 = .ok (.iconst 1, 1) := by decide +kernel
theorem dX6_remove_106 : decode cX6_remove 106 = .ok (.isub, 1) := by decide +kernel
theorem dX6_remove_107 : decode cX6_remove 107 = .ok (.putfield 21, 3) := by decide +kernel
theorem dX6_remove_110 : decode cX6_remove 110 = .ok (.return_, 1) := by decide +kernel
theorem dX6_copy_0 : decode cX6_copy 0 = .ok (.aload_n 0, 1) := by decide +kernel
theorem dX6_copy_1 : decode cX6_copy 1 = .ok (.aload_n 1, 1) := by decide +kernel
theorem dX6_copy_2 : decode cX6_copy 2 = .ok (.getfield 21, 3) := by decide +kernel
theorem dX6_copy_5 : decode cX6_copy 5 = .ok (.putfield 21, 3) := by decide +kernel
theorem dX6_copy_8 : decode cX6_copy 8 = .ok (.iconst 0, 1) := by decide +kernel
theorem dX6_copy_9 : decode cX6_copy 9 = .ok (.istore_n 2, 1) := by decide +kernel
theorem dX6_copy_10 : decode cX6_copy 10 = .ok (.iload_n 2, 1) := by decide +kernel
theorem dX6_copy_11 : decode cX6_copy 11 = .ok (.aload_n 0, 1) := by decide +kernel
theorem dX6_copy_12 : decode cX6_copy 12 = .ok (.getfield 9, 3) := by decide +kernel
theorem dX6_copy_15 : decode cX6_copy 15 = .ok (.arraylength, 1) := by decide +kernel
theorem dX6_copy_16 : decode cX6_copy 16 = .ok (.if_icmp .ge 33, 3) := by decide +kernel
theorem dX6_copy_19 : decode cX6_copy 19 = .ok (.aload_n 0, 1) := by decide +kernel
theorem dX6_copy_20 : decode cX6_copy 20 = .ok (.getfield 9, 3) := by decide +kernel
theorem dX6_copy_23 : decode cX6_copy 23 = .ok (.iload_n 2, 1) := by decide +kernel
theorem dX6_copy_24 : decode cX6_copy 24 = .ok (.aload_n 1, 1) := by decide +kernel
theorem dX6_copy_25 : decode cX6_copy 25 = .ok (.getfield 9, 3) := by decide +kernel
theorem dX6_copy_28 : decode cX6_copy 28 = .ok (.iload_n 2, 1) := by decide +kernel
theorem dX6_copy_29 : decode cX6_copy 29 = .ok (.iaload, 1) := by decide +kernel
theorem dX6_copy_30 : decode cX6_copy 30 = .ok (.iastore, 1) := by decide +kernel
theorem dX6_copy_31 : decode cX6_copy 31 = .ok (.aload_n 0, 1) := by decide +kernel
theorem dX6_copy_32 : decode cX6_copy 32 = .ok (.getfield 18, 3) := by decide +kernel
theorem dX6_copy_35 : decode cX6_copy 35 = .ok (.iload_n 2, 1) := by decide +kernel
theorem dX6_copy_36 : decode cX6_copy 36 = .ok (.aload_n 1, 1) := by decide +kernel
theorem dX6_copy_37 : decode cX6_copy 37 = .ok (.getfield 18, 3) := by decide +kernel
theorem dX6_copy_40 : decode cX6_copy 40 = .ok (.iload_n 2, 1) := by decide +kernel
theorem dX6_copy_41 : decode cX6_copy 41 = .ok (.iaload, 1) := by decide +kernel
theorem dX6_copy_42 : decode cX6_copy 42 = .ok (.iastore, 1) := by decide +kernel
theorem dX6_copy_43 : decode cX6_copy 43 = .ok (.iinc 2 1, 3) := by decide +kernel
theorem dX6_copy_46 : decode cX6_copy 46 = .ok (.goto (-36), 3) := by decide +kernel
theorem dX6_copy_49 : decode cX6_copy 49 = .ok (.iconst 0, 1) := by decide +kernel
theorem dX6_copy_50 : decode cX6_copy 50 = .ok (.istore_n 2, 1) := by decide +kernel
theorem dX6_copy_51 : decode cX6_copy 51 = .ok (.iload_n 2, 1) := by decide +kernel
theorem dX6_copy_52 : decode cX6_copy 52 = .ok (.aload_n 0, 1) := by decide +kernel
theorem dX6_copy_53 : decode cX6_copy 53 = .ok (.getfield 15, 3) := by decide +kernel
theorem dX6_copy_56 : decode cX6_copy 56 = .ok (.arraylength, 1) := by decide +kernel
theorem dX6_copy_57 : decode cX6_copy 57 = .ok (.if_icmp .ge 21, 3) := by decide +kernel
theorem dX6_copy_60 : decode cX6_copy 60 = .ok (.aload_n 0, 1) := by decide +kernel
theorem dX6_copy_61 : decode cX6_copy 61 = .ok (.getfield 15, 3) := by decide +kernel
theorem dX6_copy_64 : decode cX6_copy 64 = .ok (.iload_n 2, 1) := by decide +kernel
theorem dX6_copy_65 : decode cX6_copy 65 = .ok (.aload_n 1, 1) := by decide +kernel
theorem dX6_copy_66 : decode cX6_copy 66 = .ok (.getfield 15, 3) := by decide +kernel
theorem dX6_copy_69 : decode cX6_copy 69 = .ok (.iload_n 2, 1) := by decide +kernel
theorem dX6_copy_70 : decode cX6_copy 70 = .ok (.iaload, 1) := by decide +kernel
theorem dX6_copy_71 : decode cX6_copy 71 = .ok (.iastore, 1) := by decide +kernel
theorem dX6_copy_72 : decode cX6_copy 72 = .ok (.iinc 2 1, 3) := by decide +kernel
theorem dX6_copy_75 : decode cX6_copy 75 = .ok (.goto (-24), 3) := by decide +kernel
theorem dX6_copy_78 : decode cX6_copy 78 = .ok (.return_, 1) := by decide +kernel
theorem dX6_headsWith_0 : decode cX6_headsWith 0 = .ok (.iconst 0, 1) := by decide +kernel
theorem dX6_headsWith_1 : decode cX6_headsWith 1 = .ok (.istore_n 2, 1) := by decide +kernel
theorem dX6_headsWith_2 : decode cX6_headsWith 2 = .ok (.iconst 0, 1) := by decide +kernel
theorem dX6_headsWith_3 : decode cX6_headsWith 3 = .ok (.istore_n 3, 1) := by decide +kernel
theorem dX6_headsWith_4 : decode cX6_headsWith 4 = .ok (.iload_n 3, 1) := by decide +kernel
theorem dX6_headsWith_5 : decode cX6_headsWith 5 = .ok (.aload_n 0, 1) := by decide +kernel
theorem dX6_headsWith_6 : decode cX6_headsWith 6 = .ok (.getfield 21, 3) := by decide +kernel
theorem dX6_headsWith_9 : decode cX6_headsWith 9 = .ok (.if_icmp .ge 21, 3) := by decide +kernel
theorem dX6_headsWith_12 : decode cX6_headsWith 12 = .ok (.aload_n 0, 1) := by decide +kernel
theorem dX6_headsWith_13 : decode cX6_headsWith 13 = .ok (.iload_n 3, 1) := by decide +kernel
theorem dX6_headsWith_14 : decode cX6_headsWith 14 = .ok (.invokevirtual 40, 3) := by decide +kernel
theorem dX6_headsWith_17 : decode cX6_headsWith 17 = .ok (.iload_n 1, 1) := by decide +kernel
theorem dX6_headsWith_18 : decode cX6_headsWith 18 = .ok (.if_icmp .ne 6, 3) := by decide +kernel
theorem dX6_headsWith_21 : decode cX6_headsWith 21 = .ok (.iinc 2 1, 3) := by decide +kernel
theorem dX6_headsWith_24 : decode cX6_headsWith 24 = .ok (.iinc 3 1, 3) := by decide +kernel
theorem dX6_headsWith_27 : decode cX6_headsWith 27 = .ok (.goto (-23), 3) := by decide +kernel
theorem dX6_headsWith_30 : decode cX6_headsWith 30 = .ok (.iload_n 2, 1) := by decide +kernel
theorem dX6_headsWith_31 : decode cX6_headsWith 31 = .ok (.ireturn, 1) := by decide +kernel
theorem dX6_conditionsWith_0 : decode cX6_conditionsWith 0 = .ok (.iconst 0, 1) := by decide +kernel
theorem dX6_conditionsWith_1 : decode cX6_conditionsWith 1 = .ok (.istore_n 2, 1) := by decide +kernel
theorem dX6_conditionsWith_2 : decode cX6_conditionsWith 2 = .ok (.iconst 0, 1) := by decide +kernel
theorem dX6_conditionsWith_3 : decode cX6_conditionsWith 3 = .ok (.istore_n 3, 1) := by decide +kernel
theorem dX6_conditionsWith_4 : decode cX6_conditionsWith 4 = .ok (.iload_n 3, 1) := by decide +kernel
theorem dX6_conditionsWith_5 : decode cX6_conditionsWith 5 = .ok (.aload_n 0, 1) := by decide +kernel
theorem dX6_conditionsWith_6 : decode cX6_conditionsWith 6 = .ok (.getfield 21, 3) := by decide +kernel
theorem dX6_conditionsWith_9 : decode cX6_conditionsWith 9 = .ok (.if_icmp .ge 50, 3) := by decide +kernel
theorem dX6_conditionsWith_12 : decode cX6_conditionsWith 12 = .ok (.iconst 0, 1) := by decide +kernel
theorem dX6_conditionsWith_13 : decode cX6_conditionsWith 13 = .ok (.istore 4, 2) := by decide +kernel
theorem dX6_conditionsWith_15 : decode cX6_conditionsWith 15 = .ok (.iload 4, 2) := by decide +kernel
theorem dX6_conditionsWith_17 : decode cX6_conditionsWith 17 = .ok (.iconst 3, 1) := by decide +kernel
theorem dX6_conditionsWith_18 : decode cX6_conditionsWith 18 = .ok (.if_icmp .ge 35, 3) := by decide +kernel
theorem dX6_conditionsWith_21 : decode cX6_conditionsWith 21 = .ok (.aload_n 0, 1) := by decide +kernel
theorem dX6_conditionsWith_22 : decode cX6_conditionsWith 22 = .ok (.iload_n 3, 1) := by decide +kernel
theorem dX6_conditionsWith_23 : decode cX6_conditionsWith 23 = .ok (.iload 4, 2) := by decide +kernel
theorem dX6_conditionsWith_25 : decode cX6_conditionsWith 25 = .ok (.invokevirtual 25, 3) := by decide +kernel
theorem dX6_conditionsWith_28 : decode cX6_conditionsWith 28 = .ok (.istore 5, 2) := by decide +kernel
theorem dX6_conditionsWith_30 : decode cX6_conditionsWith 30 = .ok (.iload 5, 2) := by decide +kernel
theorem dX6_conditionsWith_32 : decode cX6_conditionsWith 32 = .ok (.ifCond .eq 15, 3) := by decide +kernel
theorem dX6_conditionsWith_35 : decode cX6_conditionsWith 35 = .ok (.iload 5, 2) := by decide +kernel
theorem dX6_conditionsWith_37 : decode cX6_conditionsWith 37 = .ok (.invokestatic 46, 3) := by decide +kernel
theorem dX6_conditionsWith_40 : decode cX6_conditionsWith 40 = .ok (.iload_n 1, 1) := by decide +kernel
theorem dX6_conditionsWith_41 : decode cX6_conditionsWith 41 = .ok (.if_icmp .ne 6, 3) := by decide +kernel
theorem dX6_conditionsWith_44 : decode cX6_conditionsWith 44 = .ok (.iinc 2 1, 3) := by decide +kernel
theorem dX6_conditionsWith_47 : decode cX6_conditionsWith 47 = .ok (.iinc 4 1, 3) := by decide +kernel
theorem dX6_conditionsWith_50 : decode cX6_conditionsWith 50 = .ok (.goto (-35), 3) := by decide +kernel
theorem dX6_conditionsWith_53 : decode cX6_conditionsWith 53 = .ok (.iinc 3 1, 3) := by decide +kernel
theorem dX6_conditionsWith_56 : decode cX6_conditionsWith 56 = .ok (.goto (-52), 3) := by decide +kernel
theorem dX6_conditionsWith_59 : decode cX6_conditionsWith 59 = .ok (.iload_n 2, 1) := by decide +kernel
theorem dX6_conditionsWith_60 : decode cX6_conditionsWith 60 = .ok (.ireturn, 1) := by decide +kernel
theorem dX6_negated_0 : decode cX6_negated 0 = .ok (.iconst 0, 1) := by decide +kernel
theorem dX6_negated_1 : decode cX6_negated 1 = .ok (.istore_n 1, 1) := by decide +kernel
theorem dX6_negated_2 : decode cX6_negated 2 = .ok (.iconst 0, 1) := by decide +kernel
theorem dX6_negated_3 : decode cX6_negated 3 = .ok (.istore_n 2, 1) := by decide +kernel
theorem dX6_negated_4 : decode cX6_negated 4 = .ok (.iload_n 2, 1) := by decide +kernel
theorem dX6_negated_5 : decode cX6_negated 5 = .ok (.aload_n 0, 1) := by decide +kernel
theorem dX6_negated_6 : decode cX6_negated 6 = .ok (.getfield 21, 3) := by decide +kernel
theorem dX6_negated_9 : decode cX6_negated 9 = .ok (.if_icmp .ge 34, 3) := by decide +kernel
theorem dX6_negated_12 : decode cX6_negated 12 = .ok (.iconst 0, 1) := by decide +kernel
theorem dX6_negated_13 : decode cX6_negated 13 = .ok (.istore_n 3, 1) := by decide +kernel
theorem dX6_negated_14 : decode cX6_negated 14 = .ok (.iload_n 3, 1) := by decide +kernel
theorem dX6_negated_15 : decode cX6_negated 15 = .ok (.iconst 3, 1) := by decide +kernel
theorem dX6_negated_16 : decode cX6_negated 16 = .ok (.if_icmp .ge 21, 3) := by decide +kernel
theorem dX6_negated_19 : decode cX6_negated 19 = .ok (.aload_n 0, 1) := by decide +kernel
theorem dX6_negated_20 : decode cX6_negated 20 = .ok (.iload_n 2, 1) := by decide +kernel
theorem dX6_negated_21 : decode cX6_negated 21 = .ok (.iload_n 3, 1) := by decide +kernel
theorem dX6_negated_22 : decode cX6_negated 22 = .ok (.invokevirtual 25, 3) := by decide +kernel
theorem dX6_negated_25 : decode cX6_negated 25 = .ok (.ifCond .ge 6, 3) := by decide +kernel
theorem dX6_negated_28 : decode cX6_negated 28 = .ok (.iinc 1 1, 3) := by decide +kernel
theorem dX6_negated_31 : decode cX6_negated 31 = .ok (.iinc 3 1, 3) := by decide +kernel
theorem dX6_negated_34 : decode cX6_negated 34 = .ok (.goto (-20), 3) := by decide +kernel
theorem dX6_negated_37 : decode cX6_negated 37 = .ok (.iinc 2 1, 3) := by decide +kernel
theorem dX6_negated_40 : decode cX6_negated 40 = .ok (.goto (-36), 3) := by decide +kernel
theorem dX6_negated_43 : decode cX6_negated 43 = .ok (.iload_n 1, 1) := by decide +kernel
theorem dX6_negated_44 : decode cX6_negated 44 = .ok (.ireturn, 1) := by decide +kernel
theorem dX6_makersOf_0 : decode cX6_makersOf 0 = .ok (.iload_n 1, 1) := by decide +kernel
theorem dX6_makersOf_1 : decode cX6_makersOf 1 = .ok (.ifCond .lt 12, 3) := by decide +kernel
theorem dX6_makersOf_4 : decode cX6_makersOf 4 = .ok (.iload_n 1, 1) := by decide +kernel
theorem dX6_makersOf_5 : decode cX6_makersOf 5 = .ok (.aload_n 0, 1) := by decide +kernel
theorem dX6_makersOf_6 : decode cX6_makersOf 6 = .ok (.getfield 9, 3) := by decide +kernel
theorem dX6_makersOf_9 : decode cX6_makersOf 9 = .ok (.arraylength, 1) := by decide +kernel
theorem dX6_makersOf_10 : decode cX6_makersOf 10 = .ok (.if_icmp .lt 5, 3) := by decide +kernel
theorem dX6_makersOf_13 : decode cX6_makersOf 13 = .ok (.iconst 0, 1) := by decide +kernel
theorem dX6_makersOf_14 : decode cX6_makersOf 14 = .ok (.ireturn, 1) := by decide +kernel
theorem dX6_makersOf_15 : decode cX6_makersOf 15 = .ok (.aload_n 0, 1) := by decide +kernel
theorem dX6_makersOf_16 : decode cX6_makersOf 16 = .ok (.getfield 18, 3) := by decide +kernel
theorem dX6_makersOf_19 : decode cX6_makersOf 19 = .ok (.iload_n 1, 1) := by decide +kernel
theorem dX6_makersOf_20 : decode cX6_makersOf 20 = .ok (.iaload, 1) := by decide +kernel
theorem dX6_makersOf_21 : decode cX6_makersOf 21 = .ok (.istore 6, 2) := by decide +kernel
theorem dX6_makersOf_23 : decode cX6_makersOf 23 = .ok (.iconst 0, 1) := by decide +kernel
theorem dX6_makersOf_24 : decode cX6_makersOf 24 = .ok (.istore 7, 2) := by decide +kernel
theorem dX6_makersOf_26 : decode cX6_makersOf 26 = .ok (.iconst 0, 1) := by decide +kernel
theorem dX6_makersOf_27 : decode cX6_makersOf 27 = .ok (.istore 8, 2) := by decide +kernel
theorem dX6_makersOf_29 : decode cX6_makersOf 29 = .ok (.iload 8, 2) := by decide +kernel
theorem dX6_makersOf_31 : decode cX6_makersOf 31 = .ok (.iconst 3, 1) := by decide +kernel
theorem dX6_makersOf_32 : decode cX6_makersOf 32 = .ok (.if_icmp .ge 61, 3) := by decide +kernel
theorem dX6_makersOf_35 : decode cX6_makersOf 35 = .ok (.iload 6, 2) := by decide +kernel
theorem dX6_makersOf_37 : decode cX6_makersOf 37 = .ok (.ifCond .eq 56, 3) := by decide +kernel
theorem dX6_makersOf_40 : decode cX6_makersOf 40 = .ok (.aload_n 0, 1) := by decide +kernel
theorem dX6_makersOf_41 : decode cX6_makersOf 41 = .ok (.iload_n 1, 1) := by decide +kernel
theorem dX6_makersOf_42 : decode cX6_makersOf 42 = .ok (.iload 8, 2) := by decide +kernel
theorem dX6_makersOf_44 : decode cX6_makersOf 44 = .ok (.invokevirtual 25, 3) := by decide +kernel
theorem dX6_makersOf_47 : decode cX6_makersOf 47 = .ok (.istore 9, 2) := by decide +kernel
theorem dX6_makersOf_49 : decode cX6_makersOf 49 = .ok (.iload 9, 2) := by decide +kernel
theorem dX6_makersOf_51 : decode cX6_makersOf 51 = .ok (.ifCond .eq 17, 3) := by decide +kernel
theorem dX6_makersOf_54 : decode cX6_makersOf 54 = .ok (.iload 6, 2) := by decide +kernel
theorem dX6_makersOf_56 : decode cX6_makersOf 56 = .ok (.iload 9, 2) := by decide +kernel
theorem dX6_makersOf_58 : decode cX6_makersOf 58 = .ok (.iload_n 2, 1) := by decide +kernel
theorem dX6_makersOf_59 : decode cX6_makersOf 59 = .ok (.iload_n 3, 1) := by decide +kernel
theorem dX6_makersOf_60 : decode cX6_makersOf 60 = .ok (.aload 4, 2) := by decide +kernel
theorem dX6_makersOf_62 : decode cX6_makersOf 62 = .ok (.invokestatic 49, 3) := by decide +kernel
theorem dX6_makersOf_65 : decode cX6_makersOf 65 = .ok (.iand, 1) := by decide +kernel
theorem dX6_makersOf_66 : decode cX6_makersOf 66 = .ok (.istore 6, 2) := by decide +kernel
theorem dX6_makersOf_68 : decode cX6_makersOf 68 = .ok (.iload 9, 2) := by decide +kernel
theorem dX6_makersOf_70 : decode cX6_makersOf 70 = .ok (.ifCond .le 17, 3) := by decide +kernel
theorem dX6_makersOf_73 : decode cX6_makersOf 73 = .ok (.iload 7, 2) := by decide +kernel
theorem dX6_makersOf_75 : decode cX6_makersOf 75 = .ok (.iload 9, 2) := by decide +kernel
theorem dX6_makersOf_77 : decode cX6_makersOf 77 = .ok (.iload_n 2, 1) := by decide +kernel
theorem dX6_makersOf_78 : decode cX6_makersOf 78 = .ok (.iload_n 3, 1) := by decide +kernel
theorem dX6_makersOf_79 : decode cX6_makersOf 79 = .ok (.aload 5, 2) := by decide +kernel
theorem dX6_makersOf_81 : decode cX6_makersOf 81 = .ok (.invokestatic 49, 3) := by decide +kernel
theorem dX6_makersOf_84 : decode cX6_makersOf 84 = .ok (.ior, 1) := by decide +kernel
theorem dX6_makersOf_85 : decode cX6_makersOf 85 = .ok (.istore 7, 2) := by decide +kernel
theorem dX6_makersOf_87 : decode cX6_makersOf 87 = .ok (.iinc 8 1, 3) := by decide +kernel
theorem dX6_makersOf_90 : decode cX6_makersOf 90 = .ok (.goto (-61), 3) := by decide +kernel
theorem dX6_makersOf_93 : decode cX6_makersOf 93 = .ok (.iload 6, 2) := by decide +kernel
theorem dX6_makersOf_95 : decode cX6_makersOf 95 = .ok (.iload 7, 2) := by decide +kernel
theorem dX6_makersOf_97 : decode cX6_makersOf 97 = .ok (.iand, 1) := by decide +kernel
theorem dX6_makersOf_98 : decode cX6_makersOf 98 = .ok (.ireturn, 1) := by decide +kernel
theorem dX6_fulfilling_0 : decode cX6_fulfilling 0 = .ok (.iload_n 0, 1) := by decide +kernel
theorem dX6_fulfilling_1 : decode cX6_fulfilling 1 = .ok (.invokestatic 46, 3) := by decide +kernel
theorem dX6_fulfilling_4 : decode cX6_fulfilling 4 = .ok (.istore 4, 2) := by decide +kernel
theorem dX6_fulfilling_6 : decode cX6_fulfilling 6 = .ok (.iload_n 0, 1) := by decide +kernel
theorem dX6_fulfilling_7 : decode cX6_fulfilling 7 = .ok (.invokestatic 33, 3) := by decide +kernel
theorem dX6_fulfilling_10 : decode cX6_fulfilling 10 = .ok (.istore 5, 2) := by decide +kernel
theorem dX6_fulfilling_12 : decode cX6_fulfilling 12 = .ok (.iload_n 0, 1) := by decide +kernel
theorem dX6_fulfilling_13 : decode cX6_fulfilling 13 = .ok (.invokestatic 37, 3) := by decide +kernel
theorem dX6_fulfilling_16 : decode cX6_fulfilling 16 = .ok (.istore 6, 2) := by decide +kernel
theorem dX6_fulfilling_18 : decode cX6_fulfilling 18 = .ok (.iload 5, 2) := by decide +kernel
theorem dX6_fulfilling_20 : decode cX6_fulfilling 20 = .ok (.ifCond .ne 7, 3) := by decide +kernel
theorem dX6_fulfilling_23 : decode cX6_fulfilling 23 = .ok (.iload_n 1, 1) := by decide +kernel
theorem dX6_fulfilling_24 : decode cX6_fulfilling 24 = .ok (.goto 4, 3) := by decide +kernel
theorem dX6_fulfilling_27 : decode cX6_fulfilling 27 = .ok (.iload_n 2, 1) := by decide +kernel
theorem dX6_fulfilling_28 : decode cX6_fulfilling 28 = .ok (.istore 7, 2) := by decide +kernel
theorem dX6_fulfilling_30 : decode cX6_fulfilling 30 = .ok (.iload 6, 2) := by decide +kernel
theorem dX6_fulfilling_32 : decode cX6_fulfilling 32 = .ok (.ifCond .ne 7, 3) := by decide +kernel
theorem dX6_fulfilling_35 : decode cX6_fulfilling 35 = .ok (.iload_n 1, 1) := by decide +kernel
theorem dX6_fulfilling_36 : decode cX6_fulfilling 36 = .ok (.goto 4, 3) := by decide +kernel
theorem dX6_fulfilling_39 : decode cX6_fulfilling 39 = .ok (.iload_n 2, 1) := by decide +kernel
theorem dX6_fulfilling_40 : decode cX6_fulfilling 40 = .ok (.istore 8, 2) := by decide +kernel
theorem dX6_fulfilling_42 : decode cX6_fulfilling 42 = .ok (.iload 5, 2) := by decide +kernel
theorem dX6_fulfilling_44 : decode cX6_fulfilling 44 = .ok (.iconst 2, 1) := by decide +kernel
theorem dX6_fulfilling_45 : decode cX6_fulfilling 45 = .ok (.if_icmp .ne 31, 3) := by decide +kernel
theorem dX6_fulfilling_48 : decode cX6_fulfilling 48 = .ok (.iload 6, 2) := by decide +kernel
theorem dX6_fulfilling_50 : decode cX6_fulfilling 50 = .ok (.iconst 2, 1) := by decide +kernel
theorem dX6_fulfilling_51 : decode cX6_fulfilling 51 = .ok (.if_icmp .ne 12, 3) := by decide +kernel
theorem dX6_fulfilling_54 : decode cX6_fulfilling 54 = .ok (.aload_n 3, 1) := by decide +kernel
theorem dX6_fulfilling_55 : decode cX6_fulfilling 55 = .ok (.iload 4, 2) := by decide +kernel
theorem dX6_fulfilling_57 : decode cX6_fulfilling 57 = .ok (.invokevirtual 53, 3) := by decide +kernel
theorem dX6_fulfilling_60 : decode cX6_fulfilling 60 = .ok (.goto 11, 3) := by decide +kernel
theorem dX6_fulfilling_63 : decode cX6_fulfilling 63 = .ok (.aload_n 3, 1) := by decide +kernel
theorem dX6_fulfilling_64 : decode cX6_fulfilling 64 = .ok (.iload 4, 2) := by decide +kernel
theorem dX6_fulfilling_66 : decode cX6_fulfilling 66 = .ok (.iload 8, 2) := by decide +kernel
theorem dX6_fulfilling_68 : decode cX6_fulfilling 68 = .ok (.invokevirtual 58, 3) := by decide +kernel
theorem dX6_fulfilling_71 : decode cX6_fulfilling 71 = .ok (.istore 9, 2) := by decide +kernel
theorem dX6_fulfilling_73 : decode cX6_fulfilling 73 = .ok (.goto 46, 3) := by decide +kernel
theorem dX6_fulfilling_76 : decode cX6_fulfilling 76 = .ok (.iload 6, 2) := by decide +kernel
theorem dX6_fulfilling_78 : decode cX6_fulfilling 78 = .ok (.iconst 2, 1) := by decide +kernel
theorem dX6_fulfilling_79 : decode cX6_fulfilling 79 = .ok (.if_icmp .ne 16, 3) := by decide +kernel
theorem dX6_fulfilling_82 : decode cX6_fulfilling 82 = .ok (.aload_n 3, 1) := by decide +kernel
theorem dX6_fulfilling_83 : decode cX6_fulfilling 83 = .ok (.iload 4, 2) := by decide +kernel
theorem dX6_fulfilling_85 : decode cX6_fulfilling 85 = .ok (.iload 7, 2) := by decide +kernel
theorem dX6_fulfilling_87 : decode cX6_fulfilling 87 = .ok (.invokevirtual 61, 3) := by decide +kernel
theorem dX6_fulfilling_90 : decode cX6_fulfilling 90 = .ok (.istore 9, 2) := by decide +kernel
theorem dX6_fulfilling_92 : decode cX6_fulfilling 92 = .ok (.goto 27, 3) := by decide +kernel
theorem dX6_fulfilling_95 : decode cX6_fulfilling 95 = .ok (.aload_n 3, 1) := by decide +kernel
theorem dX6_fulfilling_96 : decode cX6_fulfilling 96 = .ok (.iload 4, 2) := by decide +kernel
theorem dX6_fulfilling_98 : decode cX6_fulfilling 98 = .ok (.iload 7, 2) := by decide +kernel
theorem dX6_fulfilling_100 : decode cX6_fulfilling 100 = .ok (.invokevirtual 61, 3) := by decide +kernel
theorem dX6_fulfilling_103 : decode cX6_fulfilling 103 = .ok (.iload 8, 2) := by decide +kernel
theorem dX6_fulfilling_105 : decode cX6_fulfilling 105 = .ok (.ishr, 1) := by decide +kernel
theorem dX6_fulfilling_106 : decode cX6_fulfilling 106 = .ok (.iconst 1, 1) := by decide +kernel
theorem dX6_fulfilling_107 : decode cX6_fulfilling 107 = .ok (.iand, 1) := by decide +kernel
theorem dX6_fulfilling_108 : decode cX6_fulfilling 108 = .ok (.ifCond .eq 8, 3) := by decide +kernel
theorem dX6_fulfilling_111 : decode cX6_fulfilling 111 = .ok (.bipush 63, 2) := by decide +kernel
theorem dX6_fulfilling_113 : decode cX6_fulfilling 113 = .ok (.goto 4, 3) := by decide +kernel
theorem dX6_fulfilling_116 : decode cX6_fulfilling 116 = .ok (.iconst 0, 1) := by decide +kernel
theorem dX6_fulfilling_117 : decode cX6_fulfilling 117 = .ok (.istore 9, 2) := by decide +kernel
theorem dX6_fulfilling_119 : decode cX6_fulfilling 119 = .ok (.iload_n 0, 1) := by decide +kernel
theorem dX6_fulfilling_120 : decode cX6_fulfilling 120 = .ok (.ifCond .ge 13, 3) := by decide +kernel
theorem dX6_fulfilling_123 : decode cX6_fulfilling 123 = .ok (.bipush 63, 2) := by decide +kernel
theorem dX6_fulfilling_125 : decode cX6_fulfilling 125 = .ok (.iload 9, 2) := by decide +kernel
theorem dX6_fulfilling_127 : decode cX6_fulfilling 127 = .ok (.iconst (-1), 1) := by decide +kernel
theorem dX6_fulfilling_128 : decode cX6_fulfilling 128 = .ok (.ixor, 1) := by decide +kernel
theorem dX6_fulfilling_129 : decode cX6_fulfilling 129 = .ok (.iand, 1) := by decide +kernel
theorem dX6_fulfilling_130 : decode cX6_fulfilling 130 = .ok (.goto 5, 3) := by decide +kernel
theorem dX6_fulfilling_133 : decode cX6_fulfilling 133 = .ok (.iload 9, 2) := by decide +kernel
theorem dX6_fulfilling_135 : decode cX6_fulfilling 135 = .ok (.ireturn, 1) := by decide +kernel
theorem dX6_waysTo_0 : decode cX6_waysTo 0 = .ok (.iconst 0, 1) := by decide +kernel
theorem dX6_waysTo_1 : decode cX6_waysTo 1 = .ok (.istore_n 3, 1) := by decide +kernel
theorem dX6_waysTo_2 : decode cX6_waysTo 2 = .ok (.iconst 0, 1) := by decide +kernel
theorem dX6_waysTo_3 : decode cX6_waysTo 3 = .ok (.istore 4, 2) := by decide +kernel
theorem dX6_waysTo_5 : decode cX6_waysTo 5 = .ok (.iload 4, 2) := by decide +kernel
theorem dX6_waysTo_7 : decode cX6_waysTo 7 = .ok (.aload_n 0, 1) := by decide +kernel
theorem dX6_waysTo_8 : decode cX6_waysTo 8 = .ok (.getfield 21, 3) := by decide +kernel
theorem dX6_waysTo_11 : decode cX6_waysTo 11 = .ok (.if_icmp .ge 51, 3) := by decide +kernel
theorem dX6_waysTo_14 : decode cX6_waysTo 14 = .ok (.aload_n 0, 1) := by decide +kernel
theorem dX6_waysTo_15 : decode cX6_waysTo 15 = .ok (.iload 4, 2) := by decide +kernel
theorem dX6_waysTo_17 : decode cX6_waysTo 17 = .ok (.invokevirtual 40, 3) := by decide +kernel
theorem dX6_waysTo_20 : decode cX6_waysTo 20 = .ok (.iload_n 1, 1) := by decide +kernel
theorem dX6_waysTo_21 : decode cX6_waysTo 21 = .ok (.bipush 36, 2) := by decide +kernel
theorem dX6_waysTo_23 : decode cX6_waysTo 23 = .ok (.idiv, 1) := by decide +kernel
theorem dX6_waysTo_24 : decode cX6_waysTo 24 = .ok (.if_icmp .ne 32, 3) := by decide +kernel
theorem dX6_waysTo_27 : decode cX6_waysTo 27 = .ok (.aload_n 0, 1) := by decide +kernel
theorem dX6_waysTo_28 : decode cX6_waysTo 28 = .ok (.iload 4, 2) := by decide +kernel
theorem dX6_waysTo_30 : decode cX6_waysTo 30 = .ok (.iload_n 1, 1) := by decide +kernel
theorem dX6_waysTo_31 : decode cX6_waysTo 31 = .ok (.bipush 6, 2) := by decide +kernel
theorem dX6_waysTo_33 : decode cX6_waysTo 33 = .ok (.idiv, 1) := by decide +kernel
theorem dX6_waysTo_34 : decode cX6_waysTo 34 = .ok (.bipush 6, 2) := by decide +kernel
theorem dX6_waysTo_36 : decode cX6_waysTo 36 = .ok (.irem, 1) := by decide +kernel
theorem dX6_waysTo_37 : decode cX6_waysTo 37 = .ok (.iload_n 1, 1) := by decide +kernel
theorem dX6_waysTo_38 : decode cX6_waysTo 38 = .ok (.bipush 6, 2) := by decide +kernel
theorem dX6_waysTo_40 : decode cX6_waysTo 40 = .ok (.irem, 1) := by decide +kernel
theorem dX6_waysTo_41 : decode cX6_waysTo 41 = .ok (.aload_n 2, 1) := by decide +kernel
theorem dX6_waysTo_42 : decode cX6_waysTo 42 = .ok (.aload_n 2, 1) := by decide +kernel
theorem dX6_waysTo_43 : decode cX6_waysTo 43 = .ok (.invokevirtual 64, 3) := by decide +kernel
theorem dX6_waysTo_46 : decode cX6_waysTo 46 = .ok (.istore 5, 2) := by decide +kernel
theorem dX6_waysTo_48 : decode cX6_waysTo 48 = .ok (.iload_n 3, 1) := by decide +kernel
theorem dX6_waysTo_49 : decode cX6_waysTo 49 = .ok (.iload 5, 2) := by decide +kernel
theorem dX6_waysTo_51 : decode cX6_waysTo 51 = .ok (.invokestatic 68, 3) := by decide +kernel
theorem dX6_waysTo_54 : decode cX6_waysTo 54 = .ok (.iadd, 1) := by decide +kernel
theorem dX6_waysTo_55 : decode cX6_waysTo 55 = .ok (.istore_n 3, 1) := by decide +kernel
theorem dX6_waysTo_56 : decode cX6_waysTo 56 = .ok (.iinc 4 1, 3) := by decide +kernel
theorem dX6_waysTo_59 : decode cX6_waysTo 59 = .ok (.goto (-54), 3) := by decide +kernel
theorem dX6_waysTo_62 : decode cX6_waysTo 62 = .ok (.iload_n 3, 1) := by decide +kernel
theorem dX6_waysTo_63 : decode cX6_waysTo 63 = .ok (.ireturn, 1) := by decide +kernel
theorem dX6_makes_0 : decode cX6_makes 0 = .ok (.iconst 0, 1) := by decide +kernel
theorem dX6_makes_1 : decode cX6_makes 1 = .ok (.istore_n 3, 1) := by decide +kernel
theorem dX6_makes_2 : decode cX6_makes 2 = .ok (.iconst 0, 1) := by decide +kernel
theorem dX6_makes_3 : decode cX6_makes 3 = .ok (.istore 4, 2) := by decide +kernel
theorem dX6_makes_5 : decode cX6_makes 5 = .ok (.iload 4, 2) := by decide +kernel
theorem dX6_makes_7 : decode cX6_makes 7 = .ok (.bipush 36, 2) := by decide +kernel
theorem dX6_makes_9 : decode cX6_makes 9 = .ok (.if_icmp .ge 32, 3) := by decide +kernel
theorem dX6_makes_12 : decode cX6_makes 12 = .ok (.aload_n 0, 1) := by decide +kernel
theorem dX6_makes_13 : decode cX6_makes 13 = .ok (.iload_n 1, 1) := by decide +kernel
theorem dX6_makes_14 : decode cX6_makes 14 = .ok (.iload 4, 2) := by decide +kernel
theorem dX6_makes_16 : decode cX6_makes 16 = .ok (.bipush 6, 2) := by decide +kernel
theorem dX6_makes_18 : decode cX6_makes 18 = .ok (.idiv, 1) := by decide +kernel
theorem dX6_makes_19 : decode cX6_makes 19 = .ok (.iload 4, 2) := by decide +kernel
theorem dX6_makes_21 : decode cX6_makes 21 = .ok (.bipush 6, 2) := by decide +kernel
theorem dX6_makes_23 : decode cX6_makes 23 = .ok (.irem, 1) := by decide +kernel
theorem dX6_makes_24 : decode cX6_makes 24 = .ok (.aload_n 2, 1) := by decide +kernel
theorem dX6_makes_25 : decode cX6_makes 25 = .ok (.aload_n 2, 1) := by decide +kernel
theorem dX6_makes_26 : decode cX6_makes 26 = .ok (.invokevirtual 64, 3) := by decide +kernel
theorem dX6_makes_29 : decode cX6_makes 29 = .ok (.ifCond .eq 6, 3) := by decide +kernel
theorem dX6_makes_32 : decode cX6_makes 32 = .ok (.iinc 3 1, 3) := by decide +kernel
theorem dX6_makes_35 : decode cX6_makes 35 = .ok (.iinc 4 1, 3) := by decide +kernel
theorem dX6_makes_38 : decode cX6_makes 38 = .ok (.goto (-33), 3) := by decide +kernel
theorem dX6_makes_41 : decode cX6_makes 41 = .ok (.iload_n 3, 1) := by decide +kernel
theorem dX6_makes_42 : decode cX6_makes 42 = .ok (.ireturn, 1) := by decide +kernel
theorem dX6_areClosed_0 : decode cX6_areClosed 0 = .ok (.iconst 0, 1) := by decide +kernel
theorem dX6_areClosed_1 : decode cX6_areClosed 1 = .ok (.istore_n 2, 1) := by decide +kernel
theorem dX6_areClosed_2 : decode cX6_areClosed 2 = .ok (.iload_n 2, 1) := by decide +kernel
theorem dX6_areClosed_3 : decode cX6_areClosed 3 = .ok (.sipush 216, 3) := by decide +kernel
theorem dX6_areClosed_6 : decode cX6_areClosed 6 = .ok (.if_icmp .ge 28, 3) := by decide +kernel
theorem dX6_areClosed_9 : decode cX6_areClosed 9 = .ok (.aload_n 1, 1) := by decide +kernel
theorem dX6_areClosed_10 : decode cX6_areClosed 10 = .ok (.iload_n 2, 1) := by decide +kernel
theorem dX6_areClosed_11 : decode cX6_areClosed 11 = .ok (.invokevirtual 73, 3) := by decide +kernel
theorem dX6_areClosed_14 : decode cX6_areClosed 14 = .ok (.ifCond .ne 14, 3) := by decide +kernel
theorem dX6_areClosed_17 : decode cX6_areClosed 17 = .ok (.aload_n 0, 1) := by decide +kernel
theorem dX6_areClosed_18 : decode cX6_areClosed 18 = .ok (.iload_n 2, 1) := by decide +kernel
theorem dX6_areClosed_19 : decode cX6_areClosed 19 = .ok (.aload_n 1, 1) := by decide +kernel
theorem dX6_areClosed_20 : decode cX6_areClosed 20 = .ok (.invokevirtual 74, 3) := by decide +kernel
theorem dX6_areClosed_23 : decode cX6_areClosed 23 = .ok (.ifCond .eq 5, 3) := by decide +kernel
theorem dX6_areClosed_26 : decode cX6_areClosed 26 = .ok (.iconst 0, 1) := by decide +kernel
theorem dX6_areClosed_27 : decode cX6_areClosed 27 = .ok (.ireturn, 1) := by decide +kernel
theorem dX6_areClosed_28 : decode cX6_areClosed 28 = .ok (.iinc 2 1, 3) := by decide +kernel
theorem dX6_areClosed_31 : decode cX6_areClosed 31 = .ok (.goto (-29), 3) := by decide +kernel
theorem dX6_areClosed_34 : decode cX6_areClosed 34 = .ok (.iconst 1, 1) := by decide +kernel
theorem dX6_areClosed_35 : decode cX6_areClosed 35 = .ok (.ireturn, 1) := by decide +kernel
theorem dX7_init_0 : decode cX7_init 0 = .ok (.aload_n 0, 1) := by decide +kernel
theorem dX7_init_1 : decode cX7_init 1 = .ok (.invokespecial 1, 3) := by decide +kernel
theorem dX7_init_4 : decode cX7_init 4 = .ok (.aload_n 0, 1) := by decide +kernel
theorem dX7_init_5 : decode cX7_init 5 = .ok (.new 7, 3) := by decide +kernel
theorem dX7_init_8 : decode cX7_init 8 = .ok (.dup, 1) := by decide +kernel
theorem dX7_init_9 : decode cX7_init 9 = .ok (.invokespecial 9, 3) := by decide +kernel
theorem dX7_init_12 : decode cX7_init 12 = .ok (.putfield 10, 3) := by decide +kernel
theorem dX7_init_15 : decode cX7_init 15 = .ok (.aload_n 0, 1) := by decide +kernel
theorem dX7_init_16 : decode cX7_init 16 = .ok (.new 16, 3) := by decide +kernel
theorem dX7_init_19 : decode cX7_init 19 = .ok (.dup, 1) := by decide +kernel
theorem dX7_init_20 : decode cX7_init 20 = .ok (.invokespecial 18, 3) := by decide +kernel
theorem dX7_init_23 : decode cX7_init 23 = .ok (.putfield 19, 3) := by decide +kernel
theorem dX7_init_26 : decode cX7_init 26 = .ok (.return_, 1) := by decide +kernel
theorem dX7_copy_0 : decode cX7_copy 0 = .ok (.aload_n 0, 1) := by decide +kernel
theorem dX7_copy_1 : decode cX7_copy 1 = .ok (.getfield 10, 3) := by decide +kernel
theorem dX7_copy_4 : decode cX7_copy 4 = .ok (.aload_n 1, 1) := by decide +kernel
theorem dX7_copy_5 : decode cX7_copy 5 = .ok (.getfield 10, 3) := by decide +kernel
theorem dX7_copy_8 : decode cX7_copy 8 = .ok (.invokevirtual 23, 3) := by decide +kernel
theorem dX7_copy_11 : decode cX7_copy 11 = .ok (.aload_n 0, 1) := by decide +kernel
theorem dX7_copy_12 : decode cX7_copy 12 = .ok (.getfield 19, 3) := by decide +kernel
theorem dX7_copy_15 : decode cX7_copy 15 = .ok (.aload_n 1, 1) := by decide +kernel
theorem dX7_copy_16 : decode cX7_copy 16 = .ok (.getfield 19, 3) := by decide +kernel
theorem dX7_copy_19 : decode cX7_copy 19 = .ok (.invokevirtual 27, 3) := by decide +kernel
theorem dX7_copy_22 : decode cX7_copy 22 = .ok (.return_, 1) := by decide +kernel
theorem dX8_init_0 : decode cX8_init 0 = .ok (.aload_n 0, 1) := by decide +kernel
theorem dX8_init_1 : decode cX8_init 1 = .ok (.invokespecial 3, 3) := by decide +kernel
theorem dX8_init_4 : decode cX8_init 4 = .ok (.aload_n 0, 1) := by decide +kernel
theorem dX8_init_5 : decode cX8_init 5 = .ok (.bipush 60, 2) := by decide +kernel
theorem dX8_init_7 : decode cX8_init 7 = .ok (.newarray .char, 2) := by decide +kernel
theorem dX8_init_9 : decode cX8_init 9 = .ok (.putfield 9, 3) := by decide +kernel
theorem dX8_init_12 : decode cX8_init 12 = .ok (.aload_n 0, 1) := by decide +kernel
theorem dX8_init_13 : decode cX8_init 13 = .ok (.bipush 21, 2) := by decide +kernel
theorem dX8_init_15 : decode cX8_init 15 = .ok (.newarray .char, 2) := by decide +kernel
theorem dX8_init_17 : decode cX8_init 17 = .ok (.putfield 15, 3) := by decide +kernel
theorem dX8_init_20 : decode cX8_init 20 = .ok (.aload_n 0, 1) := by decide +kernel
theorem dX8_init_21 : decode cX8_init 21 = .ok (.bipush 84, 2) := by decide +kernel
theorem dX8_init_23 : decode cX8_init 23 = .ok (.newarray .int, 2) := by decide +kernel
theorem dX8_init_25 : decode cX8_init 25 = .ok (.putfield 18, 3) := by decide +kernel
theorem dX8_init_28 : decode cX8_init 28 = .ok (.aload_n 0, 1) := by decide +kernel
theorem dX8_init_29 : decode cX8_init 29 = .ok (.iconst 0, 1) := by decide +kernel
theorem dX8_init_30 : decode cX8_init 30 = .ok (.putfield 22, 3) := by decide +kernel
theorem dX8_init_33 : decode cX8_init 33 = .ok (.aload_n 0, 1) := by decide +kernel
theorem dX8_init_34 : decode cX8_init 34 = .ok (.iconst 0, 1) := by decide +kernel
theorem dX8_init_35 : decode cX8_init 35 = .ok (.putfield 26, 3) := by decide +kernel
theorem dX8_init_38 : decode cX8_init 38 = .ok (.aload_n 0, 1) := by decide +kernel
theorem dX8_init_39 : decode cX8_init 39 = .ok (.iconst 0, 1) := by decide +kernel
theorem dX8_init_40 : decode cX8_init 40 = .ok (.putfield 29, 3) := by decide +kernel
theorem dX8_init_43 : decode cX8_init 43 = .ok (.return_, 1) := by decide +kernel
theorem dX8_add_0 : decode cX8_add 0 = .ok (.aload_n 0, 1) := by decide +kernel
theorem dX8_add_1 : decode cX8_add 1 = .ok (.getfield 22, 3) := by decide +kernel
theorem dX8_add_4 : decode cX8_add 4 = .ok (.aload_n 0, 1) := by decide +kernel
theorem dX8_add_5 : decode cX8_add 5 = .ok (.getfield 9, 3) := by decide +kernel
theorem dX8_add_8 : decode cX8_add 8 = .ok (.arraylength, 1) := by decide +kernel
theorem dX8_add_9 : decode cX8_add 9 = .ok (.if_icmp .lt 5, 3) := by decide +kernel
theorem dX8_add_12 : decode cX8_add 12 = .ok (.iconst 0, 1) := by decide +kernel
theorem dX8_add_13 : decode cX8_add 13 = .ok (.ireturn, 1) := by decide +kernel
theorem dX8_add_14 : decode cX8_add 14 = .ok (.aload_n 0, 1) := by decide +kernel
theorem dX8_add_15 : decode cX8_add 15 = .ok (.getfield 9, 3) := by decide +kernel
theorem dX8_add_18 : decode cX8_add 18 = .ok (.aload_n 0, 1) := by decide +kernel
theorem dX8_add_19 : decode cX8_add 19 = .ok (.getfield 22, 3) := by decide +kernel
theorem dX8_add_22 : decode cX8_add 22 = .ok (.iload_n 1, 1) := by decide +kernel
theorem dX8_add_23 : decode cX8_add 23 = .ok (.castore, 1) := by decide +kernel
theorem dX8_add_24 : decode cX8_add 24 = .ok (.aload_n 0, 1) := by decide +kernel
theorem dX8_add_25 : decode cX8_add 25 = .ok (.dup, 1) := by decide +kernel
theorem dX8_add_26 : decode cX8_add 26 = .ok (.getfield 22, 3) := by decide +kernel
theorem dX8_add_29 : decode cX8_add 29 = .ok (.iconst 1, 1) := by decide +kernel
theorem dX8_add_30 : decode cX8_add 30 = .ok (.iadd, 1) := by decide +kernel
theorem dX8_add_31 : decode cX8_add 31 = .ok (.putfield 22, 3) := by decide +kernel
theorem dX8_add_34 : decode cX8_add 34 = .ok (.iconst 1, 1) := by decide +kernel
theorem dX8_add_35 : decode cX8_add 35 = .ok (.ireturn, 1) := by decide +kernel
theorem dX8_clear_0 : decode cX8_clear 0 = .ok (.aload_n 0, 1) := by decide +kernel
theorem dX8_clear_1 : decode cX8_clear 1 = .ok (.iconst 0, 1) := by decide +kernel
theorem dX8_clear_2 : decode cX8_clear 2 = .ok (.putfield 22, 3) := by decide +kernel
theorem dX8_clear_5 : decode cX8_clear 5 = .ok (.return_, 1) := by decide +kernel
theorem dX8_kind_0 : decode cX8_kind 0 = .ok (.iload_n 1, 1) := by decide +kernel
theorem dX8_kind_1 : decode cX8_kind 1 = .ok (.ifCond .lt 21, 3) := by decide +kernel
theorem dX8_kind_4 : decode cX8_kind 4 = .ok (.iload_n 1, 1) := by decide +kernel
theorem dX8_kind_5 : decode cX8_kind 5 = .ok (.aload_n 0, 1) := by decide +kernel
theorem dX8_kind_6 : decode cX8_kind 6 = .ok (.getfield 15, 3) := by decide +kernel
theorem dX8_kind_9 : decode cX8_kind 9 = .ok (.arraylength, 1) := by decide +kernel
theorem dX8_kind_10 : decode cX8_kind 10 = .ok (.if_icmp .ge 12, 3) := by decide +kernel
theorem dX8_kind_13 : decode cX8_kind 13 = .ok (.aload_n 0, 1) := by decide +kernel
theorem dX8_kind_14 : decode cX8_kind 14 = .ok (.getfield 15, 3) := by decide +kernel
theorem dX8_kind_17 : decode cX8_kind 17 = .ok (.iload_n 1, 1) := by decide +kernel
theorem dX8_kind_18 : decode cX8_kind 18 = .ok (.caload, 1) := by decide +kernel
theorem dX8_kind_19 : decode cX8_kind 19 = .ok (.goto 5, 3) := by decide +kernel
theorem dX8_kind_22 : decode cX8_kind 22 = .ok (.bipush 32, 2) := by decide +kernel
theorem dX8_kind_24 : decode cX8_kind 24 = .ok (.ireturn, 1) := by decide +kernel
theorem dX8_number_0 : decode cX8_number 0 = .ok (.iconst 4, 1) := by decide +kernel
theorem dX8_number_1 : decode cX8_number 1 = .ok (.iload_n 1, 1) := by decide +kernel
theorem dX8_number_2 : decode cX8_number 2 = .ok (.imul, 1) := by decide +kernel
theorem dX8_number_3 : decode cX8_number 3 = .ok (.iload_n 2, 1) := by decide +kernel
theorem dX8_number_4 : decode cX8_number 4 = .ok (.iadd, 1) := by decide +kernel
theorem dX8_number_5 : decode cX8_number 5 = .ok (.istore_n 3, 1) := by decide +kernel
theorem dX8_number_6 : decode cX8_number 6 = .ok (.iload_n 3, 1) := by decide +kernel
theorem dX8_number_7 : decode cX8_number 7 = .ok (.ifCond .lt 21, 3) := by decide +kernel
theorem dX8_number_10 : decode cX8_number 10 = .ok (.iload_n 3, 1) := by decide +kernel
theorem dX8_number_11 : decode cX8_number 11 = .ok (.aload_n 0, 1) := by decide +kernel
theorem dX8_number_12 : decode cX8_number 12 = .ok (.getfield 18, 3) := by decide +kernel
theorem dX8_number_15 : decode cX8_number 15 = .ok (.arraylength, 1) := by decide +kernel
theorem dX8_number_16 : decode cX8_number 16 = .ok (.if_icmp .ge 12, 3) := by decide +kernel
theorem dX8_number_19 : decode cX8_number 19 = .ok (.aload_n 0, 1) := by decide +kernel
theorem dX8_number_20 : decode cX8_number 20 = .ok (.getfield 18, 3) := by decide +kernel
theorem dX8_number_23 : decode cX8_number 23 = .ok (.iload_n 3, 1) := by decide +kernel
theorem dX8_number_24 : decode cX8_number 24 = .ok (.iaload, 1) := by decide +kernel
theorem dX8_number_25 : decode cX8_number 25 = .ok (.goto 4, 3) := by decide +kernel
theorem dX8_number_28 : decode cX8_number 28 = .ok (.iconst 0, 1) := by decide +kernel
theorem dX8_number_29 : decode cX8_number 29 = .ok (.ireturn, 1) := by decide +kernel
theorem dX8_readOrders_0 : decode cX8_readOrders 0 = .ok (.aload_n 0, 1) := by decide +kernel
theorem dX8_readOrders_1 : decode cX8_readOrders 1 = .ok (.iconst 0, 1) := by decide +kernel
theorem dX8_readOrders_2 : decode cX8_readOrders 2 = .ok (.putfield 29, 3) := by decide +kernel
theorem dX8_readOrders_5 : decode cX8_readOrders 5 = .ok (.aload_n 0, 1) := by decide +kernel
theorem dX8_readOrders_6 : decode cX8_readOrders 6 = .ok (.iconst 0, 1) := by decide +kernel
theorem dX8_readOrders_7 : decode cX8_readOrders 7 = .ok (.putfield 26, 3) := by decide +kernel
theorem dX8_readOrders_10 : decode cX8_readOrders 10 = .ok (.iconst 0, 1) := by decide +kernel
theorem dX8_readOrders_11 : decode cX8_readOrders 11 = .ok (.istore_n 1, 1) := by decide +kernel
theorem dX8_readOrders_12 : decode cX8_readOrders 12 = .ok (.iload_n 1, 1) := by decide +kernel
theorem dX8_readOrders_13 : decode cX8_readOrders 13 = .ok (.bipush 21, 2) := by decide +kernel
theorem dX8_readOrders_15 : decode cX8_readOrders 15 = .ok (.if_icmp .ge 59, 3) := by decide +kernel
theorem dX8_readOrders_18 : decode cX8_readOrders 18 = .ok (.aload_n 0, 1) := by decide +kernel
theorem dX8_readOrders_19 : decode cX8_readOrders 19 = .ok (.iload_n 1, 1) := by decide +kernel
theorem dX8_readOrders_20 : decode cX8_readOrders 20 = .ok (.invokevirtual 32, 3) := by decide +kernel
theorem dX8_readOrders_23 : decode cX8_readOrders 23 = .ok (.ifCond .ne 8, 3) := by decide +kernel
theorem dX8_readOrders_26 : decode cX8_readOrders 26 = .ok (.aload_n 0, 1) := by decide +kernel
theorem dX8_readOrders_27 : decode cX8_readOrders 27 = .ok (.getfield 29, 3) := by decide +kernel
theorem dX8_readOrders_30 : decode cX8_readOrders 30 = .ok (.ireturn, 1) := by decide +kernel
theorem dX8_readOrders_31 : decode cX8_readOrders 31 = .ok (.aload_n 0, 1) := by decide +kernel
theorem dX8_readOrders_32 : decode cX8_readOrders 32 = .ok (.dup, 1) := by decide +kernel
theorem dX8_readOrders_33 : decode cX8_readOrders 33 = .ok (.getfield 26, 3) := by decide +kernel
theorem dX8_readOrders_36 : decode cX8_readOrders 36 = .ok (.iconst 1, 1) := by decide +kernel
theorem dX8_readOrders_37 : decode cX8_readOrders 37 = .ok (.iadd, 1) := by decide +kernel
theorem dX8_readOrders_38 : decode cX8_readOrders 38 = .ok (.putfield 26, 3) := by decide +kernel
theorem dX8_readOrders_41 : decode cX8_readOrders 41 = .ok (.aload_n 0, 1) := by decide +kernel
theorem dX8_readOrders_42 : decode cX8_readOrders 42 = .ok (.getfield 29, 3) := by decide +kernel
theorem dX8_readOrders_45 : decode cX8_readOrders 45 = .ok (.aload_n 0, 1) := by decide +kernel
theorem dX8_readOrders_46 : decode cX8_readOrders 46 = .ok (.getfield 22, 3) := by decide +kernel
theorem dX8_readOrders_49 : decode cX8_readOrders 49 = .ok (.if_icmp .lt 5, 3) := by decide +kernel
theorem dX8_readOrders_52 : decode cX8_readOrders 52 = .ok (.iconst (-1), 1) := by decide +kernel
theorem dX8_readOrders_53 : decode cX8_readOrders 53 = .ok (.ireturn, 1) := by decide +kernel
theorem dX8_readOrders_54 : decode cX8_readOrders 54 = .ok (.aload_n 0, 1) := by decide +kernel
theorem dX8_readOrders_55 : decode cX8_readOrders 55 = .ok (.bipush 59, 2) := by decide +kernel
theorem dX8_readOrders_57 : decode cX8_readOrders 57 = .ok (.invokevirtual 36, 3) := by decide +kernel
theorem dX8_readOrders_60 : decode cX8_readOrders 60 = .ok (.ifCond .ne 8, 3) := by decide +kernel
theorem dX8_readOrders_63 : decode cX8_readOrders 63 = .ok (.aload_n 0, 1) := by decide +kernel
theorem dX8_readOrders_64 : decode cX8_readOrders 64 = .ok (.getfield 29, 3) := by decide +kernel
theorem dX8_readOrders_67 : decode cX8_readOrders 67 = .ok (.ireturn, 1) := by decide +kernel
theorem dX8_readOrders_68 : decode cX8_readOrders 68 = .ok (.iinc 1 1, 3) := by decide +kernel
theorem dX8_readOrders_71 : decode cX8_readOrders 71 = .ok (.goto (-59), 3) := by decide +kernel
theorem dX8_readOrders_74 : decode cX8_readOrders 74 = .ok (.aload_n 0, 1) := by decide +kernel
theorem dX8_readOrders_75 : decode cX8_readOrders 75 = .ok (.getfield 29, 3) := by decide +kernel
theorem dX8_readOrders_78 : decode cX8_readOrders 78 = .ok (.ireturn, 1) := by decide +kernel
theorem dX8_readOrder_0 : decode cX8_readOrder 0 = .ok (.aload_n 0, 1) := by decide +kernel
theorem dX8_readOrder_1 : decode cX8_readOrder 1 = .ok (.bipush 43, 2) := by decide +kernel
theorem dX8_readOrder_3 : decode cX8_readOrder 3 = .ok (.invokevirtual 36, 3) := by decide +kernel
theorem dX8_readOrder_6 : decode cX8_readOrder 6 = .ok (.ifCond .eq 11, 3) := by decide +kernel
theorem dX8_readOrder_9 : decode cX8_readOrder 9 = .ok (.aload_n 0, 1) := by decide +kernel
theorem dX8_readOrder_10 : decode cX8_readOrder 10 = .ok (.iload_n 1, 1) := by decide +kernel
theorem dX8_readOrder_11 : decode cX8_readOrder 11 = .ok (.bipush 43, 2) := by decide +kernel
theorem dX8_readOrder_13 : decode cX8_readOrder 13 = .ok (.invokevirtual 40, 3) := by decide +kernel
theorem dX8_readOrder_16 : decode cX8_readOrder 16 = .ok (.ireturn, 1) := by decide +kernel
theorem dX8_readOrder_17 : decode cX8_readOrder 17 = .ok (.aload_n 0, 1) := by decide +kernel
theorem dX8_readOrder_18 : decode cX8_readOrder 18 = .ok (.bipush 45, 2) := by decide +kernel
theorem dX8_readOrder_20 : decode cX8_readOrder 20 = .ok (.invokevirtual 36, 3) := by decide +kernel
theorem dX8_readOrder_23 : decode cX8_readOrder 23 = .ok (.ifCond .eq 11, 3) := by decide +kernel
theorem dX8_readOrder_26 : decode cX8_readOrder 26 = .ok (.aload_n 0, 1) := by decide +kernel
theorem dX8_readOrder_27 : decode cX8_readOrder 27 = .ok (.iload_n 1, 1) := by decide +kernel
theorem dX8_readOrder_28 : decode cX8_readOrder 28 = .ok (.bipush 45, 2) := by decide +kernel
theorem dX8_readOrder_30 : decode cX8_readOrder 30 = .ok (.invokevirtual 40, 3) := by decide +kernel
theorem dX8_readOrder_33 : decode cX8_readOrder 33 = .ok (.ireturn, 1) := by decide +kernel
theorem dX8_readOrder_34 : decode cX8_readOrder 34 = .ok (.aload_n 0, 1) := by decide +kernel
theorem dX8_readOrder_35 : decode cX8_readOrder 35 = .ok (.bipush 114, 2) := by decide +kernel
theorem dX8_readOrder_37 : decode cX8_readOrder 37 = .ok (.invokevirtual 36, 3) := by decide +kernel
theorem dX8_readOrder_40 : decode cX8_readOrder 40 = .ok (.ifCond .eq 9, 3) := by decide +kernel
theorem dX8_readOrder_43 : decode cX8_readOrder 43 = .ok (.aload_n 0, 1) := by decide +kernel
theorem dX8_readOrder_44 : decode cX8_readOrder 44 = .ok (.iload_n 1, 1) := by decide +kernel
theorem dX8_readOrder_45 : decode cX8_readOrder 45 = .ok (.invokevirtual 44, 3) := by decide +kernel
theorem dX8_readOrder_48 : decode cX8_readOrder 48 = .ok (.ireturn, 1) := by decide +kernel
theorem dX8_readOrder_49 : decode cX8_readOrder 49 = .ok (.aload_n 0, 1) := by decide +kernel
theorem dX8_readOrder_50 : decode cX8_readOrder 50 = .ok (.bipush 100, 2) := by decide +kernel
theorem dX8_readOrder_52 : decode cX8_readOrder 52 = .ok (.invokevirtual 36, 3) := by decide +kernel
theorem dX8_readOrder_55 : decode cX8_readOrder 55 = .ok (.ifCond .eq 30, 3) := by decide +kernel
theorem dX8_readOrder_58 : decode cX8_readOrder 58 = .ok (.aload_n 0, 1) := by decide +kernel
theorem dX8_readOrder_59 : decode cX8_readOrder 59 = .ok (.iload_n 1, 1) := by decide +kernel
theorem dX8_readOrder_60 : decode cX8_readOrder 60 = .ok (.iconst 0, 1) := by decide +kernel
theorem dX8_readOrder_61 : decode cX8_readOrder 61 = .ok (.bipush 48, 2) := by decide +kernel
theorem dX8_readOrder_63 : decode cX8_readOrder 63 = .ok (.bipush 10, 2) := by decide +kernel
theorem dX8_readOrder_65 : decode cX8_readOrder 65 = .ok (.invokevirtual 47, 3) := by decide +kernel
theorem dX8_readOrder_68 : decode cX8_readOrder 68 = .ok (.ifCond .eq 17, 3) := by decide +kernel
theorem dX8_readOrder_71 : decode cX8_readOrder 71 = .ok (.aload_n 0, 1) := by decide +kernel
theorem dX8_readOrder_72 : decode cX8_readOrder 72 = .ok (.iload_n 1, 1) := by decide +kernel
theorem dX8_readOrder_73 : decode cX8_readOrder 73 = .ok (.bipush 100, 2) := by decide +kernel
theorem dX8_readOrder_75 : decode cX8_readOrder 75 = .ok (.invokevirtual 51, 3) := by decide +kernel
theorem dX8_readOrder_78 : decode cX8_readOrder 78 = .ok (.ifCond .eq 7, 3) := by decide +kernel
theorem dX8_readOrder_81 : decode cX8_readOrder 81 = .ok (.iconst 1, 1) := by decide +kernel
theorem dX8_readOrder_82 : decode cX8_readOrder 82 = .ok (.goto 4, 3) := by decide +kernel
theorem dX8_readOrder_85 : decode cX8_readOrder 85 = .ok (.iconst 0, 1) := by decide +kernel
theorem dX8_readOrder_86 : decode cX8_readOrder 86 = .ok (.ireturn, 1) := by decide +kernel
theorem dX8_readFact_0 : decode cX8_readFact 0 = .ok (.aload_n 0, 1) := by decide +kernel
theorem dX8_readFact_1 : decode cX8_readFact 1 = .ok (.iload_n 1, 1) := by decide +kernel
theorem dX8_readFact_2 : decode cX8_readFact 2 = .ok (.iconst 0, 1) := by decide +kernel
theorem dX8_readFact_3 : decode cX8_readFact 3 = .ok (.bipush 48, 2) := by decide +kernel
theorem dX8_readFact_5 : decode cX8_readFact 5 = .ok (.bipush 6, 2) := by decide +kernel
theorem dX8_readFact_7 : decode cX8_readFact 7 = .ok (.invokevirtual 47, 3) := by decide +kernel
theorem dX8_readFact_10 : decode cX8_readFact 10 = .ok (.ifCond .eq 42, 3) := by decide +kernel
theorem dX8_readFact_13 : decode cX8_readFact 13 = .ok (.aload_n 0, 1) := by decide +kernel
theorem dX8_readFact_14 : decode cX8_readFact 14 = .ok (.iload_n 1, 1) := by decide +kernel
theorem dX8_readFact_15 : decode cX8_readFact 15 = .ok (.iconst 1, 1) := by decide +kernel
theorem dX8_readFact_16 : decode cX8_readFact 16 = .ok (.bipush 97, 2) := by decide +kernel
theorem dX8_readFact_18 : decode cX8_readFact 18 = .ok (.bipush 6, 2) := by decide +kernel
theorem dX8_readFact_20 : decode cX8_readFact 20 = .ok (.invokevirtual 47, 3) := by decide +kernel
theorem dX8_readFact_23 : decode cX8_readFact 23 = .ok (.ifCond .eq 29, 3) := by decide +kernel
theorem dX8_readFact_26 : decode cX8_readFact 26 = .ok (.aload_n 0, 1) := by decide +kernel
theorem dX8_readFact_27 : decode cX8_readFact 27 = .ok (.iload_n 1, 1) := by decide +kernel
theorem dX8_readFact_28 : decode cX8_readFact 28 = .ok (.iconst 2, 1) := by decide +kernel
theorem dX8_readFact_29 : decode cX8_readFact 29 = .ok (.bipush 97, 2) := by decide +kernel
theorem dX8_readFact_31 : decode cX8_readFact 31 = .ok (.bipush 6, 2) := by decide +kernel
theorem dX8_readFact_33 : decode cX8_readFact 33 = .ok (.invokevirtual 47, 3) := by decide +kernel
theorem dX8_readFact_36 : decode cX8_readFact 36 = .ok (.ifCond .eq 16, 3) := by decide +kernel
theorem dX8_readFact_39 : decode cX8_readFact 39 = .ok (.aload_n 0, 1) := by decide +kernel
theorem dX8_readFact_40 : decode cX8_readFact 40 = .ok (.iload_n 1, 1) := by decide +kernel
theorem dX8_readFact_41 : decode cX8_readFact 41 = .ok (.iload_n 2, 1) := by decide +kernel
theorem dX8_readFact_42 : decode cX8_readFact 42 = .ok (.invokevirtual 51, 3) := by decide +kernel
theorem dX8_readFact_45 : decode cX8_readFact 45 = .ok (.ifCond .eq 7, 3) := by decide +kernel
theorem dX8_readFact_48 : decode cX8_readFact 48 = .ok (.iconst 1, 1) := by decide +kernel
theorem dX8_readFact_49 : decode cX8_readFact 49 = .ok (.goto 4, 3) := by decide +kernel
theorem dX8_readFact_52 : decode cX8_readFact 52 = .ok (.iconst 0, 1) := by decide +kernel
theorem dX8_readFact_53 : decode cX8_readFact 53 = .ok (.ireturn, 1) := by decide +kernel
theorem dX8_readRule_0 : decode cX8_readRule 0 = .ok (.aload_n 0, 1) := by decide +kernel
theorem dX8_readRule_1 : decode cX8_readRule 1 = .ok (.iload_n 1, 1) := by decide +kernel
theorem dX8_readRule_2 : decode cX8_readRule 2 = .ok (.iconst 0, 1) := by decide +kernel
theorem dX8_readRule_3 : decode cX8_readRule 3 = .ok (.bipush 48, 2) := by decide +kernel
theorem dX8_readRule_5 : decode cX8_readRule 5 = .ok (.bipush 6, 2) := by decide +kernel
theorem dX8_readRule_7 : decode cX8_readRule 7 = .ok (.invokevirtual 47, 3) := by decide +kernel
theorem dX8_readRule_10 : decode cX8_readRule 10 = .ok (.ifCond .eq 12, 3) := by decide +kernel
theorem dX8_readRule_13 : decode cX8_readRule 13 = .ok (.aload_n 0, 1) := by decide +kernel
theorem dX8_readRule_14 : decode cX8_readRule 14 = .ok (.bipush 61, 2) := by decide +kernel
theorem dX8_readRule_16 : decode cX8_readRule 16 = .ok (.invokevirtual 36, 3) := by decide +kernel
theorem dX8_readRule_19 : decode cX8_readRule 19 = .ok (.ifCond .ne 5, 3) := by decide +kernel
theorem dX8_readRule_22 : decode cX8_readRule 22 = .ok (.iconst 0, 1) := by decide +kernel
theorem dX8_readRule_23 : decode cX8_readRule 23 = .ok (.ireturn, 1) := by decide +kernel
theorem dX8_readRule_24 : decode cX8_readRule 24 = .ok (.iconst 1, 1) := by decide +kernel
theorem dX8_readRule_25 : decode cX8_readRule 25 = .ok (.istore_n 2, 1) := by decide +kernel
theorem dX8_readRule_26 : decode cX8_readRule 26 = .ok (.iload_n 2, 1) := by decide +kernel
theorem dX8_readRule_27 : decode cX8_readRule 27 = .ok (.iconst 3, 1) := by decide +kernel
theorem dX8_readRule_28 : decode cX8_readRule 28 = .ok (.if_icmp .gt 53, 3) := by decide +kernel
theorem dX8_readRule_31 : decode cX8_readRule 31 = .ok (.iload_n 2, 1) := by decide +kernel
theorem dX8_readRule_32 : decode cX8_readRule 32 = .ok (.iconst 1, 1) := by decide +kernel
theorem dX8_readRule_33 : decode cX8_readRule 33 = .ok (.if_icmp .eq 10, 3) := by decide +kernel
theorem dX8_readRule_36 : decode cX8_readRule 36 = .ok (.aload_n 0, 1) := by decide +kernel
theorem dX8_readRule_37 : decode cX8_readRule 37 = .ok (.invokevirtual 54, 3) := by decide +kernel
theorem dX8_readRule_40 : decode cX8_readRule 40 = .ok (.ifCond .eq 7, 3) := by decide +kernel
theorem dX8_readRule_43 : decode cX8_readRule 43 = .ok (.iconst 1, 1) := by decide +kernel
theorem dX8_readRule_44 : decode cX8_readRule 44 = .ok (.goto 4, 3) := by decide +kernel
theorem dX8_readRule_47 : decode cX8_readRule 47 = .ok (.iconst 0, 1) := by decide +kernel
theorem dX8_readRule_48 : decode cX8_readRule 48 = .ok (.istore_n 3, 1) := by decide +kernel
theorem dX8_readRule_49 : decode cX8_readRule 49 = .ok (.iload_n 3, 1) := by decide +kernel
theorem dX8_readRule_50 : decode cX8_readRule 50 = .ok (.ifCond .eq 14, 3) := by decide +kernel
theorem dX8_readRule_53 : decode cX8_readRule 53 = .ok (.aload_n 0, 1) := by decide +kernel
theorem dX8_readRule_54 : decode cX8_readRule 54 = .ok (.iload_n 1, 1) := by decide +kernel
theorem dX8_readRule_55 : decode cX8_readRule 55 = .ok (.iload_n 2, 1) := by decide +kernel
theorem dX8_readRule_56 : decode cX8_readRule 56 = .ok (.invokevirtual 58, 3) := by decide +kernel
theorem dX8_readRule_59 : decode cX8_readRule 59 = .ok (.ifCond .ne 5, 3) := by decide +kernel
theorem dX8_readRule_62 : decode cX8_readRule 62 = .ok (.iconst 0, 1) := by decide +kernel
theorem dX8_readRule_63 : decode cX8_readRule 63 = .ok (.ireturn, 1) := by decide +kernel
theorem dX8_readRule_64 : decode cX8_readRule 64 = .ok (.iload_n 3, 1) := by decide +kernel
theorem dX8_readRule_65 : decode cX8_readRule 65 = .ok (.ifCond .ne 10, 3) := by decide +kernel
theorem dX8_readRule_68 : decode cX8_readRule 68 = .ok (.aload_n 0, 1) := by decide +kernel
theorem dX8_readRule_69 : decode cX8_readRule 69 = .ok (.iload_n 1, 1) := by decide +kernel
theorem dX8_readRule_70 : decode cX8_readRule 70 = .ok (.iload_n 2, 1) := by decide +kernel
theorem dX8_readRule_71 : decode cX8_readRule 71 = .ok (.iconst 0, 1) := by decide +kernel
theorem dX8_readRule_72 : decode cX8_readRule 72 = .ok (.invokevirtual 62, 3) := by decide +kernel
theorem dX8_readRule_75 : decode cX8_readRule 75 = .ok (.iinc 2 1, 3) := by decide +kernel
theorem dX8_readRule_78 : decode cX8_readRule 78 = .ok (.goto (-52), 3) := by decide +kernel
theorem dX8_readRule_81 : decode cX8_readRule 81 = .ok (.aload_n 0, 1) := by decide +kernel
theorem dX8_readRule_82 : decode cX8_readRule 82 = .ok (.iload_n 1, 1) := by decide +kernel
theorem dX8_readRule_83 : decode cX8_readRule 83 = .ok (.bipush 114, 2) := by decide +kernel
theorem dX8_readRule_85 : decode cX8_readRule 85 = .ok (.invokevirtual 51, 3) := by decide +kernel
theorem dX8_readRule_88 : decode cX8_readRule 88 = .ok (.ireturn, 1) := by decide +kernel
theorem dX8_startsCondition_0 : decode cX8_startsCondition 0 = .ok (.aload_n 0, 1) := by decide +kernel
theorem dX8_startsCondition_1 : decode cX8_startsCondition 1 = .ok (.getfield 29, 3) := by decide +kernel
theorem dX8_startsCondition_4 : decode cX8_startsCondition 4 = .ok (.ifCond .lt 26, 3) := by decide +kernel
theorem dX8_startsCondition_7 : decode cX8_startsCondition 7 = .ok (.aload_n 0, 1) := by decide +kernel
theorem dX8_startsCondition_8 : decode cX8_startsCondition 8 = .ok (.getfield 29, 3) := by decide +kernel
theorem dX8_startsCondition_11 : decode cX8_startsCondition 11 = .ok (.aload_n 0, 1) := by decide +kernel
theorem dX8_startsCondition_12 : decode cX8_startsCondition 12 = .ok (.getfield 22, 3) := by decide +kernel
theorem dX8_startsCondition_15 : decode cX8_startsCondition 15 = .ok (.if_icmp .ge 15, 3) := by decide +kernel
theorem dX8_startsCondition_18 : decode cX8_startsCondition 18 = .ok (.aload_n 0, 1) := by decide +kernel
theorem dX8_startsCondition_19 : decode cX8_startsCondition 19 = .ok (.getfield 29, 3) := by decide +kernel
theorem dX8_startsCondition_22 : decode cX8_startsCondition 22 = .ok (.aload_n 0, 1) := by decide +kernel
theorem dX8_startsCondition_23 : decode cX8_startsCondition 23 = .ok (.getfield 9, 3) := by decide +kernel
theorem dX8_startsCondition_26 : decode cX8_startsCondition 26 = .ok (.arraylength, 1) := by decide +kernel
theorem dX8_startsCondition_27 : decode cX8_startsCondition 27 = .ok (.if_icmp .lt 5, 3) := by decide +kernel
theorem dX8_startsCondition_30 : decode cX8_startsCondition 30 = .ok (.iconst 0, 1) := by decide +kernel
theorem dX8_startsCondition_31 : decode cX8_startsCondition 31 = .ok (.ireturn, 1) := by decide +kernel
theorem dX8_startsCondition_32 : decode cX8_startsCondition 32 = .ok (.aload_n 0, 1) := by decide +kernel
theorem dX8_startsCondition_33 : decode cX8_startsCondition 33 = .ok (.getfield 9, 3) := by decide +kernel
theorem dX8_startsCondition_36 : decode cX8_startsCondition 36 = .ok (.aload_n 0, 1) := by decide +kernel
theorem dX8_startsCondition_37 : decode cX8_startsCondition 37 = .ok (.getfield 29, 3) := by decide +kernel
theorem dX8_startsCondition_40 : decode cX8_startsCondition 40 = .ok (.caload, 1) := by decide +kernel
theorem dX8_startsCondition_41 : decode cX8_startsCondition 41 = .ok (.bipush 33, 2) := by decide +kernel
theorem dX8_startsCondition_43 : decode cX8_startsCondition 43 = .ok (.if_icmp .eq 31, 3) := by decide +kernel
theorem dX8_startsCondition_46 : decode cX8_startsCondition 46 = .ok (.aload_n 0, 1) := by decide +kernel
theorem dX8_startsCondition_47 : decode cX8_startsCondition 47 = .ok (.getfield 9, 3) := by decide +kernel
theorem dX8_startsCondition_50 : decode cX8_startsCondition 50 = .ok (.aload_n 0, 1) := by decide +kernel
theorem dX8_startsCondition_51 : decode cX8_startsCondition 51 = .ok (.getfield 29, 3) := by decide +kernel
theorem dX8_startsCondition_54 : decode cX8_startsCondition 54 = .ok (.caload, 1) := by decide +kernel
theorem dX8_startsCondition_55 : decode cX8_startsCondition 55 = .ok (.bipush 48, 2) := by decide +kernel
theorem dX8_startsCondition_57 : decode cX8_startsCondition 57 = .ok (.if_icmp .lt 21, 3) := by decide +kernel
theorem dX8_startsCondition_60 : decode cX8_startsCondition 60 = .ok (.aload_n 0, 1) := by decide +kernel
theorem dX8_startsCondition_61 : decode cX8_startsCondition 61 = .ok (.getfield 9, 3) := by decide +kernel
theorem dX8_startsCondition_64 : decode cX8_startsCondition 64 = .ok (.aload_n 0, 1) := by decide +kernel
theorem dX8_startsCondition_65 : decode cX8_startsCondition 65 = .ok (.getfield 29, 3) := by decide +kernel
theorem dX8_startsCondition_68 : decode cX8_startsCondition 68 = .ok (.caload, 1) := by decide +kernel
theorem dX8_startsCondition_69 : decode cX8_startsCondition 69 = .ok (.bipush 54, 2) := by decide +kernel
theorem dX8_startsCondition_71 : decode cX8_startsCondition 71 = .ok (.if_icmp .ge 7, 3) := by decide +kernel
theorem dX8_startsCondition_74 : decode cX8_startsCondition 74 = .ok (.iconst 1, 1) := by decide +kernel
theorem dX8_startsCondition_75 : decode cX8_startsCondition 75 = .ok (.goto 4, 3) := by decide +kernel
theorem dX8_startsCondition_78 : decode cX8_startsCondition 78 = .ok (.iconst 0, 1) := by decide +kernel
theorem dX8_startsCondition_79 : decode cX8_startsCondition 79 = .ok (.ireturn, 1) := by decide +kernel
theorem dX8_readCondition_0 : decode cX8_readCondition 0 = .ok (.aload_n 0, 1) := by decide +kernel
theorem dX8_readCondition_1 : decode cX8_readCondition 1 = .ok (.bipush 33, 2) := by decide +kernel
theorem dX8_readCondition_3 : decode cX8_readCondition 3 = .ok (.invokevirtual 36, 3) := by decide +kernel
theorem dX8_readCondition_6 : decode cX8_readCondition 6 = .ok (.istore_n 3, 1) := by decide +kernel
theorem dX8_readCondition_7 : decode cX8_readCondition 7 = .ok (.aload_n 0, 1) := by decide +kernel
theorem dX8_readCondition_8 : decode cX8_readCondition 8 = .ok (.bipush 48, 2) := by decide +kernel
theorem dX8_readCondition_10 : decode cX8_readCondition 10 = .ok (.bipush 6, 2) := by decide +kernel
theorem dX8_readCondition_12 : decode cX8_readCondition 12 = .ok (.invokevirtual 66, 3) := by decide +kernel
theorem dX8_readCondition_15 : decode cX8_readCondition 15 = .ok (.istore 4, 2) := by decide +kernel
theorem dX8_readCondition_17 : decode cX8_readCondition 17 = .ok (.iload 4, 2) := by decide +kernel
theorem dX8_readCondition_19 : decode cX8_readCondition 19 = .ok (.ifCond .ge 7, 3) := by decide +kernel
theorem dX8_readCondition_22 : decode cX8_readCondition 22 = .ok (.iconst (-1), 1) := by decide +kernel
theorem dX8_readCondition_23 : decode cX8_readCondition 23 = .ok (.goto 10, 3) := by decide +kernel
theorem dX8_readCondition_26 : decode cX8_readCondition 26 = .ok (.aload_n 0, 1) := by decide +kernel
theorem dX8_readCondition_27 : decode cX8_readCondition 27 = .ok (.bipush 120, 2) := by decide +kernel
theorem dX8_readCondition_29 : decode cX8_readCondition 29 = .ok (.iconst 3, 1) := by decide +kernel
theorem dX8_readCondition_30 : decode cX8_readCondition 30 = .ok (.invokevirtual 66, 3) := by decide +kernel
theorem dX8_readCondition_33 : decode cX8_readCondition 33 = .ok (.istore 5, 2) := by decide +kernel
theorem dX8_readCondition_35 : decode cX8_readCondition 35 = .ok (.iload 5, 2) := by decide +kernel
theorem dX8_readCondition_37 : decode cX8_readCondition 37 = .ok (.ifCond .ge 7, 3) := by decide +kernel
theorem dX8_readCondition_40 : decode cX8_readCondition 40 = .ok (.iconst (-1), 1) := by decide +kernel
theorem dX8_readCondition_41 : decode cX8_readCondition 41 = .ok (.goto 10, 3) := by decide +kernel
theorem dX8_readCondition_44 : decode cX8_readCondition 44 = .ok (.aload_n 0, 1) := by decide +kernel
theorem dX8_readCondition_45 : decode cX8_readCondition 45 = .ok (.bipush 120, 2) := by decide +kernel
theorem dX8_readCondition_47 : decode cX8_readCondition 47 = .ok (.iconst 3, 1) := by decide +kernel
theorem dX8_readCondition_48 : decode cX8_readCondition 48 = .ok (.invokevirtual 66, 3) := by decide +kernel
theorem dX8_readCondition_51 : decode cX8_readCondition 51 = .ok (.istore 6, 2) := by decide +kernel
theorem dX8_readCondition_53 : decode cX8_readCondition 53 = .ok (.iload 6, 2) := by decide +kernel
theorem dX8_readCondition_55 : decode cX8_readCondition 55 = .ok (.ifCond .ge 5, 3) := by decide +kernel
theorem dX8_readCondition_58 : decode cX8_readCondition 58 = .ok (.iconst 0, 1) := by decide +kernel
theorem dX8_readCondition_59 : decode cX8_readCondition 59 = .ok (.ireturn, 1) := by decide +kernel
theorem dX8_readCondition_60 : decode cX8_readCondition 60 = .ok (.iload 4, 2) := by decide +kernel
theorem dX8_readCondition_62 : decode cX8_readCondition 62 = .ok (.iload 5, 2) := by decide +kernel
theorem dX8_readCondition_64 : decode cX8_readCondition 64 = .ok (.iload 6, 2) := by decide +kernel
theorem dX8_readCondition_66 : decode cX8_readCondition 66 = .ok (.invokestatic 70, 3) := by decide +kernel
theorem dX8_readCondition_69 : decode cX8_readCondition 69 = .ok (.istore 7, 2) := by decide +kernel
theorem dX8_readCondition_71 : decode cX8_readCondition 71 = .ok (.aload_n 0, 1) := by decide +kernel
theorem dX8_readCondition_72 : decode cX8_readCondition 72 = .ok (.iload_n 1, 1) := by decide +kernel
theorem dX8_readCondition_73 : decode cX8_readCondition 73 = .ok (.iload_n 2, 1) := by decide +kernel
theorem dX8_readCondition_74 : decode cX8_readCondition 74 = .ok (.iload_n 3, 1) := by decide +kernel
theorem dX8_readCondition_75 : decode cX8_readCondition 75 = .ok (.ifCond .eq 9, 3) := by decide +kernel
theorem dX8_readCondition_78 : decode cX8_readCondition 78 = .ok (.iload 7, 2) := by decide +kernel
theorem dX8_readCondition_80 : decode cX8_readCondition 80 = .ok (.ineg, 1) := by decide +kernel
theorem dX8_readCondition_81 : decode cX8_readCondition 81 = .ok (.goto 5, 3) := by decide +kernel
theorem dX8_readCondition_84 : decode cX8_readCondition 84 = .ok (.iload 7, 2) := by decide +kernel
theorem dX8_readCondition_86 : decode cX8_readCondition 86 = .ok (.invokevirtual 62, 3) := by decide +kernel
theorem dX8_readCondition_89 : decode cX8_readCondition 89 = .ok (.iconst 1, 1) := by decide +kernel
theorem dX8_readCondition_90 : decode cX8_readCondition 90 = .ok (.ireturn, 1) := by decide +kernel
theorem dX8_readNumber_0 : decode cX8_readNumber 0 = .ok (.aload_n 0, 1) := by decide +kernel
theorem dX8_readNumber_1 : decode cX8_readNumber 1 = .ok (.iload_n 3, 1) := by decide +kernel
theorem dX8_readNumber_2 : decode cX8_readNumber 2 = .ok (.iload 4, 2) := by decide +kernel
theorem dX8_readNumber_4 : decode cX8_readNumber 4 = .ok (.invokevirtual 66, 3) := by decide +kernel
theorem dX8_readNumber_7 : decode cX8_readNumber 7 = .ok (.istore 5, 2) := by decide +kernel
theorem dX8_readNumber_9 : decode cX8_readNumber 9 = .ok (.aload_n 0, 1) := by decide +kernel
theorem dX8_readNumber_10 : decode cX8_readNumber 10 = .ok (.iload_n 1, 1) := by decide +kernel
theorem dX8_readNumber_11 : decode cX8_readNumber 11 = .ok (.iload_n 2, 1) := by decide +kernel
theorem dX8_readNumber_12 : decode cX8_readNumber 12 = .ok (.iload 5, 2) := by decide +kernel
theorem dX8_readNumber_14 : decode cX8_readNumber 14 = .ok (.invokevirtual 62, 3) := by decide +kernel
theorem dX8_readNumber_17 : decode cX8_readNumber 17 = .ok (.iload 5, 2) := by decide +kernel
theorem dX8_readNumber_19 : decode cX8_readNumber 19 = .ok (.ifCond .lt 7, 3) := by decide +kernel
theorem dX8_readNumber_22 : decode cX8_readNumber 22 = .ok (.iconst 1, 1) := by decide +kernel
theorem dX8_readNumber_23 : decode cX8_readNumber 23 = .ok (.goto 4, 3) := by decide +kernel
theorem dX8_readNumber_26 : decode cX8_readNumber 26 = .ok (.iconst 0, 1) := by decide +kernel
theorem dX8_readNumber_27 : decode cX8_readNumber 27 = .ok (.ireturn, 1) := by decide +kernel
theorem dX8_skip_0 : decode cX8_skip 0 = .ok (.aload_n 0, 1) := by decide +kernel
theorem dX8_skip_1 : decode cX8_skip 1 = .ok (.iload_n 1, 1) := by decide +kernel
theorem dX8_skip_2 : decode cX8_skip 2 = .ok (.iconst 1, 1) := by decide +kernel
theorem dX8_skip_3 : decode cX8_skip 3 = .ok (.invokevirtual 66, 3) := by decide +kernel
theorem dX8_skip_6 : decode cX8_skip 6 = .ok (.ifCond .ne 7, 3) := by decide +kernel
theorem dX8_skip_9 : decode cX8_skip 9 = .ok (.iconst 1, 1) := by decide +kernel
theorem dX8_skip_10 : decode cX8_skip 10 = .ok (.goto 4, 3) := by decide +kernel
theorem dX8_skip_13 : decode cX8_skip 13 = .ok (.iconst 0, 1) := by decide +kernel
theorem dX8_skip_14 : decode cX8_skip 14 = .ok (.ireturn, 1) := by decide +kernel
theorem dX8_read_0 : decode cX8_read 0 = .ok (.aload_n 0, 1) := by decide +kernel
theorem dX8_read_1 : decode cX8_read 1 = .ok (.getfield 29, 3) := by decide +kernel
theorem dX8_read_4 : decode cX8_read 4 = .ok (.ifCond .lt 26, 3) := by decide +kernel
theorem dX8_read_7 : decode cX8_read 7 = .ok (.aload_n 0, 1) := by decide +kernel
theorem dX8_read_8 : decode cX8_read 8 = .ok (.getfield 29, 3) := by decide +kernel
theorem dX8_read_11 : decode cX8_read 11 = .ok (.aload_n 0, 1) := by decide +kernel
theorem dX8_read_12 : decode cX8_read 12 = .ok (.getfield 22, 3) := by decide +kernel
theorem dX8_read_15 : decode cX8_read 15 = .ok (.if_icmp .ge 15, 3) := by decide +kernel
theorem dX8_read_18 : decode cX8_read 18 = .ok (.aload_n 0, 1) := by decide +kernel
theorem dX8_read_19 : decode cX8_read 19 = .ok (.getfield 29, 3) := by decide +kernel
theorem dX8_read_22 : decode cX8_read 22 = .ok (.aload_n 0, 1) := by decide +kernel
theorem dX8_read_23 : decode cX8_read 23 = .ok (.getfield 9, 3) := by decide +kernel
theorem dX8_read_26 : decode cX8_read 26 = .ok (.arraylength, 1) := by decide +kernel
theorem dX8_read_27 : decode cX8_read 27 = .ok (.if_icmp .lt 5, 3) := by decide +kernel
theorem dX8_read_30 : decode cX8_read 30 = .ok (.iconst (-1), 1) := by decide +kernel
theorem dX8_read_31 : decode cX8_read 31 = .ok (.ireturn, 1) := by decide +kernel
theorem dX8_read_32 : decode cX8_read 32 = .ok (.aload_n 0, 1) := by decide +kernel
theorem dX8_read_33 : decode cX8_read 33 = .ok (.getfield 9, 3) := by decide +kernel
theorem dX8_read_36 : decode cX8_read 36 = .ok (.aload_n 0, 1) := by decide +kernel
theorem dX8_read_37 : decode cX8_read 37 = .ok (.getfield 29, 3) := by decide +kernel
theorem dX8_read_40 : decode cX8_read 40 = .ok (.caload, 1) := by decide +kernel
theorem dX8_read_41 : decode cX8_read 41 = .ok (.iload_n 1, 1) := by decide +kernel
theorem dX8_read_42 : decode cX8_read 42 = .ok (.isub, 1) := by decide +kernel
theorem dX8_read_43 : decode cX8_read 43 = .ok (.istore_n 3, 1) := by decide +kernel
theorem dX8_read_44 : decode cX8_read 44 = .ok (.iload_n 3, 1) := by decide +kernel
theorem dX8_read_45 : decode cX8_read 45 = .ok (.ifCond .lt 8, 3) := by decide +kernel
theorem dX8_read_48 : decode cX8_read 48 = .ok (.iload_n 3, 1) := by decide +kernel
theorem dX8_read_49 : decode cX8_read 49 = .ok (.iload_n 2, 1) := by decide +kernel
theorem dX8_read_50 : decode cX8_read 50 = .ok (.if_icmp .lt 5, 3) := by decide +kernel
theorem dX8_read_53 : decode cX8_read 53 = .ok (.iconst (-1), 1) := by decide +kernel
theorem dX8_read_54 : decode cX8_read 54 = .ok (.ireturn, 1) := by decide +kernel
theorem dX8_read_55 : decode cX8_read 55 = .ok (.aload_n 0, 1) := by decide +kernel
theorem dX8_read_56 : decode cX8_read 56 = .ok (.dup, 1) := by decide +kernel
theorem dX8_read_57 : decode cX8_read 57 = .ok (.getfield 29, 3) := by decide +kernel
theorem dX8_read_60 : decode cX8_read 60 = .ok (.iconst 1, 1) := by decide +kernel
theorem dX8_read_61 : decode cX8_read 61 = .ok (.iadd, 1) := by decide +kernel
theorem dX8_read_62 : decode cX8_read 62 = .ok (.putfield 29, 3) := by decide +kernel
theorem dX8_read_65 : decode cX8_read 65 = .ok (.iload_n 3, 1) := by decide +kernel
theorem dX8_read_66 : decode cX8_read 66 = .ok (.ireturn, 1) := by decide +kernel
theorem dX8_put_0 : decode cX8_put 0 = .ok (.iconst 4, 1) := by decide +kernel
theorem dX8_put_1 : decode cX8_put 1 = .ok (.iload_n 1, 1) := by decide +kernel
theorem dX8_put_2 : decode cX8_put 2 = .ok (.imul, 1) := by decide +kernel
theorem dX8_put_3 : decode cX8_put 3 = .ok (.iload_n 2, 1) := by decide +kernel
theorem dX8_put_4 : decode cX8_put 4 = .ok (.iadd, 1) := by decide +kernel
theorem dX8_put_5 : decode cX8_put 5 = .ok (.istore 4, 2) := by decide +kernel
theorem dX8_put_7 : decode cX8_put 7 = .ok (.iload 4, 2) := by decide +kernel
theorem dX8_put_9 : decode cX8_put 9 = .ok (.ifCond .lt 21, 3) := by decide +kernel
theorem dX8_put_12 : decode cX8_put 12 = .ok (.iload 4, 2) := by decide +kernel
theorem dX8_put_14 : decode cX8_put 14 = .ok (.aload_n 0, 1) := by decide +kernel
theorem dX8_put_15 : decode cX8_put 15 = .ok (.getfield 18, 3) := by decide +kernel
theorem dX8_put_18 : decode cX8_put 18 = .ok (.arraylength, 1) := by decide +kernel
theorem dX8_put_19 : decode cX8_put 19 = .ok (.if_icmp .ge 11, 3) := by decide +kernel
theorem dX8_put_22 : decode cX8_put 22 = .ok (.aload_n 0, 1) := by decide +kernel
theorem dX8_put_23 : decode cX8_put 23 = .ok (.getfield 18, 3) := by decide +kernel
theorem dX8_put_26 : decode cX8_put 26 = .ok (.iload 4, 2) := by decide +kernel
theorem dX8_put_28 : decode cX8_put 28 = .ok (.iload_n 3, 1) := by decide +kernel
theorem dX8_put_29 : decode cX8_put 29 = .ok (.iastore, 1) := by decide +kernel
theorem dX8_put_30 : decode cX8_put 30 = .ok (.return_, 1) := by decide +kernel
theorem dX8_note_0 : decode cX8_note 0 = .ok (.iload_n 1, 1) := by decide +kernel
theorem dX8_note_1 : decode cX8_note 1 = .ok (.ifCond .lt 12, 3) := by decide +kernel
theorem dX8_note_4 : decode cX8_note 4 = .ok (.iload_n 1, 1) := by decide +kernel
theorem dX8_note_5 : decode cX8_note 5 = .ok (.aload_n 0, 1) := by decide +kernel
theorem dX8_note_6 : decode cX8_note 6 = .ok (.getfield 15, 3) := by decide +kernel
theorem dX8_note_9 : decode cX8_note 9 = .ok (.arraylength, 1) := by decide +kernel
theorem dX8_note_10 : decode cX8_note 10 = .ok (.if_icmp .lt 5, 3) := by decide +kernel
theorem dX8_note_13 : decode cX8_note 13 = .ok (.iconst 0, 1) := by decide +kernel
theorem dX8_note_14 : decode cX8_note 14 = .ok (.ireturn, 1) := by decide +kernel
theorem dX8_note_15 : decode cX8_note 15 = .ok (.aload_n 0, 1) := by decide +kernel
theorem dX8_note_16 : decode cX8_note 16 = .ok (.getfield 15, 3) := by decide +kernel
theorem dX8_note_19 : decode cX8_note 19 = .ok (.iload_n 1, 1) := by decide +kernel
theorem dX8_note_20 : decode cX8_note 20 = .ok (.iload_n 2, 1) := by decide +kernel
theorem dX8_note_21 : decode cX8_note 21 = .ok (.castore, 1) := by decide +kernel
theorem dX8_note_22 : decode cX8_note 22 = .ok (.iconst 1, 1) := by decide +kernel
theorem dX8_note_23 : decode cX8_note 23 = .ok (.ireturn, 1) := by decide +kernel
theorem dX9_init_0 : decode cX9_init 0 = .ok (.aload_n 0, 1) := by decide +kernel
theorem dX9_init_1 : decode cX9_init 1 = .ok (.invokespecial 1, 3) := by decide +kernel
theorem dX9_init_4 : decode cX9_init 4 = .ok (.aload_n 0, 1) := by decide +kernel
theorem dX9_init_5 : decode cX9_init 5 = .ok (.new 7, 3) := by decide +kernel
theorem dX9_init_8 : decode cX9_init 8 = .ok (.dup, 1) := by decide +kernel
theorem dX9_init_9 : decode cX9_init 9 = .ok (.invokespecial 9, 3) := by decide +kernel
theorem dX9_init_12 : decode cX9_init 12 = .ok (.putfield 10, 3) := by decide +kernel
theorem dX9_init_15 : decode cX9_init 15 = .ok (.aload_n 0, 1) := by decide +kernel
theorem dX9_init_16 : decode cX9_init 16 = .ok (.new 7, 3) := by decide +kernel
theorem dX9_init_19 : decode cX9_init 19 = .ok (.dup, 1) := by decide +kernel
theorem dX9_init_20 : decode cX9_init 20 = .ok (.invokespecial 9, 3) := by decide +kernel
theorem dX9_init_23 : decode cX9_init 23 = .ok (.putfield 16, 3) := by decide +kernel
theorem dX9_init_26 : decode cX9_init 26 = .ok (.aload_n 0, 1) := by decide +kernel
theorem dX9_init_27 : decode cX9_init 27 = .ok (.new 19, 3) := by decide +kernel
theorem dX9_init_30 : decode cX9_init 30 = .ok (.dup, 1) := by decide +kernel
theorem dX9_init_31 : decode cX9_init 31 = .ok (.invokespecial 21, 3) := by decide +kernel
theorem dX9_init_34 : decode cX9_init 34 = .ok (.putfield 22, 3) := by decide +kernel
theorem dX9_init_37 : decode cX9_init 37 = .ok (.aload_n 0, 1) := by decide +kernel
theorem dX9_init_38 : decode cX9_init 38 = .ok (.new 26, 3) := by decide +kernel
theorem dX9_init_41 : decode cX9_init 41 = .ok (.dup, 1) := by decide +kernel
theorem dX9_init_42 : decode cX9_init 42 = .ok (.invokespecial 28, 3) := by decide +kernel
theorem dX9_init_45 : decode cX9_init 45 = .ok (.putfield 29, 3) := by decide +kernel
theorem dX9_init_48 : decode cX9_init 48 = .ok (.aload_n 0, 1) := by decide +kernel
theorem dX9_init_49 : decode cX9_init 49 = .ok (.new 33, 3) := by decide +kernel
theorem dX9_init_52 : decode cX9_init 52 = .ok (.dup, 1) := by decide +kernel
theorem dX9_init_53 : decode cX9_init 53 = .ok (.invokespecial 35, 3) := by decide +kernel
theorem dX9_init_56 : decode cX9_init 56 = .ok (.putfield 36, 3) := by decide +kernel
theorem dX9_init_59 : decode cX9_init 59 = .ok (.aload_n 0, 1) := by decide +kernel
theorem dX9_init_60 : decode cX9_init 60 = .ok (.new 40, 3) := by decide +kernel
theorem dX9_init_63 : decode cX9_init 63 = .ok (.dup, 1) := by decide +kernel
theorem dX9_init_64 : decode cX9_init 64 = .ok (.invokespecial 42, 3) := by decide +kernel
theorem dX9_init_67 : decode cX9_init 67 = .ok (.putfield 43, 3) := by decide +kernel
theorem dX9_init_70 : decode cX9_init 70 = .ok (.aload_n 0, 1) := by decide +kernel
theorem dX9_init_71 : decode cX9_init 71 = .ok (.new 47, 3) := by decide +kernel
theorem dX9_init_74 : decode cX9_init 74 = .ok (.dup, 1) := by decide +kernel
theorem dX9_init_75 : decode cX9_init 75 = .ok (.invokespecial 49, 3) := by decide +kernel
theorem dX9_init_78 : decode cX9_init 78 = .ok (.putfield 50, 3) := by decide +kernel
theorem dX9_init_81 : decode cX9_init 81 = .ok (.aload_n 0, 1) := by decide +kernel
theorem dX9_init_82 : decode cX9_init 82 = .ok (.new 54, 3) := by decide +kernel
theorem dX9_init_85 : decode cX9_init 85 = .ok (.dup, 1) := by decide +kernel
theorem dX9_init_86 : decode cX9_init 86 = .ok (.invokespecial 56, 3) := by decide +kernel
theorem dX9_init_89 : decode cX9_init 89 = .ok (.putfield 57, 3) := by decide +kernel
theorem dX9_init_92 : decode cX9_init 92 = .ok (.aload_n 0, 1) := by decide +kernel
theorem dX9_init_93 : decode cX9_init 93 = .ok (.iconst 0, 1) := by decide +kernel
theorem dX9_init_94 : decode cX9_init 94 = .ok (.putfield 61, 3) := by decide +kernel
theorem dX9_init_97 : decode cX9_init 97 = .ok (.aload_n 0, 1) := by decide +kernel
theorem dX9_init_98 : decode cX9_init 98 = .ok (.iconst (-1), 1) := by decide +kernel
theorem dX9_init_99 : decode cX9_init 99 = .ok (.putfield 65, 3) := by decide +kernel
theorem dX9_init_102 : decode cX9_init 102 = .ok (.aload_n 0, 1) := by decide +kernel
theorem dX9_init_103 : decode cX9_init 103 = .ok (.iconst 0, 1) := by decide +kernel
theorem dX9_init_104 : decode cX9_init 104 = .ok (.putfield 69, 3) := by decide +kernel
theorem dX9_init_107 : decode cX9_init 107 = .ok (.aload_n 0, 1) := by decide +kernel
theorem dX9_init_108 : decode cX9_init 108 = .ok (.iconst 0, 1) := by decide +kernel
theorem dX9_init_109 : decode cX9_init 109 = .ok (.putfield 72, 3) := by decide +kernel
theorem dX9_init_112 : decode cX9_init 112 = .ok (.return_, 1) := by decide +kernel
theorem dX9_tell_0 : decode cX9_tell 0 = .ok (.iload_n 1, 1) := by decide +kernel
theorem dX9_tell_1 : decode cX9_tell 1 = .ok (.iload_n 2, 1) := by decide +kernel
theorem dX9_tell_2 : decode cX9_tell 2 = .ok (.iload_n 3, 1) := by decide +kernel
theorem dX9_tell_3 : decode cX9_tell 3 = .ok (.invokestatic 75, 3) := by decide +kernel
theorem dX9_tell_6 : decode cX9_tell 6 = .ok (.ifCond .ne 13, 3) := by decide +kernel
theorem dX9_tell_9 : decode cX9_tell 9 = .ok (.new 79, 3) := by decide +kernel
theorem dX9_tell_12 : decode cX9_tell 12 = .ok (.dup, 1) := by decide +kernel
theorem dX9_tell_13 : decode cX9_tell 13 = .ok (.ldc 81, 2) := by decide +kernel
theorem dX9_tell_15 : decode cX9_tell 15 = .ok (.invokespecial 83, 3) := by decide +kernel
theorem dX9_tell_18 : decode cX9_tell 18 = .ok (.athrow, 1) := by decide +kernel
theorem dX9_tell_19 : decode cX9_tell 19 = .ok (.aload_n 0, 1) := by decide +kernel
theorem dX9_tell_20 : decode cX9_tell 20 = .ok (.getfield 22, 3) := by decide +kernel
theorem dX9_tell_23 : decode cX9_tell 23 = .ok (.aload_n 0, 1) := by decide +kernel
theorem dX9_tell_24 : decode cX9_tell 24 = .ok (.getfield 10, 3) := by decide +kernel
theorem dX9_tell_27 : decode cX9_tell 27 = .ok (.invokevirtual 86, 3) := by decide +kernel
theorem dX9_tell_30 : decode cX9_tell 30 = .ok (.aload_n 0, 1) := by decide +kernel
theorem dX9_tell_31 : decode cX9_tell 31 = .ok (.iload_n 1, 1) := by decide +kernel
theorem dX9_tell_32 : decode cX9_tell 32 = .ok (.iload_n 2, 1) := by decide +kernel
theorem dX9_tell_33 : decode cX9_tell 33 = .ok (.iload_n 3, 1) := by decide +kernel
theorem dX9_tell_34 : decode cX9_tell 34 = .ok (.invokestatic 90, 3) := by decide +kernel
theorem dX9_tell_37 : decode cX9_tell 37 = .ok (.invokevirtual 94, 3) := by decide +kernel
theorem dX9_tell_40 : decode cX9_tell 40 = .ok (.ifCond .ne 13, 3) := by decide +kernel
theorem dX9_tell_43 : decode cX9_tell 43 = .ok (.new 98, 3) := by decide +kernel
theorem dX9_tell_46 : decode cX9_tell 46 = .ok (.dup, 1) := by decide +kernel
theorem dX9_tell_47 : decode cX9_tell 47 = .ok (.ldc 100, 2) := by decide +kernel
theorem dX9_tell_49 : decode cX9_tell 49 = .ok (.invokespecial 102, 3) := by decide +kernel
theorem dX9_tell_52 : decode cX9_tell 52 = .ok (.athrow, 1) := by decide +kernel
theorem dX9_tell_53 : decode cX9_tell 53 = .ok (.aload_n 0, 1) := by decide +kernel
theorem dX9_tell_54 : decode cX9_tell 54 = .ok (.getfield 22, 3) := by decide +kernel
theorem dX9_tell_57 : decode cX9_tell 57 = .ok (.invokevirtual 103, 3) := by decide +kernel
theorem dX9_tell_60 : decode cX9_tell 60 = .ok (.aload_n 0, 1) := by decide +kernel
theorem dX9_tell_61 : decode cX9_tell 61 = .ok (.invokevirtual 106, 3) := by decide +kernel
theorem dX9_tell_64 : decode cX9_tell 64 = .ok (.invokevirtual 110, 3) := by decide +kernel
theorem dX9_tell_67 : decode cX9_tell 67 = .ok (.ireturn, 1) := by decide +kernel
theorem dX9_untell_0 : decode cX9_untell 0 = .ok (.iload_n 1, 1) := by decide +kernel
theorem dX9_untell_1 : decode cX9_untell 1 = .ok (.iload_n 2, 1) := by decide +kernel
theorem dX9_untell_2 : decode cX9_untell 2 = .ok (.iload_n 3, 1) := by decide +kernel
theorem dX9_untell_3 : decode cX9_untell 3 = .ok (.invokestatic 75, 3) := by decide +kernel
theorem dX9_untell_6 : decode cX9_untell 6 = .ok (.ifCond .ne 13, 3) := by decide +kernel
theorem dX9_untell_9 : decode cX9_untell 9 = .ok (.new 79, 3) := by decide +kernel
theorem dX9_untell_12 : decode cX9_untell 12 = .ok (.dup, 1) := by decide +kernel
theorem dX9_untell_13 : decode cX9_untell 13 = .ok (.ldc 81, 2) := by decide +kernel
theorem dX9_untell_15 : decode cX9_untell 15 = .ok (.invokespecial 83, 3) := by decide +kernel
theorem dX9_untell_18 : decode cX9_untell 18 = .ok (.athrow, 1) := by decide +kernel
theorem dX9_untell_19 : decode cX9_untell 19 = .ok (.aload_n 0, 1) := by decide +kernel
theorem dX9_untell_20 : decode cX9_untell 20 = .ok (.getfield 22, 3) := by decide +kernel
theorem dX9_untell_23 : decode cX9_untell 23 = .ok (.aload_n 0, 1) := by decide +kernel
theorem dX9_untell_24 : decode cX9_untell 24 = .ok (.getfield 10, 3) := by decide +kernel
theorem dX9_untell_27 : decode cX9_untell 27 = .ok (.invokevirtual 86, 3) := by decide +kernel
theorem dX9_untell_30 : decode cX9_untell 30 = .ok (.aload_n 0, 1) := by decide +kernel
theorem dX9_untell_31 : decode cX9_untell 31 = .ok (.iload_n 1, 1) := by decide +kernel
theorem dX9_untell_32 : decode cX9_untell 32 = .ok (.iload_n 2, 1) := by decide +kernel
theorem dX9_untell_33 : decode cX9_untell 33 = .ok (.iload_n 3, 1) := by decide +kernel
theorem dX9_untell_34 : decode cX9_untell 34 = .ok (.invokestatic 90, 3) := by decide +kernel
theorem dX9_untell_37 : decode cX9_untell 37 = .ok (.invokevirtual 116, 3) := by decide +kernel
theorem dX9_untell_40 : decode cX9_untell 40 = .ok (.ifCond .ne 13, 3) := by decide +kernel
theorem dX9_untell_43 : decode cX9_untell 43 = .ok (.new 98, 3) := by decide +kernel
theorem dX9_untell_46 : decode cX9_untell 46 = .ok (.dup, 1) := by decide +kernel
theorem dX9_untell_47 : decode cX9_untell 47 = .ok (.ldc 119, 2) := by decide +kernel
theorem dX9_untell_49 : decode cX9_untell 49 = .ok (.invokespecial 102, 3) := by decide +kernel
theorem dX9_untell_52 : decode cX9_untell 52 = .ok (.athrow, 1) := by decide +kernel
theorem dX9_untell_53 : decode cX9_untell 53 = .ok (.aload_n 0, 1) := by decide +kernel
theorem dX9_untell_54 : decode cX9_untell 54 = .ok (.getfield 22, 3) := by decide +kernel
theorem dX9_untell_57 : decode cX9_untell 57 = .ok (.invokevirtual 103, 3) := by decide +kernel
theorem dX9_untell_60 : decode cX9_untell 60 = .ok (.aload_n 0, 1) := by decide +kernel
theorem dX9_untell_61 : decode cX9_untell 61 = .ok (.invokevirtual 106, 3) := by decide +kernel
theorem dX9_untell_64 : decode cX9_untell 64 = .ok (.invokevirtual 110, 3) := by decide +kernel
theorem dX9_untell_67 : decode cX9_untell 67 = .ok (.ireturn, 1) := by decide +kernel
theorem dX9_holds_0 : decode cX9_holds 0 = .ok (.iload_n 1, 1) := by decide +kernel
theorem dX9_holds_1 : decode cX9_holds 1 = .ok (.iload_n 2, 1) := by decide +kernel
theorem dX9_holds_2 : decode cX9_holds 2 = .ok (.iload_n 3, 1) := by decide +kernel
theorem dX9_holds_3 : decode cX9_holds 3 = .ok (.invokestatic 75, 3) := by decide +kernel
theorem dX9_holds_6 : decode cX9_holds 6 = .ok (.ifCond .ne 13, 3) := by decide +kernel
theorem dX9_holds_9 : decode cX9_holds 9 = .ok (.new 79, 3) := by decide +kernel
theorem dX9_holds_12 : decode cX9_holds 12 = .ok (.dup, 1) := by decide +kernel
theorem dX9_holds_13 : decode cX9_holds 13 = .ok (.ldc 81, 2) := by decide +kernel
theorem dX9_holds_15 : decode cX9_holds 15 = .ok (.invokespecial 83, 3) := by decide +kernel
theorem dX9_holds_18 : decode cX9_holds 18 = .ok (.athrow, 1) := by decide +kernel
theorem dX9_holds_19 : decode cX9_holds 19 = .ok (.iload_n 1, 1) := by decide +kernel
theorem dX9_holds_20 : decode cX9_holds 20 = .ok (.iload_n 2, 1) := by decide +kernel
theorem dX9_holds_21 : decode cX9_holds 21 = .ok (.iload_n 3, 1) := by decide +kernel
theorem dX9_holds_22 : decode cX9_holds 22 = .ok (.invokestatic 90, 3) := by decide +kernel
theorem dX9_holds_25 : decode cX9_holds 25 = .ok (.istore 5, 2) := by decide +kernel
theorem dX9_holds_27 : decode cX9_holds 27 = .ok (.iload 4, 2) := by decide +kernel
theorem dX9_holds_29 : decode cX9_holds 29 = .ok (.ifCond .ne 13, 3) := by decide +kernel
theorem dX9_holds_32 : decode cX9_holds 32 = .ok (.aload_n 0, 1) := by decide +kernel
theorem dX9_holds_33 : decode cX9_holds 33 = .ok (.invokevirtual 106, 3) := by decide +kernel
theorem dX9_holds_36 : decode cX9_holds 36 = .ok (.iload 5, 2) := by decide +kernel
theorem dX9_holds_38 : decode cX9_holds 38 = .ok (.invokevirtual 121, 3) := by decide +kernel
theorem dX9_holds_41 : decode cX9_holds 41 = .ok (.ireturn, 1) := by decide +kernel
theorem dX9_holds_42 : decode cX9_holds 42 = .ok (.aload_n 0, 1) := by decide +kernel
theorem dX9_holds_43 : decode cX9_holds 43 = .ok (.getfield 36, 3) := by decide +kernel
theorem dX9_holds_46 : decode cX9_holds 46 = .ok (.aload_n 0, 1) := by decide +kernel
theorem dX9_holds_47 : decode cX9_holds 47 = .ok (.getfield 10, 3) := by decide +kernel
theorem dX9_holds_50 : decode cX9_holds 50 = .ok (.getfield 124, 3) := by decide +kernel
theorem dX9_holds_53 : decode cX9_holds 53 = .ok (.aload_n 0, 1) := by decide +kernel
theorem dX9_holds_54 : decode cX9_holds 54 = .ok (.getfield 10, 3) := by decide +kernel
theorem dX9_holds_57 : decode cX9_holds 57 = .ok (.getfield 128, 3) := by decide +kernel
theorem dX9_holds_60 : decode cX9_holds 60 = .ok (.invokevirtual 132, 3) := by decide +kernel
theorem dX9_holds_63 : decode cX9_holds 63 = .ok (.iload 5, 2) := by decide +kernel
theorem dX9_holds_65 : decode cX9_holds 65 = .ok (.invokevirtual 121, 3) := by decide +kernel
theorem dX9_holds_68 : decode cX9_holds 68 = .ok (.ireturn, 1) := by decide +kernel
theorem dX9_isTold_0 : decode cX9_isTold 0 = .ok (.iload_n 1, 1) := by decide +kernel
theorem dX9_isTold_1 : decode cX9_isTold 1 = .ok (.iload_n 2, 1) := by decide +kernel
theorem dX9_isTold_2 : decode cX9_isTold 2 = .ok (.iload_n 3, 1) := by decide +kernel
theorem dX9_isTold_3 : decode cX9_isTold 3 = .ok (.invokestatic 75, 3) := by decide +kernel
theorem dX9_isTold_6 : decode cX9_isTold 6 = .ok (.ifCond .ne 13, 3) := by decide +kernel
theorem dX9_isTold_9 : decode cX9_isTold 9 = .ok (.new 79, 3) := by decide +kernel
theorem dX9_isTold_12 : decode cX9_isTold 12 = .ok (.dup, 1) := by decide +kernel
theorem dX9_isTold_13 : decode cX9_isTold 13 = .ok (.ldc 81, 2) := by decide +kernel
theorem dX9_isTold_15 : decode cX9_isTold 15 = .ok (.invokespecial 83, 3) := by decide +kernel
theorem dX9_isTold_18 : decode cX9_isTold 18 = .ok (.athrow, 1) := by decide +kernel
theorem dX9_isTold_19 : decode cX9_isTold 19 = .ok (.aload_n 0, 1) := by decide +kernel
theorem dX9_isTold_20 : decode cX9_isTold 20 = .ok (.getfield 10, 3) := by decide +kernel
theorem dX9_isTold_23 : decode cX9_isTold 23 = .ok (.getfield 124, 3) := by decide +kernel
theorem dX9_isTold_26 : decode cX9_isTold 26 = .ok (.iload_n 1, 1) := by decide +kernel
theorem dX9_isTold_27 : decode cX9_isTold 27 = .ok (.iload_n 2, 1) := by decide +kernel
theorem dX9_isTold_28 : decode cX9_isTold 28 = .ok (.iload_n 3, 1) := by decide +kernel
theorem dX9_isTold_29 : decode cX9_isTold 29 = .ok (.invokestatic 90, 3) := by decide +kernel
theorem dX9_isTold_32 : decode cX9_isTold 32 = .ok (.invokevirtual 121, 3) := by decide +kernel
theorem dX9_isTold_35 : decode cX9_isTold 35 = .ok (.ireturn, 1) := by decide +kernel
theorem dX9_factOf_0 : decode cX9_factOf 0 = .ok (.iload_n 1, 1) := by decide +kernel
theorem dX9_factOf_1 : decode cX9_factOf 1 = .ok (.iload_n 2, 1) := by decide +kernel
theorem dX9_factOf_2 : decode cX9_factOf 2 = .ok (.iload_n 3, 1) := by decide +kernel
theorem dX9_factOf_3 : decode cX9_factOf 3 = .ok (.invokestatic 75, 3) := by decide +kernel
theorem dX9_factOf_6 : decode cX9_factOf 6 = .ok (.ifCond .ne 13, 3) := by decide +kernel
theorem dX9_factOf_9 : decode cX9_factOf 9 = .ok (.new 79, 3) := by decide +kernel
theorem dX9_factOf_12 : decode cX9_factOf 12 = .ok (.dup, 1) := by decide +kernel
theorem dX9_factOf_13 : decode cX9_factOf 13 = .ok (.ldc 81, 2) := by decide +kernel
theorem dX9_factOf_15 : decode cX9_factOf 15 = .ok (.invokespecial 83, 3) := by decide +kernel
theorem dX9_factOf_18 : decode cX9_factOf 18 = .ok (.athrow, 1) := by decide +kernel
theorem dX9_factOf_19 : decode cX9_factOf 19 = .ok (.iload_n 1, 1) := by decide +kernel
theorem dX9_factOf_20 : decode cX9_factOf 20 = .ok (.iload_n 2, 1) := by decide +kernel
theorem dX9_factOf_21 : decode cX9_factOf 21 = .ok (.iload_n 3, 1) := by decide +kernel
theorem dX9_factOf_22 : decode cX9_factOf 22 = .ok (.invokestatic 90, 3) := by decide +kernel
theorem dX9_factOf_25 : decode cX9_factOf 25 = .ok (.istore 5, 2) := by decide +kernel
theorem dX9_factOf_27 : decode cX9_factOf 27 = .ok (.aload_n 0, 1) := by decide +kernel
theorem dX9_factOf_28 : decode cX9_factOf 28 = .ok (.getfield 29, 3) := by decide +kernel
theorem dX9_factOf_31 : decode cX9_factOf 31 = .ok (.aload_n 0, 1) := by decide +kernel
theorem dX9_factOf_32 : decode cX9_factOf 32 = .ok (.getfield 10, 3) := by decide +kernel
theorem dX9_factOf_35 : decode cX9_factOf 35 = .ok (.invokevirtual 136, 3) := by decide +kernel
theorem dX9_factOf_38 : decode cX9_factOf 38 = .ok (.astore 6, 2) := by decide +kernel
theorem dX9_factOf_40 : decode cX9_factOf 40 = .ok (.aload 6, 2) := by decide +kernel
theorem dX9_factOf_42 : decode cX9_factOf 42 = .ok (.getfield 140, 3) := by decide +kernel
theorem dX9_factOf_45 : decode cX9_factOf 45 = .ok (.iload 5, 2) := by decide +kernel
theorem dX9_factOf_47 : decode cX9_factOf 47 = .ok (.invokevirtual 121, 3) := by decide +kernel
theorem dX9_factOf_50 : decode cX9_factOf 50 = .ok (.ifCond .ne 13, 3) := by decide +kernel
theorem dX9_factOf_53 : decode cX9_factOf 53 = .ok (.new 143, 3) := by decide +kernel
theorem dX9_factOf_56 : decode cX9_factOf 56 = .ok (.dup, 1) := by decide +kernel
theorem dX9_factOf_57 : decode cX9_factOf 57 = .ok (.ldc 145, 2) := by decide +kernel
theorem dX9_factOf_59 : decode cX9_factOf 59 = .ok (.invokespecial 147, 3) := by decide +kernel
theorem dX9_factOf_62 : decode cX9_factOf 62 = .ok (.athrow, 1) := by decide +kernel
theorem dX9_factOf_63 : decode cX9_factOf 63 = .ok (.iload 4, 2) := by decide +kernel
theorem dX9_factOf_65 : decode cX9_factOf 65 = .ok (.tableswitch 98 0 5 #[39, 48, 57, 66, 75, 83], 39) := by decide +kernel
theorem dX9_factOf_104 : decode cX9_factOf 104 = .ok (.aload 6, 2) := by decide +kernel
theorem dX9_factOf_106 : decode cX9_factOf 106 = .ok (.getfield 148, 3) := by decide +kernel
theorem dX9_factOf_109 : decode cX9_factOf 109 = .ok (.iload 5, 2) := by decide +kernel
theorem dX9_factOf_111 : decode cX9_factOf 111 = .ok (.iaload, 1) := by decide +kernel
theorem dX9_factOf_112 : decode cX9_factOf 112 = .ok (.ireturn, 1) := by decide +kernel
theorem dX9_factOf_113 : decode cX9_factOf 113 = .ok (.aload 6, 2) := by decide +kernel
theorem dX9_factOf_115 : decode cX9_factOf 115 = .ok (.getfield 152, 3) := by decide +kernel
theorem dX9_factOf_118 : decode cX9_factOf 118 = .ok (.iload 5, 2) := by decide +kernel
theorem dX9_factOf_120 : decode cX9_factOf 120 = .ok (.iaload, 1) := by decide +kernel
theorem dX9_factOf_121 : decode cX9_factOf 121 = .ok (.ireturn, 1) := by decide +kernel
theorem dX9_factOf_122 : decode cX9_factOf 122 = .ok (.aload 6, 2) := by decide +kernel
theorem dX9_factOf_124 : decode cX9_factOf 124 = .ok (.getfield 155, 3) := by decide +kernel
theorem dX9_factOf_127 : decode cX9_factOf 127 = .ok (.iload 5, 2) := by decide +kernel
theorem dX9_factOf_129 : decode cX9_factOf 129 = .ok (.iaload, 1) := by decide +kernel
theorem dX9_factOf_130 : decode cX9_factOf 130 = .ok (.ireturn, 1) := by decide +kernel
theorem dX9_factOf_131 : decode cX9_factOf 131 = .ok (.aload 6, 2) := by decide +kernel
theorem dX9_factOf_133 : decode cX9_factOf 133 = .ok (.getfield 158, 3) := by decide +kernel
theorem dX9_factOf_136 : decode cX9_factOf 136 = .ok (.iload 5, 2) := by decide +kernel
theorem dX9_factOf_138 : decode cX9_factOf 138 = .ok (.iaload, 1) := by decide +kernel
theorem dX9_factOf_139 : decode cX9_factOf 139 = .ok (.ireturn, 1) := by decide +kernel
theorem dX9_factOf_140 : decode cX9_factOf 140 = .ok (.aload 6, 2) := by decide +kernel
theorem dX9_factOf_142 : decode cX9_factOf 142 = .ok (.iload 5, 2) := by decide +kernel
theorem dX9_factOf_144 : decode cX9_factOf 144 = .ok (.invokevirtual 161, 3) := by decide +kernel
theorem dX9_factOf_147 : decode cX9_factOf 147 = .ok (.ireturn, 1) := by decide +kernel
theorem dX9_factOf_148 : decode cX9_factOf 148 = .ok (.aload 6, 2) := by decide +kernel
theorem dX9_factOf_150 : decode cX9_factOf 150 = .ok (.aload_n 0, 1) := by decide +kernel
theorem dX9_factOf_151 : decode cX9_factOf 151 = .ok (.getfield 10, 3) := by decide +kernel
theorem dX9_factOf_154 : decode cX9_factOf 154 = .ok (.getfield 128, 3) := by decide +kernel
theorem dX9_factOf_157 : decode cX9_factOf 157 = .ok (.iload 5, 2) := by decide +kernel
theorem dX9_factOf_159 : decode cX9_factOf 159 = .ok (.invokevirtual 165, 3) := by decide +kernel
theorem dX9_factOf_162 : decode cX9_factOf 162 = .ok (.ireturn, 1) := by decide +kernel
theorem dX9_factOf_163 : decode cX9_factOf 163 = .ok (.new 169, 3) := by decide +kernel
theorem dX9_factOf_166 : decode cX9_factOf 166 = .ok (.dup, 1) := by decide +kernel
theorem dX9_factOf_167 : decode cX9_factOf 167 = .ok (.ldc 171, 2) := by decide +kernel
theorem dX9_factOf_169 : decode cX9_factOf 169 = .ok (.invokespecial 173, 3) := by decide +kernel
theorem dX9_factOf_172 : decode cX9_factOf 172 = .ok (.athrow, 1) := by decide +kernel
theorem dX9_ways_0 : decode cX9_ways 0 = .ok (.iload_n 1, 1) := by decide +kernel
theorem dX9_ways_1 : decode cX9_ways 1 = .ok (.iload_n 2, 1) := by decide +kernel
theorem dX9_ways_2 : decode cX9_ways 2 = .ok (.iload_n 3, 1) := by decide +kernel
theorem dX9_ways_3 : decode cX9_ways 3 = .ok (.invokestatic 75, 3) := by decide +kernel
theorem dX9_ways_6 : decode cX9_ways 6 = .ok (.ifCond .ne 13, 3) := by decide +kernel
theorem dX9_ways_9 : decode cX9_ways 9 = .ok (.new 79, 3) := by decide +kernel
theorem dX9_ways_12 : decode cX9_ways 12 = .ok (.dup, 1) := by decide +kernel
theorem dX9_ways_13 : decode cX9_ways 13 = .ok (.ldc 81, 2) := by decide +kernel
theorem dX9_ways_15 : decode cX9_ways 15 = .ok (.invokespecial 83, 3) := by decide +kernel
theorem dX9_ways_18 : decode cX9_ways 18 = .ok (.athrow, 1) := by decide +kernel
theorem dX9_ways_19 : decode cX9_ways 19 = .ok (.aload_n 0, 1) := by decide +kernel
theorem dX9_ways_20 : decode cX9_ways 20 = .ok (.getfield 10, 3) := by decide +kernel
theorem dX9_ways_23 : decode cX9_ways 23 = .ok (.getfield 128, 3) := by decide +kernel
theorem dX9_ways_26 : decode cX9_ways 26 = .ok (.iload_n 1, 1) := by decide +kernel
theorem dX9_ways_27 : decode cX9_ways 27 = .ok (.iload_n 2, 1) := by decide +kernel
theorem dX9_ways_28 : decode cX9_ways 28 = .ok (.iload_n 3, 1) := by decide +kernel
theorem dX9_ways_29 : decode cX9_ways 29 = .ok (.invokestatic 90, 3) := by decide +kernel
theorem dX9_ways_32 : decode cX9_ways 32 = .ok (.aload_n 0, 1) := by decide +kernel
theorem dX9_ways_33 : decode cX9_ways 33 = .ok (.invokevirtual 106, 3) := by decide +kernel
theorem dX9_ways_36 : decode cX9_ways 36 = .ok (.invokevirtual 174, 3) := by decide +kernel
theorem dX9_ways_39 : decode cX9_ways 39 = .ok (.ireturn, 1) := by decide +kernel
theorem dX9_would_0 : decode cX9_would 0 = .ok (.iload_n 1, 1) := by decide +kernel
theorem dX9_would_1 : decode cX9_would 1 = .ok (.iload_n 2, 1) := by decide +kernel
theorem dX9_would_2 : decode cX9_would 2 = .ok (.iload_n 3, 1) := by decide +kernel
theorem dX9_would_3 : decode cX9_would 3 = .ok (.invokestatic 75, 3) := by decide +kernel
theorem dX9_would_6 : decode cX9_would 6 = .ok (.ifCond .ne 13, 3) := by decide +kernel
theorem dX9_would_9 : decode cX9_would 9 = .ok (.new 79, 3) := by decide +kernel
theorem dX9_would_12 : decode cX9_would 12 = .ok (.dup, 1) := by decide +kernel
theorem dX9_would_13 : decode cX9_would 13 = .ok (.ldc 81, 2) := by decide +kernel
theorem dX9_would_15 : decode cX9_would 15 = .ok (.invokespecial 83, 3) := by decide +kernel
theorem dX9_would_18 : decode cX9_would 18 = .ok (.athrow, 1) := by decide +kernel
theorem dX9_would_19 : decode cX9_would 19 = .ok (.aload_n 0, 1) := by decide +kernel
theorem dX9_would_20 : decode cX9_would 20 = .ok (.getfield 36, 3) := by decide +kernel
theorem dX9_would_23 : decode cX9_would 23 = .ok (.iload_n 1, 1) := by decide +kernel
theorem dX9_would_24 : decode cX9_would 24 = .ok (.iload_n 2, 1) := by decide +kernel
theorem dX9_would_25 : decode cX9_would 25 = .ok (.iload_n 3, 1) := by decide +kernel
theorem dX9_would_26 : decode cX9_would 26 = .ok (.invokestatic 90, 3) := by decide +kernel
theorem dX9_would_29 : decode cX9_would 29 = .ok (.aload_n 0, 1) := by decide +kernel
theorem dX9_would_30 : decode cX9_would 30 = .ok (.getfield 10, 3) := by decide +kernel
theorem dX9_would_33 : decode cX9_would 33 = .ok (.getfield 124, 3) := by decide +kernel
theorem dX9_would_36 : decode cX9_would 36 = .ok (.aload_n 0, 1) := by decide +kernel
theorem dX9_would_37 : decode cX9_would 37 = .ok (.getfield 10, 3) := by decide +kernel
theorem dX9_would_40 : decode cX9_would 40 = .ok (.getfield 128, 3) := by decide +kernel
theorem dX9_would_43 : decode cX9_would 43 = .ok (.invokevirtual 180, 3) := by decide +kernel
theorem dX9_would_46 : decode cX9_would 46 = .ok (.astore 4, 2) := by decide +kernel
theorem dX9_would_48 : decode cX9_would 48 = .ok (.aload 4, 2) := by decide +kernel
theorem dX9_would_50 : decode cX9_would 50 = .ok (.invokevirtual 110, 3) := by decide +kernel
theorem dX9_would_53 : decode cX9_would 53 = .ok (.aload_n 0, 1) := by decide +kernel
theorem dX9_would_54 : decode cX9_would 54 = .ok (.invokevirtual 106, 3) := by decide +kernel
theorem dX9_would_57 : decode cX9_would 57 = .ok (.invokevirtual 110, 3) := by decide +kernel
theorem dX9_would_60 : decode cX9_would 60 = .ok (.isub, 1) := by decide +kernel
theorem dX9_would_61 : decode cX9_would 61 = .ok (.ireturn, 1) := by decide +kernel
theorem dX9_kin_0 : decode cX9_kin 0 = .ok (.iload_n 1, 1) := by decide +kernel
theorem dX9_kin_1 : decode cX9_kin 1 = .ok (.invokestatic 184, 3) := by decide +kernel
theorem dX9_kin_4 : decode cX9_kin 4 = .ok (.ifCond .eq 10, 3) := by decide +kernel
theorem dX9_kin_7 : decode cX9_kin 7 = .ok (.iload_n 2, 1) := by decide +kernel
theorem dX9_kin_8 : decode cX9_kin 8 = .ok (.invokestatic 187, 3) := by decide +kernel
theorem dX9_kin_11 : decode cX9_kin 11 = .ok (.ifCond .ne 13, 3) := by decide +kernel
theorem dX9_kin_14 : decode cX9_kin 14 = .ok (.new 79, 3) := by decide +kernel
theorem dX9_kin_17 : decode cX9_kin 17 = .ok (.dup, 1) := by decide +kernel
theorem dX9_kin_18 : decode cX9_kin 18 = .ok (.ldc 81, 2) := by decide +kernel
theorem dX9_kin_20 : decode cX9_kin 20 = .ok (.invokespecial 83, 3) := by decide +kernel
theorem dX9_kin_23 : decode cX9_kin 23 = .ok (.athrow, 1) := by decide +kernel
theorem dX9_kin_24 : decode cX9_kin 24 = .ok (.aload_n 0, 1) := by decide +kernel
theorem dX9_kin_25 : decode cX9_kin 25 = .ok (.invokevirtual 106, 3) := by decide +kernel
theorem dX9_kin_28 : decode cX9_kin 28 = .ok (.iload_n 1, 1) := by decide +kernel
theorem dX9_kin_29 : decode cX9_kin 29 = .ok (.iload_n 2, 1) := by decide +kernel
theorem dX9_kin_30 : decode cX9_kin 30 = .ok (.invokevirtual 190, 3) := by decide +kernel
theorem dX9_kin_33 : decode cX9_kin 33 = .ok (.ireturn, 1) := by decide +kernel
theorem dX9_relationOf_0 : decode cX9_relationOf 0 = .ok (.iload_n 1, 1) := by decide +kernel
theorem dX9_relationOf_1 : decode cX9_relationOf 1 = .ok (.invokestatic 184, 3) := by decide +kernel
theorem dX9_relationOf_4 : decode cX9_relationOf 4 = .ok (.ifCond .ne 13, 3) := by decide +kernel
theorem dX9_relationOf_7 : decode cX9_relationOf 7 = .ok (.new 79, 3) := by decide +kernel
theorem dX9_relationOf_10 : decode cX9_relationOf 10 = .ok (.dup, 1) := by decide +kernel
theorem dX9_relationOf_11 : decode cX9_relationOf 11 = .ok (.ldc 194, 2) := by decide +kernel
theorem dX9_relationOf_13 : decode cX9_relationOf 13 = .ok (.invokespecial 83, 3) := by decide +kernel
theorem dX9_relationOf_16 : decode cX9_relationOf 16 = .ok (.athrow, 1) := by decide +kernel
theorem dX9_relationOf_17 : decode cX9_relationOf 17 = .ok (.iload_n 2, 1) := by decide +kernel
theorem dX9_relationOf_18 : decode cX9_relationOf 18 = .ok (.tableswitch 118 0 5 #[38, 47, 59, 78, 90, 102], 38) := by decide +kernel
theorem dX9_relationOf_56 : decode cX9_relationOf 56 = .ok (.aload_n 0, 1) := by decide +kernel
theorem dX9_relationOf_57 : decode cX9_relationOf 57 = .ok (.invokevirtual 106, 3) := by decide +kernel
theorem dX9_relationOf_60 : decode cX9_relationOf 60 = .ok (.iload_n 1, 1) := by decide +kernel
theorem dX9_relationOf_61 : decode cX9_relationOf 61 = .ok (.invokevirtual 196, 3) := by decide +kernel
theorem dX9_relationOf_64 : decode cX9_relationOf 64 = .ok (.ireturn, 1) := by decide +kernel
theorem dX9_relationOf_65 : decode cX9_relationOf 65 = .ok (.aload_n 0, 1) := by decide +kernel
theorem dX9_relationOf_66 : decode cX9_relationOf 66 = .ok (.getfield 10, 3) := by decide +kernel
theorem dX9_relationOf_69 : decode cX9_relationOf 69 = .ok (.getfield 124, 3) := by decide +kernel
theorem dX9_relationOf_72 : decode cX9_relationOf 72 = .ok (.iload_n 1, 1) := by decide +kernel
theorem dX9_relationOf_73 : decode cX9_relationOf 73 = .ok (.invokevirtual 196, 3) := by decide +kernel
theorem dX9_relationOf_76 : decode cX9_relationOf 76 = .ok (.ireturn, 1) := by decide +kernel
theorem dX9_relationOf_77 : decode cX9_relationOf 77 = .ok (.aload_n 0, 1) := by decide +kernel
theorem dX9_relationOf_78 : decode cX9_relationOf 78 = .ok (.getfield 29, 3) := by decide +kernel
theorem dX9_relationOf_81 : decode cX9_relationOf 81 = .ok (.aload_n 0, 1) := by decide +kernel
theorem dX9_relationOf_82 : decode cX9_relationOf 82 = .ok (.getfield 10, 3) := by decide +kernel
theorem dX9_relationOf_85 : decode cX9_relationOf 85 = .ok (.invokevirtual 136, 3) := by decide +kernel
theorem dX9_relationOf_88 : decode cX9_relationOf 88 = .ok (.getfield 197, 3) := by decide +kernel
theorem dX9_relationOf_91 : decode cX9_relationOf 91 = .ok (.iload_n 1, 1) := by decide +kernel
theorem dX9_relationOf_92 : decode cX9_relationOf 92 = .ok (.invokevirtual 200, 3) := by decide +kernel
theorem dX9_relationOf_95 : decode cX9_relationOf 95 = .ok (.ireturn, 1) := by decide +kernel
theorem dX9_relationOf_96 : decode cX9_relationOf 96 = .ok (.aload_n 0, 1) := by decide +kernel
theorem dX9_relationOf_97 : decode cX9_relationOf 97 = .ok (.getfield 10, 3) := by decide +kernel
theorem dX9_relationOf_100 : decode cX9_relationOf 100 = .ok (.getfield 128, 3) := by decide +kernel
theorem dX9_relationOf_103 : decode cX9_relationOf 103 = .ok (.iload_n 1, 1) := by decide +kernel
theorem dX9_relationOf_104 : decode cX9_relationOf 104 = .ok (.invokevirtual 203, 3) := by decide +kernel
theorem dX9_relationOf_107 : decode cX9_relationOf 107 = .ok (.ireturn, 1) := by decide +kernel
theorem dX9_relationOf_108 : decode cX9_relationOf 108 = .ok (.aload_n 0, 1) := by decide +kernel
theorem dX9_relationOf_109 : decode cX9_relationOf 109 = .ok (.getfield 10, 3) := by decide +kernel
theorem dX9_relationOf_112 : decode cX9_relationOf 112 = .ok (.getfield 128, 3) := by decide +kernel
theorem dX9_relationOf_115 : decode cX9_relationOf 115 = .ok (.iload_n 1, 1) := by decide +kernel
theorem dX9_relationOf_116 : decode cX9_relationOf 116 = .ok (.invokevirtual 206, 3) := by decide +kernel
theorem dX9_relationOf_119 : decode cX9_relationOf 119 = .ok (.ireturn, 1) := by decide +kernel
theorem dX9_relationOf_120 : decode cX9_relationOf 120 = .ok (.aload_n 0, 1) := by decide +kernel
theorem dX9_relationOf_121 : decode cX9_relationOf 121 = .ok (.getfield 29, 3) := by decide +kernel
theorem dX9_relationOf_124 : decode cX9_relationOf 124 = .ok (.aload_n 0, 1) := by decide +kernel
theorem dX9_relationOf_125 : decode cX9_relationOf 125 = .ok (.getfield 10, 3) := by decide +kernel
theorem dX9_relationOf_128 : decode cX9_relationOf 128 = .ok (.invokevirtual 136, 3) := by decide +kernel
theorem dX9_relationOf_131 : decode cX9_relationOf 131 = .ok (.iload_n 1, 1) := by decide +kernel
theorem dX9_relationOf_132 : decode cX9_relationOf 132 = .ok (.invokevirtual 209, 3) := by decide +kernel
theorem dX9_relationOf_135 : decode cX9_relationOf 135 = .ok (.ireturn, 1) := by decide +kernel
theorem dX9_relationOf_136 : decode cX9_relationOf 136 = .ok (.new 169, 3) := by decide +kernel
theorem dX9_relationOf_139 : decode cX9_relationOf 139 = .ok (.dup, 1) := by decide +kernel
theorem dX9_relationOf_140 : decode cX9_relationOf 140 = .ok (.ldc 212, 2) := by decide +kernel
theorem dX9_relationOf_142 : decode cX9_relationOf 142 = .ok (.invokespecial 173, 3) := by decide +kernel
theorem dX9_relationOf_145 : decode cX9_relationOf 145 = .ok (.athrow, 1) := by decide +kernel
theorem dX9_ranked_0 : decode cX9_ranked 0 = .ok (.aload_n 0, 1) := by decide +kernel
theorem dX9_ranked_1 : decode cX9_ranked 1 = .ok (.invokevirtual 106, 3) := by decide +kernel
theorem dX9_ranked_4 : decode cX9_ranked 4 = .ok (.astore_n 2, 1) := by decide +kernel
theorem dX9_ranked_5 : decode cX9_ranked 5 = .ok (.iconst 0, 1) := by decide +kernel
theorem dX9_ranked_6 : decode cX9_ranked 6 = .ok (.istore_n 3, 1) := by decide +kernel
theorem dX9_ranked_7 : decode cX9_ranked 7 = .ok (.iload_n 3, 1) := by decide +kernel
theorem dX9_ranked_8 : decode cX9_ranked 8 = .ok (.bipush 6, 2) := by decide +kernel
theorem dX9_ranked_10 : decode cX9_ranked 10 = .ok (.if_icmp .ge 20, 3) := by decide +kernel
theorem dX9_ranked_13 : decode cX9_ranked 13 = .ok (.iload_n 3, 1) := by decide +kernel
theorem dX9_ranked_14 : decode cX9_ranked 14 = .ok (.aload_n 2, 1) := by decide +kernel
theorem dX9_ranked_15 : decode cX9_ranked 15 = .ok (.invokestatic 214, 3) := by decide +kernel
theorem dX9_ranked_18 : decode cX9_ranked 18 = .ok (.iload_n 1, 1) := by decide +kernel
theorem dX9_ranked_19 : decode cX9_ranked 19 = .ok (.if_icmp .ne 5, 3) := by decide +kernel
theorem dX9_ranked_22 : decode cX9_ranked 22 = .ok (.iload_n 3, 1) := by decide +kernel
theorem dX9_ranked_23 : decode cX9_ranked 23 = .ok (.ireturn, 1) := by decide +kernel
theorem dX9_ranked_24 : decode cX9_ranked 24 = .ok (.iinc 3 1, 3) := by decide +kernel
theorem dX9_ranked_27 : decode cX9_ranked 27 = .ok (.goto (-20), 3) := by decide +kernel
theorem dX9_ranked_30 : decode cX9_ranked 30 = .ok (.new 143, 3) := by decide +kernel
theorem dX9_ranked_33 : decode cX9_ranked 33 = .ok (.dup, 1) := by decide +kernel
theorem dX9_ranked_34 : decode cX9_ranked 34 = .ok (.ldc 217, 2) := by decide +kernel
theorem dX9_ranked_36 : decode cX9_ranked 36 = .ok (.invokespecial 147, 3) := by decide +kernel
theorem dX9_ranked_39 : decode cX9_ranked 39 = .ok (.athrow, 1) := by decide +kernel
theorem dX9_isMutual_0 : decode cX9_isMutual 0 = .ok (.iload_n 1, 1) := by decide +kernel
theorem dX9_isMutual_1 : decode cX9_isMutual 1 = .ok (.invokestatic 184, 3) := by decide +kernel
theorem dX9_isMutual_4 : decode cX9_isMutual 4 = .ok (.ifCond .ne 13, 3) := by decide +kernel
theorem dX9_isMutual_7 : decode cX9_isMutual 7 = .ok (.new 79, 3) := by decide +kernel
theorem dX9_isMutual_10 : decode cX9_isMutual 10 = .ok (.dup, 1) := by decide +kernel
theorem dX9_isMutual_11 : decode cX9_isMutual 11 = .ok (.ldc 194, 2) := by decide +kernel
theorem dX9_isMutual_13 : decode cX9_isMutual 13 = .ok (.invokespecial 83, 3) := by decide +kernel
theorem dX9_isMutual_16 : decode cX9_isMutual 16 = .ok (.athrow, 1) := by decide +kernel
theorem dX9_isMutual_17 : decode cX9_isMutual 17 = .ok (.aload_n 0, 1) := by decide +kernel
theorem dX9_isMutual_18 : decode cX9_isMutual 18 = .ok (.invokevirtual 106, 3) := by decide +kernel
theorem dX9_isMutual_21 : decode cX9_isMutual 21 = .ok (.astore_n 2, 1) := by decide +kernel
theorem dX9_isMutual_22 : decode cX9_isMutual 22 = .ok (.iconst 0, 1) := by decide +kernel
theorem dX9_isMutual_23 : decode cX9_isMutual 23 = .ok (.istore_n 3, 1) := by decide +kernel
theorem dX9_isMutual_24 : decode cX9_isMutual 24 = .ok (.iload_n 3, 1) := by decide +kernel
theorem dX9_isMutual_25 : decode cX9_isMutual 25 = .ok (.bipush 6, 2) := by decide +kernel
theorem dX9_isMutual_27 : decode cX9_isMutual 27 = .ok (.if_icmp .ge 26, 3) := by decide +kernel
theorem dX9_isMutual_30 : decode cX9_isMutual 30 = .ok (.aload_n 2, 1) := by decide +kernel
theorem dX9_isMutual_31 : decode cX9_isMutual 31 = .ok (.iload_n 1, 1) := by decide +kernel
theorem dX9_isMutual_32 : decode cX9_isMutual 32 = .ok (.iload_n 3, 1) := by decide +kernel
theorem dX9_isMutual_33 : decode cX9_isMutual 33 = .ok (.invokevirtual 190, 3) := by decide +kernel
theorem dX9_isMutual_36 : decode cX9_isMutual 36 = .ok (.aload_n 2, 1) := by decide +kernel
theorem dX9_isMutual_37 : decode cX9_isMutual 37 = .ok (.iload_n 1, 1) := by decide +kernel
theorem dX9_isMutual_38 : decode cX9_isMutual 38 = .ok (.iload_n 3, 1) := by decide +kernel
theorem dX9_isMutual_39 : decode cX9_isMutual 39 = .ok (.invokevirtual 219, 3) := by decide +kernel
theorem dX9_isMutual_42 : decode cX9_isMutual 42 = .ok (.if_icmp .eq 5, 3) := by decide +kernel
theorem dX9_isMutual_45 : decode cX9_isMutual 45 = .ok (.iconst 0, 1) := by decide +kernel
theorem dX9_isMutual_46 : decode cX9_isMutual 46 = .ok (.ireturn, 1) := by decide +kernel
theorem dX9_isMutual_47 : decode cX9_isMutual 47 = .ok (.iinc 3 1, 3) := by decide +kernel
theorem dX9_isMutual_50 : decode cX9_isMutual 50 = .ok (.goto (-26), 3) := by decide +kernel
theorem dX9_isMutual_53 : decode cX9_isMutual 53 = .ok (.iconst 1, 1) := by decide +kernel
theorem dX9_isMutual_54 : decode cX9_isMutual 54 = .ok (.ireturn, 1) := by decide +kernel
theorem dX9_rule_0 : decode cX9_rule 0 = .ok (.iload_n 1, 1) := by decide +kernel
theorem dX9_rule_1 : decode cX9_rule 1 = .ok (.iload_n 2, 1) := by decide +kernel
theorem dX9_rule_2 : decode cX9_rule 2 = .ok (.iload_n 3, 1) := by decide +kernel
theorem dX9_rule_3 : decode cX9_rule 3 = .ok (.iload 4, 2) := by decide +kernel
theorem dX9_rule_5 : decode cX9_rule 5 = .ok (.invokestatic 222, 3) := by decide +kernel
theorem dX9_rule_8 : decode cX9_rule 8 = .ok (.ifCond .ne 13, 3) := by decide +kernel
theorem dX9_rule_11 : decode cX9_rule 11 = .ok (.new 79, 3) := by decide +kernel
theorem dX9_rule_14 : decode cX9_rule 14 = .ok (.dup, 1) := by decide +kernel
theorem dX9_rule_15 : decode cX9_rule 15 = .ok (.ldc 226, 2) := by decide +kernel
theorem dX9_rule_17 : decode cX9_rule 17 = .ok (.invokespecial 83, 3) := by decide +kernel
theorem dX9_rule_20 : decode cX9_rule 20 = .ok (.athrow, 1) := by decide +kernel
theorem dX9_rule_21 : decode cX9_rule 21 = .ok (.aload_n 0, 1) := by decide +kernel
theorem dX9_rule_22 : decode cX9_rule 22 = .ok (.getfield 22, 3) := by decide +kernel
theorem dX9_rule_25 : decode cX9_rule 25 = .ok (.aload_n 0, 1) := by decide +kernel
theorem dX9_rule_26 : decode cX9_rule 26 = .ok (.getfield 10, 3) := by decide +kernel
theorem dX9_rule_29 : decode cX9_rule 29 = .ok (.invokevirtual 86, 3) := by decide +kernel
theorem dX9_rule_32 : decode cX9_rule 32 = .ok (.aload_n 0, 1) := by decide +kernel
theorem dX9_rule_33 : decode cX9_rule 33 = .ok (.iload_n 1, 1) := by decide +kernel
theorem dX9_rule_34 : decode cX9_rule 34 = .ok (.iload_n 2, 1) := by decide +kernel
theorem dX9_rule_35 : decode cX9_rule 35 = .ok (.iload_n 3, 1) := by decide +kernel
theorem dX9_rule_36 : decode cX9_rule 36 = .ok (.iload 4, 2) := by decide +kernel
theorem dX9_rule_38 : decode cX9_rule 38 = .ok (.invokevirtual 228, 3) := by decide +kernel
theorem dX9_rule_41 : decode cX9_rule 41 = .ok (.ifCond .ne 13, 3) := by decide +kernel
theorem dX9_rule_44 : decode cX9_rule 44 = .ok (.new 98, 3) := by decide +kernel
theorem dX9_rule_47 : decode cX9_rule 47 = .ok (.dup, 1) := by decide +kernel
theorem dX9_rule_48 : decode cX9_rule 48 = .ok (.ldc 231, 2) := by decide +kernel
theorem dX9_rule_50 : decode cX9_rule 50 = .ok (.invokespecial 102, 3) := by decide +kernel
theorem dX9_rule_53 : decode cX9_rule 53 = .ok (.athrow, 1) := by decide +kernel
theorem dX9_rule_54 : decode cX9_rule 54 = .ok (.aload_n 0, 1) := by decide +kernel
theorem dX9_rule_55 : decode cX9_rule 55 = .ok (.getfield 22, 3) := by decide +kernel
theorem dX9_rule_58 : decode cX9_rule 58 = .ok (.invokevirtual 103, 3) := by decide +kernel
theorem dX9_rule_61 : decode cX9_rule 61 = .ok (.aload_n 0, 1) := by decide +kernel
theorem dX9_rule_62 : decode cX9_rule 62 = .ok (.getfield 10, 3) := by decide +kernel
theorem dX9_rule_65 : decode cX9_rule 65 = .ok (.getfield 128, 3) := by decide +kernel
theorem dX9_rule_68 : decode cX9_rule 68 = .ok (.getfield 233, 3) := by decide +kernel
theorem dX9_rule_71 : decode cX9_rule 71 = .ok (.iconst 1, 1) := by decide +kernel
theorem dX9_rule_72 : decode cX9_rule 72 = .ok (.isub, 1) := by decide +kernel
theorem dX9_rule_73 : decode cX9_rule 73 = .ok (.ireturn, 1) := by decide +kernel
theorem dX9_drop_0 : decode cX9_drop 0 = .ok (.aload_n 0, 1) := by decide +kernel
theorem dX9_drop_1 : decode cX9_drop 1 = .ok (.getfield 10, 3) := by decide +kernel
theorem dX9_drop_4 : decode cX9_drop 4 = .ok (.getfield 128, 3) := by decide +kernel
theorem dX9_drop_7 : decode cX9_drop 7 = .ok (.iload_n 1, 1) := by decide +kernel
theorem dX9_drop_8 : decode cX9_drop 8 = .ok (.invokevirtual 236, 3) := by decide +kernel
theorem dX9_drop_11 : decode cX9_drop 11 = .ok (.ifCond .ne 13, 3) := by decide +kernel
theorem dX9_drop_14 : decode cX9_drop 14 = .ok (.new 169, 3) := by decide +kernel
theorem dX9_drop_17 : decode cX9_drop 17 = .ok (.dup, 1) := by decide +kernel
theorem dX9_drop_18 : decode cX9_drop 18 = .ok (.ldc 237, 2) := by decide +kernel
theorem dX9_drop_20 : decode cX9_drop 20 = .ok (.invokespecial 173, 3) := by decide +kernel
theorem dX9_drop_23 : decode cX9_drop 23 = .ok (.athrow, 1) := by decide +kernel
theorem dX9_drop_24 : decode cX9_drop 24 = .ok (.aload_n 0, 1) := by decide +kernel
theorem dX9_drop_25 : decode cX9_drop 25 = .ok (.getfield 22, 3) := by decide +kernel
theorem dX9_drop_28 : decode cX9_drop 28 = .ok (.aload_n 0, 1) := by decide +kernel
theorem dX9_drop_29 : decode cX9_drop 29 = .ok (.getfield 10, 3) := by decide +kernel
theorem dX9_drop_32 : decode cX9_drop 32 = .ok (.invokevirtual 86, 3) := by decide +kernel
theorem dX9_drop_35 : decode cX9_drop 35 = .ok (.aload_n 0, 1) := by decide +kernel
theorem dX9_drop_36 : decode cX9_drop 36 = .ok (.iload_n 1, 1) := by decide +kernel
theorem dX9_drop_37 : decode cX9_drop 37 = .ok (.invokevirtual 239, 3) := by decide +kernel
theorem dX9_drop_40 : decode cX9_drop 40 = .ok (.pop, 1) := by decide +kernel
theorem dX9_drop_41 : decode cX9_drop 41 = .ok (.aload_n 0, 1) := by decide +kernel
theorem dX9_drop_42 : decode cX9_drop 42 = .ok (.getfield 22, 3) := by decide +kernel
theorem dX9_drop_45 : decode cX9_drop 45 = .ok (.invokevirtual 103, 3) := by decide +kernel
theorem dX9_drop_48 : decode cX9_drop 48 = .ok (.aload_n 0, 1) := by decide +kernel
theorem dX9_drop_49 : decode cX9_drop 49 = .ok (.invokevirtual 106, 3) := by decide +kernel
theorem dX9_drop_52 : decode cX9_drop 52 = .ok (.invokevirtual 110, 3) := by decide +kernel
theorem dX9_drop_55 : decode cX9_drop 55 = .ok (.ireturn, 1) := by decide +kernel
theorem dX9_ruleOf_0 : decode cX9_ruleOf 0 = .ok (.aload_n 0, 1) := by decide +kernel
theorem dX9_ruleOf_1 : decode cX9_ruleOf 1 = .ok (.getfield 10, 3) := by decide +kernel
theorem dX9_ruleOf_4 : decode cX9_ruleOf 4 = .ok (.getfield 128, 3) := by decide +kernel
theorem dX9_ruleOf_7 : decode cX9_ruleOf 7 = .ok (.iload_n 1, 1) := by decide +kernel
theorem dX9_ruleOf_8 : decode cX9_ruleOf 8 = .ok (.invokevirtual 236, 3) := by decide +kernel
theorem dX9_ruleOf_11 : decode cX9_ruleOf 11 = .ok (.ifCond .ne 13, 3) := by decide +kernel
theorem dX9_ruleOf_14 : decode cX9_ruleOf 14 = .ok (.new 169, 3) := by decide +kernel
theorem dX9_ruleOf_17 : decode cX9_ruleOf 17 = .ok (.dup, 1) := by decide +kernel
theorem dX9_ruleOf_18 : decode cX9_ruleOf 18 = .ok (.ldc 237, 2) := by decide +kernel
theorem dX9_ruleOf_20 : decode cX9_ruleOf 20 = .ok (.invokespecial 173, 3) := by decide +kernel
theorem dX9_ruleOf_23 : decode cX9_ruleOf 23 = .ok (.athrow, 1) := by decide +kernel
theorem dX9_ruleOf_24 : decode cX9_ruleOf 24 = .ok (.iload_n 2, 1) := by decide +kernel
theorem dX9_ruleOf_25 : decode cX9_ruleOf 25 = .ok (.tableswitch 87 0 3 #[31, 43, 55, 71], 31) := by decide +kernel
theorem dX9_ruleOf_56 : decode cX9_ruleOf 56 = .ok (.aload_n 0, 1) := by decide +kernel
theorem dX9_ruleOf_57 : decode cX9_ruleOf 57 = .ok (.getfield 10, 3) := by decide +kernel
theorem dX9_ruleOf_60 : decode cX9_ruleOf 60 = .ok (.getfield 128, 3) := by decide +kernel
theorem dX9_ruleOf_63 : decode cX9_ruleOf 63 = .ok (.iload_n 1, 1) := by decide +kernel
theorem dX9_ruleOf_64 : decode cX9_ruleOf 64 = .ok (.invokevirtual 242, 3) := by decide +kernel
theorem dX9_ruleOf_67 : decode cX9_ruleOf 67 = .ok (.ireturn, 1) := by decide +kernel
theorem dX9_ruleOf_68 : decode cX9_ruleOf 68 = .ok (.aload_n 0, 1) := by decide +kernel
theorem dX9_ruleOf_69 : decode cX9_ruleOf 69 = .ok (.getfield 10, 3) := by decide +kernel
theorem dX9_ruleOf_72 : decode cX9_ruleOf 72 = .ok (.getfield 128, 3) := by decide +kernel
theorem dX9_ruleOf_75 : decode cX9_ruleOf 75 = .ok (.iload_n 1, 1) := by decide +kernel
theorem dX9_ruleOf_76 : decode cX9_ruleOf 76 = .ok (.invokevirtual 245, 3) := by decide +kernel
theorem dX9_ruleOf_79 : decode cX9_ruleOf 79 = .ok (.ireturn, 1) := by decide +kernel
theorem dX9_ruleOf_80 : decode cX9_ruleOf 80 = .ok (.aload_n 0, 1) := by decide +kernel
theorem dX9_ruleOf_81 : decode cX9_ruleOf 81 = .ok (.getfield 29, 3) := by decide +kernel
theorem dX9_ruleOf_84 : decode cX9_ruleOf 84 = .ok (.aload_n 0, 1) := by decide +kernel
theorem dX9_ruleOf_85 : decode cX9_ruleOf 85 = .ok (.getfield 10, 3) := by decide +kernel
theorem dX9_ruleOf_88 : decode cX9_ruleOf 88 = .ok (.invokevirtual 136, 3) := by decide +kernel
theorem dX9_ruleOf_91 : decode cX9_ruleOf 91 = .ok (.iload_n 1, 1) := by decide +kernel
theorem dX9_ruleOf_92 : decode cX9_ruleOf 92 = .ok (.invokevirtual 248, 3) := by decide +kernel
theorem dX9_ruleOf_95 : decode cX9_ruleOf 95 = .ok (.ireturn, 1) := by decide +kernel
theorem dX9_ruleOf_96 : decode cX9_ruleOf 96 = .ok (.aload_n 0, 1) := by decide +kernel
theorem dX9_ruleOf_97 : decode cX9_ruleOf 97 = .ok (.getfield 10, 3) := by decide +kernel
theorem dX9_ruleOf_100 : decode cX9_ruleOf 100 = .ok (.getfield 128, 3) := by decide +kernel
theorem dX9_ruleOf_103 : decode cX9_ruleOf 103 = .ok (.iload_n 1, 1) := by decide +kernel
theorem dX9_ruleOf_104 : decode cX9_ruleOf 104 = .ok (.aload_n 0, 1) := by decide +kernel
theorem dX9_ruleOf_105 : decode cX9_ruleOf 105 = .ok (.invokevirtual 106, 3) := by decide +kernel
theorem dX9_ruleOf_108 : decode cX9_ruleOf 108 = .ok (.invokevirtual 251, 3) := by decide +kernel
theorem dX9_ruleOf_111 : decode cX9_ruleOf 111 = .ok (.ireturn, 1) := by decide +kernel
theorem dX9_ruleOf_112 : decode cX9_ruleOf 112 = .ok (.new 79, 3) := by decide +kernel
theorem dX9_ruleOf_115 : decode cX9_ruleOf 115 = .ok (.dup, 1) := by decide +kernel
theorem dX9_ruleOf_116 : decode cX9_ruleOf 116 = .ok (.ldc 254, 2) := by decide +kernel
theorem dX9_ruleOf_118 : decode cX9_ruleOf 118 = .ok (.invokespecial 83, 3) := by decide +kernel
theorem dX9_ruleOf_121 : decode cX9_ruleOf 121 = .ok (.athrow, 1) := by decide +kernel
theorem dX9_condition_0 : decode cX9_condition 0 = .ok (.aload_n 0, 1) := by decide +kernel
theorem dX9_condition_1 : decode cX9_condition 1 = .ok (.getfield 10, 3) := by decide +kernel
theorem dX9_condition_4 : decode cX9_condition 4 = .ok (.getfield 128, 3) := by decide +kernel
theorem dX9_condition_7 : decode cX9_condition 7 = .ok (.iload_n 1, 1) := by decide +kernel
theorem dX9_condition_8 : decode cX9_condition 8 = .ok (.invokevirtual 236, 3) := by decide +kernel
theorem dX9_condition_11 : decode cX9_condition 11 = .ok (.ifCond .ne 13, 3) := by decide +kernel
theorem dX9_condition_14 : decode cX9_condition 14 = .ok (.new 169, 3) := by decide +kernel
theorem dX9_condition_17 : decode cX9_condition 17 = .ok (.dup, 1) := by decide +kernel
theorem dX9_condition_18 : decode cX9_condition 18 = .ok (.ldc 237, 2) := by decide +kernel
theorem dX9_condition_20 : decode cX9_condition 20 = .ok (.invokespecial 173, 3) := by decide +kernel
theorem dX9_condition_23 : decode cX9_condition 23 = .ok (.athrow, 1) := by decide +kernel
theorem dX9_condition_24 : decode cX9_condition 24 = .ok (.aload_n 0, 1) := by decide +kernel
theorem dX9_condition_25 : decode cX9_condition 25 = .ok (.getfield 10, 3) := by decide +kernel
theorem dX9_condition_28 : decode cX9_condition 28 = .ok (.getfield 128, 3) := by decide +kernel
theorem dX9_condition_31 : decode cX9_condition 31 = .ok (.iload_n 1, 1) := by decide +kernel
theorem dX9_condition_32 : decode cX9_condition 32 = .ok (.iload_n 2, 1) := by decide +kernel
theorem dX9_condition_33 : decode cX9_condition 33 = .ok (.invokevirtual 256, 3) := by decide +kernel
theorem dX9_condition_36 : decode cX9_condition 36 = .ok (.istore_n 3, 1) := by decide +kernel
theorem dX9_condition_37 : decode cX9_condition 37 = .ok (.iload_n 3, 1) := by decide +kernel
theorem dX9_condition_38 : decode cX9_condition 38 = .ok (.ifCond .ne 13, 3) := by decide +kernel
theorem dX9_condition_41 : decode cX9_condition 41 = .ok (.new 143, 3) := by decide +kernel
theorem dX9_condition_44 : decode cX9_condition 44 = .ok (.dup, 1) := by decide +kernel
theorem dX9_condition_45 : decode cX9_condition 45 = .ok (.ldc 217, 2) := by decide +kernel
theorem dX9_condition_47 : decode cX9_condition 47 = .ok (.invokespecial 147, 3) := by decide +kernel
theorem dX9_condition_50 : decode cX9_condition 50 = .ok (.athrow, 1) := by decide +kernel
theorem dX9_condition_51 : decode cX9_condition 51 = .ok (.iload_n 3, 1) := by decide +kernel
theorem dX9_condition_52 : decode cX9_condition 52 = .ok (.ireturn, 1) := by decide +kernel
theorem dX9_wouldLayer_0 : decode cX9_wouldLayer 0 = .ok (.iload_n 1, 1) := by decide +kernel
theorem dX9_wouldLayer_1 : decode cX9_wouldLayer 1 = .ok (.iload_n 2, 1) := by decide +kernel
theorem dX9_wouldLayer_2 : decode cX9_wouldLayer 2 = .ok (.iload_n 3, 1) := by decide +kernel
theorem dX9_wouldLayer_3 : decode cX9_wouldLayer 3 = .ok (.iload 4, 2) := by decide +kernel
theorem dX9_wouldLayer_5 : decode cX9_wouldLayer 5 = .ok (.invokestatic 222, 3) := by decide +kernel
theorem dX9_wouldLayer_8 : decode cX9_wouldLayer 8 = .ok (.ifCond .ne 13, 3) := by decide +kernel
theorem dX9_wouldLayer_11 : decode cX9_wouldLayer 11 = .ok (.new 79, 3) := by decide +kernel
theorem dX9_wouldLayer_14 : decode cX9_wouldLayer 14 = .ok (.dup, 1) := by decide +kernel
theorem dX9_wouldLayer_15 : decode cX9_wouldLayer 15 = .ok (.ldc 226, 2) := by decide +kernel
theorem dX9_wouldLayer_17 : decode cX9_wouldLayer 17 = .ok (.invokespecial 83, 3) := by decide +kernel
theorem dX9_wouldLayer_20 : decode cX9_wouldLayer 20 = .ok (.athrow, 1) := by decide +kernel
theorem dX9_wouldLayer_21 : decode cX9_wouldLayer 21 = .ok (.aload_n 0, 1) := by decide +kernel
theorem dX9_wouldLayer_22 : decode cX9_wouldLayer 22 = .ok (.getfield 10, 3) := by decide +kernel
theorem dX9_wouldLayer_25 : decode cX9_wouldLayer 25 = .ok (.getfield 128, 3) := by decide +kernel
theorem dX9_wouldLayer_28 : decode cX9_wouldLayer 28 = .ok (.iload_n 1, 1) := by decide +kernel
theorem dX9_wouldLayer_29 : decode cX9_wouldLayer 29 = .ok (.iload_n 2, 1) := by decide +kernel
theorem dX9_wouldLayer_30 : decode cX9_wouldLayer 30 = .ok (.iload_n 3, 1) := by decide +kernel
theorem dX9_wouldLayer_31 : decode cX9_wouldLayer 31 = .ok (.iload 4, 2) := by decide +kernel
theorem dX9_wouldLayer_33 : decode cX9_wouldLayer 33 = .ok (.invokevirtual 259, 3) := by decide +kernel
theorem dX9_wouldLayer_36 : decode cX9_wouldLayer 36 = .ok (.aload_n 0, 1) := by decide +kernel
theorem dX9_wouldLayer_37 : decode cX9_wouldLayer 37 = .ok (.getfield 43, 3) := by decide +kernel
theorem dX9_wouldLayer_40 : decode cX9_wouldLayer 40 = .ok (.aload_n 0, 1) := by decide +kernel
theorem dX9_wouldLayer_41 : decode cX9_wouldLayer 41 = .ok (.getfield 10, 3) := by decide +kernel
theorem dX9_wouldLayer_44 : decode cX9_wouldLayer 44 = .ok (.getfield 128, 3) := by decide +kernel
theorem dX9_wouldLayer_47 : decode cX9_wouldLayer 47 = .ok (.aload_n 0, 1) := by decide +kernel
theorem dX9_wouldLayer_48 : decode cX9_wouldLayer 48 = .ok (.getfield 10, 3) := by decide +kernel
theorem dX9_wouldLayer_51 : decode cX9_wouldLayer 51 = .ok (.getfield 128, 3) := by decide +kernel
theorem dX9_wouldLayer_54 : decode cX9_wouldLayer 54 = .ok (.getfield 233, 3) := by decide +kernel
theorem dX9_wouldLayer_57 : decode cX9_wouldLayer 57 = .ok (.iconst 1, 1) := by decide +kernel
theorem dX9_wouldLayer_58 : decode cX9_wouldLayer 58 = .ok (.iadd, 1) := by decide +kernel
theorem dX9_wouldLayer_59 : decode cX9_wouldLayer 59 = .ok (.invokevirtual 263, 3) := by decide +kernel
theorem dX9_wouldLayer_62 : decode cX9_wouldLayer 62 = .ok (.ireturn, 1) := by decide +kernel
theorem dX9_layers_0 : decode cX9_layers 0 = .ok (.aload_n 0, 1) := by decide +kernel
theorem dX9_layers_1 : decode cX9_layers 1 = .ok (.getfield 29, 3) := by decide +kernel
theorem dX9_layers_4 : decode cX9_layers 4 = .ok (.aload_n 0, 1) := by decide +kernel
theorem dX9_layers_5 : decode cX9_layers 5 = .ok (.getfield 10, 3) := by decide +kernel
theorem dX9_layers_8 : decode cX9_layers 8 = .ok (.invokevirtual 136, 3) := by decide +kernel
theorem dX9_layers_11 : decode cX9_layers 11 = .ok (.getfield 197, 3) := by decide +kernel
theorem dX9_layers_14 : decode cX9_layers 14 = .ok (.invokevirtual 267, 3) := by decide +kernel
theorem dX9_layers_17 : decode cX9_layers 17 = .ok (.ireturn, 1) := by decide +kernel
theorem dX9_rounds_0 : decode cX9_rounds 0 = .ok (.aload_n 0, 1) := by decide +kernel
theorem dX9_rounds_1 : decode cX9_rounds 1 = .ok (.getfield 29, 3) := by decide +kernel
theorem dX9_rounds_4 : decode cX9_rounds 4 = .ok (.aload_n 0, 1) := by decide +kernel
theorem dX9_rounds_5 : decode cX9_rounds 5 = .ok (.getfield 10, 3) := by decide +kernel
theorem dX9_rounds_8 : decode cX9_rounds 8 = .ok (.invokevirtual 136, 3) := by decide +kernel
theorem dX9_rounds_11 : decode cX9_rounds 11 = .ok (.astore_n 2, 1) := by decide +kernel
theorem dX9_rounds_12 : decode cX9_rounds 12 = .ok (.iload_n 1, 1) := by decide +kernel
theorem dX9_rounds_13 : decode cX9_rounds 13 = .ok (.ifCond .lt 14, 3) := by decide +kernel
theorem dX9_rounds_16 : decode cX9_rounds 16 = .ok (.iload_n 1, 1) := by decide +kernel
theorem dX9_rounds_17 : decode cX9_rounds 17 = .ok (.aload_n 2, 1) := by decide +kernel
theorem dX9_rounds_18 : decode cX9_rounds 18 = .ok (.getfield 197, 3) := by decide +kernel
theorem dX9_rounds_21 : decode cX9_rounds 21 = .ok (.invokevirtual 267, 3) := by decide +kernel
theorem dX9_rounds_24 : decode cX9_rounds 24 = .ok (.if_icmp .lt 14, 3) := by decide +kernel
theorem dX9_rounds_27 : decode cX9_rounds 27 = .ok (.new 143, 3) := by decide +kernel
theorem dX9_rounds_30 : decode cX9_rounds 30 = .ok (.dup, 1) := by decide +kernel
theorem dX9_rounds_31 : decode cX9_rounds 31 = .ok (.ldc_w 269, 3) := by decide +kernel
theorem dX9_rounds_34 : decode cX9_rounds 34 = .ok (.invokespecial 147, 3) := by decide +kernel
theorem dX9_rounds_37 : decode cX9_rounds 37 = .ok (.athrow, 1) := by decide +kernel
theorem dX9_rounds_38 : decode cX9_rounds 38 = .ok (.aload_n 2, 1) := by decide +kernel
theorem dX9_rounds_39 : decode cX9_rounds 39 = .ok (.iload_n 1, 1) := by decide +kernel
theorem dX9_rounds_40 : decode cX9_rounds 40 = .ok (.invokevirtual 271, 3) := by decide +kernel
theorem dX9_rounds_43 : decode cX9_rounds 43 = .ok (.ireturn, 1) := by decide +kernel
theorem dX9_fresh_0 : decode cX9_fresh 0 = .ok (.aload_n 0, 1) := by decide +kernel
theorem dX9_fresh_1 : decode cX9_fresh 1 = .ok (.getfield 29, 3) := by decide +kernel
theorem dX9_fresh_4 : decode cX9_fresh 4 = .ok (.aload_n 0, 1) := by decide +kernel
theorem dX9_fresh_5 : decode cX9_fresh 5 = .ok (.getfield 10, 3) := by decide +kernel
theorem dX9_fresh_8 : decode cX9_fresh 8 = .ok (.invokevirtual 136, 3) := by decide +kernel
theorem dX9_fresh_11 : decode cX9_fresh 11 = .ok (.astore_n 3, 1) := by decide +kernel
theorem dX9_fresh_12 : decode cX9_fresh 12 = .ok (.iload_n 1, 1) := by decide +kernel
theorem dX9_fresh_13 : decode cX9_fresh 13 = .ok (.ifCond .lt 14, 3) := by decide +kernel
theorem dX9_fresh_16 : decode cX9_fresh 16 = .ok (.iload_n 1, 1) := by decide +kernel
theorem dX9_fresh_17 : decode cX9_fresh 17 = .ok (.aload_n 3, 1) := by decide +kernel
theorem dX9_fresh_18 : decode cX9_fresh 18 = .ok (.getfield 197, 3) := by decide +kernel
theorem dX9_fresh_21 : decode cX9_fresh 21 = .ok (.invokevirtual 267, 3) := by decide +kernel
theorem dX9_fresh_24 : decode cX9_fresh 24 = .ok (.if_icmp .lt 14, 3) := by decide +kernel
theorem dX9_fresh_27 : decode cX9_fresh 27 = .ok (.new 143, 3) := by decide +kernel
theorem dX9_fresh_30 : decode cX9_fresh 30 = .ok (.dup, 1) := by decide +kernel
theorem dX9_fresh_31 : decode cX9_fresh 31 = .ok (.ldc_w 269, 3) := by decide +kernel
theorem dX9_fresh_34 : decode cX9_fresh 34 = .ok (.invokespecial 147, 3) := by decide +kernel
theorem dX9_fresh_37 : decode cX9_fresh 37 = .ok (.athrow, 1) := by decide +kernel
theorem dX9_fresh_38 : decode cX9_fresh 38 = .ok (.iload_n 2, 1) := by decide +kernel
theorem dX9_fresh_39 : decode cX9_fresh 39 = .ok (.iconst 1, 1) := by decide +kernel
theorem dX9_fresh_40 : decode cX9_fresh 40 = .ok (.if_icmp .lt 12, 3) := by decide +kernel
theorem dX9_fresh_43 : decode cX9_fresh 43 = .ok (.iload_n 2, 1) := by decide +kernel
theorem dX9_fresh_44 : decode cX9_fresh 44 = .ok (.aload_n 3, 1) := by decide +kernel
theorem dX9_fresh_45 : decode cX9_fresh 45 = .ok (.iload_n 1, 1) := by decide +kernel
theorem dX9_fresh_46 : decode cX9_fresh 46 = .ok (.invokevirtual 271, 3) := by decide +kernel
theorem dX9_fresh_49 : decode cX9_fresh 49 = .ok (.if_icmp .le 14, 3) := by decide +kernel
theorem dX9_fresh_52 : decode cX9_fresh 52 = .ok (.new 143, 3) := by decide +kernel
theorem dX9_fresh_55 : decode cX9_fresh 55 = .ok (.dup, 1) := by decide +kernel
theorem dX9_fresh_56 : decode cX9_fresh 56 = .ok (.ldc_w 274, 3) := by decide +kernel
theorem dX9_fresh_59 : decode cX9_fresh 59 = .ok (.invokespecial 147, 3) := by decide +kernel
theorem dX9_fresh_62 : decode cX9_fresh 62 = .ok (.athrow, 1) := by decide +kernel
theorem dX9_fresh_63 : decode cX9_fresh 63 = .ok (.aload_n 3, 1) := by decide +kernel
theorem dX9_fresh_64 : decode cX9_fresh 64 = .ok (.iload_n 1, 1) := by decide +kernel
theorem dX9_fresh_65 : decode cX9_fresh 65 = .ok (.iload_n 2, 1) := by decide +kernel
theorem dX9_fresh_66 : decode cX9_fresh 66 = .ok (.invokevirtual 276, 3) := by decide +kernel
theorem dX9_fresh_69 : decode cX9_fresh 69 = .ok (.ireturn, 1) := by decide +kernel
theorem dX9_line_0 : decode cX9_line 0 = .ok (.iload_n 1, 1) := by decide +kernel
theorem dX9_line_1 : decode cX9_line 1 = .ok (.iload_n 2, 1) := by decide +kernel
theorem dX9_line_2 : decode cX9_line 2 = .ok (.iload_n 3, 1) := by decide +kernel
theorem dX9_line_3 : decode cX9_line 3 = .ok (.invokestatic 75, 3) := by decide +kernel
theorem dX9_line_6 : decode cX9_line 6 = .ok (.ifCond .ne 13, 3) := by decide +kernel
theorem dX9_line_9 : decode cX9_line 9 = .ok (.new 79, 3) := by decide +kernel
theorem dX9_line_12 : decode cX9_line 12 = .ok (.dup, 1) := by decide +kernel
theorem dX9_line_13 : decode cX9_line 13 = .ok (.ldc 81, 2) := by decide +kernel
theorem dX9_line_15 : decode cX9_line 15 = .ok (.invokespecial 83, 3) := by decide +kernel
theorem dX9_line_18 : decode cX9_line 18 = .ok (.athrow, 1) := by decide +kernel
theorem dX9_line_19 : decode cX9_line 19 = .ok (.iload_n 1, 1) := by decide +kernel
theorem dX9_line_20 : decode cX9_line 20 = .ok (.iload_n 2, 1) := by decide +kernel
theorem dX9_line_21 : decode cX9_line 21 = .ok (.iload_n 3, 1) := by decide +kernel
theorem dX9_line_22 : decode cX9_line 22 = .ok (.invokestatic 90, 3) := by decide +kernel
theorem dX9_line_25 : decode cX9_line 25 = .ok (.istore 4, 2) := by decide +kernel
theorem dX9_line_27 : decode cX9_line 27 = .ok (.aload_n 0, 1) := by decide +kernel
theorem dX9_line_28 : decode cX9_line 28 = .ok (.invokevirtual 106, 3) := by decide +kernel
theorem dX9_line_31 : decode cX9_line 31 = .ok (.iload 4, 2) := by decide +kernel
theorem dX9_line_33 : decode cX9_line 33 = .ok (.invokevirtual 121, 3) := by decide +kernel
theorem dX9_line_36 : decode cX9_line 36 = .ok (.ifCond .ne 13, 3) := by decide +kernel
theorem dX9_line_39 : decode cX9_line 39 = .ok (.new 143, 3) := by decide +kernel
theorem dX9_line_42 : decode cX9_line 42 = .ok (.dup, 1) := by decide +kernel
theorem dX9_line_43 : decode cX9_line 43 = .ok (.ldc 145, 2) := by decide +kernel
theorem dX9_line_45 : decode cX9_line 45 = .ok (.invokespecial 147, 3) := by decide +kernel
theorem dX9_line_48 : decode cX9_line 48 = .ok (.athrow, 1) := by decide +kernel
theorem dX9_line_49 : decode cX9_line 49 = .ok (.aload_n 0, 1) := by decide +kernel
theorem dX9_line_50 : decode cX9_line 50 = .ok (.iload 4, 2) := by decide +kernel
theorem dX9_line_52 : decode cX9_line 52 = .ok (.invokevirtual 279, 3) := by decide +kernel
theorem dX9_line_55 : decode cX9_line 55 = .ok (.aload_n 0, 1) := by decide +kernel
theorem dX9_line_56 : decode cX9_line 56 = .ok (.getfield 57, 3) := by decide +kernel
theorem dX9_line_59 : decode cX9_line 59 = .ok (.getfield 283, 3) := by decide +kernel
theorem dX9_line_62 : decode cX9_line 62 = .ok (.ireturn, 1) := by decide +kernel
theorem dX9_ruleLine_0 : decode cX9_ruleLine 0 = .ok (.aload_n 0, 1) := by decide +kernel
theorem dX9_ruleLine_1 : decode cX9_ruleLine 1 = .ok (.getfield 10, 3) := by decide +kernel
theorem dX9_ruleLine_4 : decode cX9_ruleLine 4 = .ok (.getfield 128, 3) := by decide +kernel
theorem dX9_ruleLine_7 : decode cX9_ruleLine 7 = .ok (.iload_n 1, 1) := by decide +kernel
theorem dX9_ruleLine_8 : decode cX9_ruleLine 8 = .ok (.invokevirtual 236, 3) := by decide +kernel
theorem dX9_ruleLine_11 : decode cX9_ruleLine 11 = .ok (.ifCond .ne 13, 3) := by decide +kernel
theorem dX9_ruleLine_14 : decode cX9_ruleLine 14 = .ok (.new 169, 3) := by decide +kernel
theorem dX9_ruleLine_17 : decode cX9_ruleLine 17 = .ok (.dup, 1) := by decide +kernel
theorem dX9_ruleLine_18 : decode cX9_ruleLine 18 = .ok (.ldc 237, 2) := by decide +kernel
theorem dX9_ruleLine_20 : decode cX9_ruleLine 20 = .ok (.invokespecial 173, 3) := by decide +kernel
theorem dX9_ruleLine_23 : decode cX9_ruleLine 23 = .ok (.athrow, 1) := by decide +kernel
theorem dX9_ruleLine_24 : decode cX9_ruleLine 24 = .ok (.aload_n 0, 1) := by decide +kernel
theorem dX9_ruleLine_25 : decode cX9_ruleLine 25 = .ok (.getfield 57, 3) := by decide +kernel
theorem dX9_ruleLine_28 : decode cX9_ruleLine 28 = .ok (.invokevirtual 286, 3) := by decide +kernel
theorem dX9_ruleLine_31 : decode cX9_ruleLine 31 = .ok (.aload_n 0, 1) := by decide +kernel
theorem dX9_ruleLine_32 : decode cX9_ruleLine 32 = .ok (.getfield 57, 3) := by decide +kernel
theorem dX9_ruleLine_35 : decode cX9_ruleLine 35 = .ok (.bipush 48, 2) := by decide +kernel
theorem dX9_ruleLine_37 : decode cX9_ruleLine 37 = .ok (.aload_n 0, 1) := by decide +kernel
theorem dX9_ruleLine_38 : decode cX9_ruleLine 38 = .ok (.getfield 10, 3) := by decide +kernel
theorem dX9_ruleLine_41 : decode cX9_ruleLine 41 = .ok (.getfield 128, 3) := by decide +kernel
theorem dX9_ruleLine_44 : decode cX9_ruleLine 44 = .ok (.iload_n 1, 1) := by decide +kernel
theorem dX9_ruleLine_45 : decode cX9_ruleLine 45 = .ok (.invokevirtual 242, 3) := by decide +kernel
theorem dX9_ruleLine_48 : decode cX9_ruleLine 48 = .ok (.invokevirtual 289, 3) := by decide +kernel
theorem dX9_ruleLine_51 : decode cX9_ruleLine 51 = .ok (.aload_n 0, 1) := by decide +kernel
theorem dX9_ruleLine_52 : decode cX9_ruleLine 52 = .ok (.getfield 57, 3) := by decide +kernel
theorem dX9_ruleLine_55 : decode cX9_ruleLine 55 = .ok (.bipush 61, 2) := by decide +kernel
theorem dX9_ruleLine_57 : decode cX9_ruleLine 57 = .ok (.invokevirtual 293, 3) := by decide +kernel
theorem dX9_ruleLine_60 : decode cX9_ruleLine 60 = .ok (.aload_n 0, 1) := by decide +kernel
theorem dX9_ruleLine_61 : decode cX9_ruleLine 61 = .ok (.getfield 10, 3) := by decide +kernel
theorem dX9_ruleLine_64 : decode cX9_ruleLine 64 = .ok (.getfield 128, 3) := by decide +kernel
theorem dX9_ruleLine_67 : decode cX9_ruleLine 67 = .ok (.iload_n 1, 1) := by decide +kernel
theorem dX9_ruleLine_68 : decode cX9_ruleLine 68 = .ok (.invokevirtual 245, 3) := by decide +kernel
theorem dX9_ruleLine_71 : decode cX9_ruleLine 71 = .ok (.istore_n 2, 1) := by decide +kernel
theorem dX9_ruleLine_72 : decode cX9_ruleLine 72 = .ok (.iconst 0, 1) := by decide +kernel
theorem dX9_ruleLine_73 : decode cX9_ruleLine 73 = .ok (.istore_n 3, 1) := by decide +kernel
theorem dX9_ruleLine_74 : decode cX9_ruleLine 74 = .ok (.iload_n 3, 1) := by decide +kernel
theorem dX9_ruleLine_75 : decode cX9_ruleLine 75 = .ok (.iload_n 2, 1) := by decide +kernel
theorem dX9_ruleLine_76 : decode cX9_ruleLine 76 = .ok (.if_icmp .ge 28, 3) := by decide +kernel
theorem dX9_ruleLine_79 : decode cX9_ruleLine 79 = .ok (.aload_n 0, 1) := by decide +kernel
theorem dX9_ruleLine_80 : decode cX9_ruleLine 80 = .ok (.getfield 57, 3) := by decide +kernel
theorem dX9_ruleLine_83 : decode cX9_ruleLine 83 = .ok (.aload_n 0, 1) := by decide +kernel
theorem dX9_ruleLine_84 : decode cX9_ruleLine 84 = .ok (.getfield 10, 3) := by decide +kernel
theorem dX9_ruleLine_87 : decode cX9_ruleLine 87 = .ok (.getfield 128, 3) := by decide +kernel
theorem dX9_ruleLine_90 : decode cX9_ruleLine 90 = .ok (.iload_n 1, 1) := by decide +kernel
theorem dX9_ruleLine_91 : decode cX9_ruleLine 91 = .ok (.iload_n 3, 1) := by decide +kernel
theorem dX9_ruleLine_92 : decode cX9_ruleLine 92 = .ok (.invokevirtual 256, 3) := by decide +kernel
theorem dX9_ruleLine_95 : decode cX9_ruleLine 95 = .ok (.invokevirtual 297, 3) := by decide +kernel
theorem dX9_ruleLine_98 : decode cX9_ruleLine 98 = .ok (.iinc 3 1, 3) := by decide +kernel
theorem dX9_ruleLine_101 : decode cX9_ruleLine 101 = .ok (.goto (-27), 3) := by decide +kernel
theorem dX9_ruleLine_104 : decode cX9_ruleLine 104 = .ok (.aload_n 0, 1) := by decide +kernel
theorem dX9_ruleLine_105 : decode cX9_ruleLine 105 = .ok (.getfield 57, 3) := by decide +kernel
theorem dX9_ruleLine_108 : decode cX9_ruleLine 108 = .ok (.getfield 283, 3) := by decide +kernel
theorem dX9_ruleLine_111 : decode cX9_ruleLine 111 = .ok (.ireturn, 1) := by decide +kernel
theorem dX9_character_0 : decode cX9_character 0 = .ok (.iload_n 1, 1) := by decide +kernel
theorem dX9_character_1 : decode cX9_character 1 = .ok (.ifCond .lt 20, 3) := by decide +kernel
theorem dX9_character_4 : decode cX9_character 4 = .ok (.iload_n 1, 1) := by decide +kernel
theorem dX9_character_5 : decode cX9_character 5 = .ok (.aload_n 0, 1) := by decide +kernel
theorem dX9_character_6 : decode cX9_character 6 = .ok (.getfield 57, 3) := by decide +kernel
theorem dX9_character_9 : decode cX9_character 9 = .ok (.getfield 283, 3) := by decide +kernel
theorem dX9_character_12 : decode cX9_character 12 = .ok (.if_icmp .ge 9, 3) := by decide +kernel
theorem dX9_character_15 : decode cX9_character 15 = .ok (.iload_n 1, 1) := by decide +kernel
theorem dX9_character_16 : decode cX9_character 16 = .ok (.bipush 24, 2) := by decide +kernel
theorem dX9_character_18 : decode cX9_character 18 = .ok (.if_icmp .lt 14, 3) := by decide +kernel
theorem dX9_character_21 : decode cX9_character 21 = .ok (.new 169, 3) := by decide +kernel
theorem dX9_character_24 : decode cX9_character 24 = .ok (.dup, 1) := by decide +kernel
theorem dX9_character_25 : decode cX9_character 25 = .ok (.ldc_w 300, 3) := by decide +kernel
theorem dX9_character_28 : decode cX9_character 28 = .ok (.invokespecial 173, 3) := by decide +kernel
theorem dX9_character_31 : decode cX9_character 31 = .ok (.athrow, 1) := by decide +kernel
theorem dX9_character_32 : decode cX9_character 32 = .ok (.aload_n 0, 1) := by decide +kernel
theorem dX9_character_33 : decode cX9_character 33 = .ok (.getfield 57, 3) := by decide +kernel
theorem dX9_character_36 : decode cX9_character 36 = .ok (.getfield 302, 3) := by decide +kernel
theorem dX9_character_39 : decode cX9_character 39 = .ok (.iload_n 1, 1) := by decide +kernel
theorem dX9_character_40 : decode cX9_character 40 = .ok (.caload, 1) := by decide +kernel
theorem dX9_character_41 : decode cX9_character 41 = .ok (.ireturn, 1) := by decide +kernel
theorem dX9_append_0 : decode cX9_append 0 = .ok (.aload_n 0, 1) := by decide +kernel
theorem dX9_append_1 : decode cX9_append 1 = .ok (.getfield 50, 3) := by decide +kernel
theorem dX9_append_4 : decode cX9_append 4 = .ok (.iload_n 1, 1) := by decide +kernel
theorem dX9_append_5 : decode cX9_append 5 = .ok (.invokevirtual 306, 3) := by decide +kernel
theorem dX9_append_8 : decode cX9_append 8 = .ok (.ifCond .ne 14, 3) := by decide +kernel
theorem dX9_append_11 : decode cX9_append 11 = .ok (.new 309, 3) := by decide +kernel
theorem dX9_append_14 : decode cX9_append 14 = .ok (.dup, 1) := by decide +kernel
theorem dX9_append_15 : decode cX9_append 15 = .ok (.ldc_w 311, 3) := by decide +kernel
theorem dX9_append_18 : decode cX9_append 18 = .ok (.invokespecial 313, 3) := by decide +kernel
theorem dX9_append_21 : decode cX9_append 21 = .ok (.athrow, 1) := by decide +kernel
theorem dX9_append_22 : decode cX9_append 22 = .ok (.aload_n 0, 1) := by decide +kernel
theorem dX9_append_23 : decode cX9_append 23 = .ok (.getfield 50, 3) := by decide +kernel
theorem dX9_append_26 : decode cX9_append 26 = .ok (.getfield 314, 3) := by decide +kernel
theorem dX9_append_29 : decode cX9_append 29 = .ok (.ireturn, 1) := by decide +kernel
theorem dX9_run_0 : decode cX9_run 0 = .ok (.aload_n 0, 1) := by decide +kernel
theorem dX9_run_1 : decode cX9_run 1 = .ok (.aload_n 0, 1) := by decide +kernel
theorem dX9_run_2 : decode cX9_run 2 = .ok (.getfield 50, 3) := by decide +kernel
theorem dX9_run_5 : decode cX9_run 5 = .ok (.invokevirtual 315, 3) := by decide +kernel
theorem dX9_run_8 : decode cX9_run 8 = .ok (.putfield 65, 3) := by decide +kernel
theorem dX9_run_11 : decode cX9_run 11 = .ok (.aload_n 0, 1) := by decide +kernel
theorem dX9_run_12 : decode cX9_run 12 = .ok (.getfield 50, 3) := by decide +kernel
theorem dX9_run_15 : decode cX9_run 15 = .ok (.invokevirtual 318, 3) := by decide +kernel
theorem dX9_run_18 : decode cX9_run 18 = .ok (.aload_n 0, 1) := by decide +kernel
theorem dX9_run_19 : decode cX9_run 19 = .ok (.getfield 65, 3) := by decide +kernel
theorem dX9_run_22 : decode cX9_run 22 = .ok (.ifCond .lt 14, 3) := by decide +kernel
theorem dX9_run_25 : decode cX9_run 25 = .ok (.new 79, 3) := by decide +kernel
theorem dX9_run_28 : decode cX9_run 28 = .ok (.dup, 1) := by decide +kernel
theorem dX9_run_29 : decode cX9_run 29 = .ok (.ldc_w 319, 3) := by decide +kernel
theorem dX9_run_32 : decode cX9_run 32 = .ok (.invokespecial 83, 3) := by decide +kernel
theorem dX9_run_35 : decode cX9_run 35 = .ok (.athrow, 1) := by decide +kernel
theorem dX9_run_36 : decode cX9_run 36 = .ok (.aload_n 0, 1) := by decide +kernel
theorem dX9_run_37 : decode cX9_run 37 = .ok (.getfield 22, 3) := by decide +kernel
theorem dX9_run_40 : decode cX9_run 40 = .ok (.aload_n 0, 1) := by decide +kernel
theorem dX9_run_41 : decode cX9_run 41 = .ok (.getfield 10, 3) := by decide +kernel
theorem dX9_run_44 : decode cX9_run 44 = .ok (.invokevirtual 86, 3) := by decide +kernel
theorem dX9_run_47 : decode cX9_run 47 = .ok (.aload_n 0, 1) := by decide +kernel
theorem dX9_run_48 : decode cX9_run 48 = .ok (.getfield 50, 3) := by decide +kernel
theorem dX9_run_51 : decode cX9_run 51 = .ok (.getfield 321, 3) := by decide +kernel
theorem dX9_run_54 : decode cX9_run 54 = .ok (.istore_n 1, 1) := by decide +kernel
theorem dX9_run_55 : decode cX9_run 55 = .ok (.iconst 0, 1) := by decide +kernel
theorem dX9_run_56 : decode cX9_run 56 = .ok (.istore_n 2, 1) := by decide +kernel
theorem dX9_run_57 : decode cX9_run 57 = .ok (.iconst 0, 1) := by decide +kernel
theorem dX9_run_58 : decode cX9_run 58 = .ok (.istore_n 3, 1) := by decide +kernel
theorem dX9_run_59 : decode cX9_run 59 = .ok (.iload_n 3, 1) := by decide +kernel
theorem dX9_run_60 : decode cX9_run 60 = .ok (.iload_n 1, 1) := by decide +kernel
theorem dX9_run_61 : decode cX9_run 61 = .ok (.if_icmp .ge 19, 3) := by decide +kernel
theorem dX9_run_64 : decode cX9_run 64 = .ok (.iload_n 2, 1) := by decide +kernel
theorem dX9_run_65 : decode cX9_run 65 = .ok (.ifCond .ne 15, 3) := by decide +kernel
theorem dX9_run_68 : decode cX9_run 68 = .ok (.aload_n 0, 1) := by decide +kernel
theorem dX9_run_69 : decode cX9_run 69 = .ok (.iload_n 3, 1) := by decide +kernel
theorem dX9_run_70 : decode cX9_run 70 = .ok (.invokevirtual 324, 3) := by decide +kernel
theorem dX9_run_73 : decode cX9_run 73 = .ok (.istore_n 2, 1) := by decide +kernel
theorem dX9_run_74 : decode cX9_run 74 = .ok (.iinc 3 1, 3) := by decide +kernel
theorem dX9_run_77 : decode cX9_run 77 = .ok (.goto (-18), 3) := by decide +kernel
theorem dX9_run_80 : decode cX9_run 80 = .ok (.iload_n 2, 1) := by decide +kernel
theorem dX9_run_81 : decode cX9_run 81 = .ok (.ifCond .eq 21, 3) := by decide +kernel
theorem dX9_run_84 : decode cX9_run 84 = .ok (.aload_n 0, 1) := by decide +kernel
theorem dX9_run_85 : decode cX9_run 85 = .ok (.getfield 22, 3) := by decide +kernel
theorem dX9_run_88 : decode cX9_run 88 = .ok (.aload_n 0, 1) := by decide +kernel
theorem dX9_run_89 : decode cX9_run 89 = .ok (.getfield 10, 3) := by decide +kernel
theorem dX9_run_92 : decode cX9_run 92 = .ok (.invokevirtual 327, 3) := by decide +kernel
theorem dX9_run_95 : decode cX9_run 95 = .ok (.aload_n 0, 1) := by decide +kernel
theorem dX9_run_96 : decode cX9_run 96 = .ok (.getfield 29, 3) := by decide +kernel
theorem dX9_run_99 : decode cX9_run 99 = .ok (.invokevirtual 330, 3) := by decide +kernel
theorem dX9_run_102 : decode cX9_run 102 = .ok (.iload_n 2, 1) := by decide +kernel
theorem dX9_run_103 : decode cX9_run 103 = .ok (.iconst 2, 1) := by decide +kernel
theorem dX9_run_104 : decode cX9_run 104 = .ok (.if_icmp .ne 14, 3) := by decide +kernel
theorem dX9_run_107 : decode cX9_run 107 = .ok (.new 79, 3) := by decide +kernel
theorem dX9_run_110 : decode cX9_run 110 = .ok (.dup, 1) := by decide +kernel
theorem dX9_run_111 : decode cX9_run 111 = .ok (.ldc_w 333, 3) := by decide +kernel
theorem dX9_run_114 : decode cX9_run 114 = .ok (.invokespecial 83, 3) := by decide +kernel
theorem dX9_run_117 : decode cX9_run 117 = .ok (.athrow, 1) := by decide +kernel
theorem dX9_run_118 : decode cX9_run 118 = .ok (.iload_n 2, 1) := by decide +kernel
theorem dX9_run_119 : decode cX9_run 119 = .ok (.iconst 1, 1) := by decide +kernel
theorem dX9_run_120 : decode cX9_run 120 = .ok (.if_icmp .ne 14, 3) := by decide +kernel
theorem dX9_run_123 : decode cX9_run 123 = .ok (.new 98, 3) := by decide +kernel
theorem dX9_run_126 : decode cX9_run 126 = .ok (.dup, 1) := by decide +kernel
theorem dX9_run_127 : decode cX9_run 127 = .ok (.ldc_w 335, 3) := by decide +kernel
theorem dX9_run_130 : decode cX9_run 130 = .ok (.invokespecial 102, 3) := by decide +kernel
theorem dX9_run_133 : decode cX9_run 133 = .ok (.athrow, 1) := by decide +kernel
theorem dX9_run_134 : decode cX9_run 134 = .ok (.aload_n 0, 1) := by decide +kernel
theorem dX9_run_135 : decode cX9_run 135 = .ok (.getfield 22, 3) := by decide +kernel
theorem dX9_run_138 : decode cX9_run 138 = .ok (.invokevirtual 103, 3) := by decide +kernel
theorem dX9_run_141 : decode cX9_run 141 = .ok (.iload_n 1, 1) := by decide +kernel
theorem dX9_run_142 : decode cX9_run 142 = .ok (.ireturn, 1) := by decide +kernel
theorem dX9_errorPosition_0 : decode cX9_errorPosition 0 = .ok (.aload_n 0, 1) := by decide +kernel
theorem dX9_errorPosition_1 : decode cX9_errorPosition 1 = .ok (.getfield 65, 3) := by decide +kernel
theorem dX9_errorPosition_4 : decode cX9_errorPosition 4 = .ok (.ireturn, 1) := by decide +kernel
theorem dX9_refusal_0 : decode cX9_refusal 0 = .ok (.aload_n 0, 1) := by decide +kernel
theorem dX9_refusal_1 : decode cX9_refusal 1 = .ok (.getfield 69, 3) := by decide +kernel
theorem dX9_refusal_4 : decode cX9_refusal 4 = .ok (.ifCond .ne 14, 3) := by decide +kernel
theorem dX9_refusal_7 : decode cX9_refusal 7 = .ok (.new 143, 3) := by decide +kernel
theorem dX9_refusal_10 : decode cX9_refusal 10 = .ok (.dup, 1) := by decide +kernel
theorem dX9_refusal_11 : decode cX9_refusal 11 = .ok (.ldc_w 337, 3) := by decide +kernel
theorem dX9_refusal_14 : decode cX9_refusal 14 = .ok (.invokespecial 147, 3) := by decide +kernel
theorem dX9_refusal_17 : decode cX9_refusal 17 = .ok (.athrow, 1) := by decide +kernel
theorem dX9_refusal_18 : decode cX9_refusal 18 = .ok (.iload_n 1, 1) := by decide +kernel
theorem dX9_refusal_19 : decode cX9_refusal 19 = .ok (.ifCond .eq 10, 3) := by decide +kernel
theorem dX9_refusal_22 : decode cX9_refusal 22 = .ok (.aload_n 0, 1) := by decide +kernel
theorem dX9_refusal_23 : decode cX9_refusal 23 = .ok (.getfield 72, 3) := by decide +kernel
theorem dX9_refusal_26 : decode cX9_refusal 26 = .ok (.goto 7, 3) := by decide +kernel
theorem dX9_refusal_29 : decode cX9_refusal 29 = .ok (.aload_n 0, 1) := by decide +kernel
theorem dX9_refusal_30 : decode cX9_refusal 30 = .ok (.getfield 69, 3) := by decide +kernel
theorem dX9_refusal_33 : decode cX9_refusal 33 = .ok (.ireturn, 1) := by decide +kernel
theorem dX9_account_0 : decode cX9_account 0 = .ok (.iload_n 1, 1) := by decide +kernel
theorem dX9_account_1 : decode cX9_account 1 = .ok (.tableswitch 172 0 9 #[55, 63, 74, 85, 100, 115, 130, 145, 156, 164], 55) := by decide +kernel
theorem dX9_account_56 : decode cX9_account 56 = .ok (.aload_n 0, 1) := by decide +kernel
theorem dX9_account_57 : decode cX9_account 57 = .ok (.invokevirtual 106, 3) := by decide +kernel
theorem dX9_account_60 : decode cX9_account 60 = .ok (.invokevirtual 110, 3) := by decide +kernel
theorem dX9_account_63 : decode cX9_account 63 = .ok (.ireturn, 1) := by decide +kernel
theorem dX9_account_64 : decode cX9_account 64 = .ok (.aload_n 0, 1) := by decide +kernel
theorem dX9_account_65 : decode cX9_account 65 = .ok (.getfield 10, 3) := by decide +kernel
theorem dX9_account_68 : decode cX9_account 68 = .ok (.getfield 124, 3) := by decide +kernel
theorem dX9_account_71 : decode cX9_account 71 = .ok (.invokevirtual 110, 3) := by decide +kernel
theorem dX9_account_74 : decode cX9_account 74 = .ok (.ireturn, 1) := by decide +kernel
theorem dX9_account_75 : decode cX9_account 75 = .ok (.aload_n 0, 1) := by decide +kernel
theorem dX9_account_76 : decode cX9_account 76 = .ok (.getfield 10, 3) := by decide +kernel
theorem dX9_account_79 : decode cX9_account 79 = .ok (.getfield 128, 3) := by decide +kernel
theorem dX9_account_82 : decode cX9_account 82 = .ok (.getfield 233, 3) := by decide +kernel
theorem dX9_account_85 : decode cX9_account 85 = .ok (.ireturn, 1) := by decide +kernel
theorem dX9_account_86 : decode cX9_account 86 = .ok (.aload_n 0, 1) := by decide +kernel
theorem dX9_account_87 : decode cX9_account 87 = .ok (.getfield 29, 3) := by decide +kernel
theorem dX9_account_90 : decode cX9_account 90 = .ok (.aload_n 0, 1) := by decide +kernel
theorem dX9_account_91 : decode cX9_account 91 = .ok (.getfield 10, 3) := by decide +kernel
theorem dX9_account_94 : decode cX9_account 94 = .ok (.invokevirtual 136, 3) := by decide +kernel
theorem dX9_account_97 : decode cX9_account 97 = .ok (.invokevirtual 339, 3) := by decide +kernel
theorem dX9_account_100 : decode cX9_account 100 = .ok (.ireturn, 1) := by decide +kernel
theorem dX9_account_101 : decode cX9_account 101 = .ok (.aload_n 0, 1) := by decide +kernel
theorem dX9_account_102 : decode cX9_account 102 = .ok (.getfield 29, 3) := by decide +kernel
theorem dX9_account_105 : decode cX9_account 105 = .ok (.aload_n 0, 1) := by decide +kernel
theorem dX9_account_106 : decode cX9_account 106 = .ok (.getfield 10, 3) := by decide +kernel
theorem dX9_account_109 : decode cX9_account 109 = .ok (.invokevirtual 136, 3) := by decide +kernel
theorem dX9_account_112 : decode cX9_account 112 = .ok (.invokevirtual 342, 3) := by decide +kernel
theorem dX9_account_115 : decode cX9_account 115 = .ok (.ireturn, 1) := by decide +kernel
theorem dX9_account_116 : decode cX9_account 116 = .ok (.aload_n 0, 1) := by decide +kernel
theorem dX9_account_117 : decode cX9_account 117 = .ok (.getfield 29, 3) := by decide +kernel
theorem dX9_account_120 : decode cX9_account 120 = .ok (.aload_n 0, 1) := by decide +kernel
theorem dX9_account_121 : decode cX9_account 121 = .ok (.getfield 10, 3) := by decide +kernel
theorem dX9_account_124 : decode cX9_account 124 = .ok (.invokevirtual 136, 3) := by decide +kernel
theorem dX9_account_127 : decode cX9_account 127 = .ok (.invokevirtual 345, 3) := by decide +kernel
theorem dX9_account_130 : decode cX9_account 130 = .ok (.ireturn, 1) := by decide +kernel
theorem dX9_account_131 : decode cX9_account 131 = .ok (.aload_n 0, 1) := by decide +kernel
theorem dX9_account_132 : decode cX9_account 132 = .ok (.getfield 29, 3) := by decide +kernel
theorem dX9_account_135 : decode cX9_account 135 = .ok (.aload_n 0, 1) := by decide +kernel
theorem dX9_account_136 : decode cX9_account 136 = .ok (.getfield 10, 3) := by decide +kernel
theorem dX9_account_139 : decode cX9_account 139 = .ok (.invokevirtual 136, 3) := by decide +kernel
theorem dX9_account_142 : decode cX9_account 142 = .ok (.invokevirtual 348, 3) := by decide +kernel
theorem dX9_account_145 : decode cX9_account 145 = .ok (.ireturn, 1) := by decide +kernel
theorem dX9_account_146 : decode cX9_account 146 = .ok (.aload_n 0, 1) := by decide +kernel
theorem dX9_account_147 : decode cX9_account 147 = .ok (.getfield 10, 3) := by decide +kernel
theorem dX9_account_150 : decode cX9_account 150 = .ok (.getfield 128, 3) := by decide +kernel
theorem dX9_account_153 : decode cX9_account 153 = .ok (.invokevirtual 351, 3) := by decide +kernel
theorem dX9_account_156 : decode cX9_account 156 = .ok (.ireturn, 1) := by decide +kernel
theorem dX9_account_157 : decode cX9_account 157 = .ok (.aload_n 0, 1) := by decide +kernel
theorem dX9_account_158 : decode cX9_account 158 = .ok (.getfield 50, 3) := by decide +kernel
theorem dX9_account_161 : decode cX9_account 161 = .ok (.getfield 314, 3) := by decide +kernel
theorem dX9_account_164 : decode cX9_account 164 = .ok (.ireturn, 1) := by decide +kernel
theorem dX9_account_165 : decode cX9_account 165 = .ok (.aload_n 0, 1) := by decide +kernel
theorem dX9_account_166 : decode cX9_account 166 = .ok (.getfield 22, 3) := by decide +kernel
theorem dX9_account_169 : decode cX9_account 169 = .ok (.getfield 354, 3) := by decide +kernel
theorem dX9_account_172 : decode cX9_account 172 = .ok (.ireturn, 1) := by decide +kernel
theorem dX9_account_173 : decode cX9_account 173 = .ok (.new 79, 3) := by decide +kernel
theorem dX9_account_176 : decode cX9_account 176 = .ok (.dup, 1) := by decide +kernel
theorem dX9_account_177 : decode cX9_account 177 = .ok (.ldc_w 355, 3) := by decide +kernel
theorem dX9_account_180 : decode cX9_account 180 = .ok (.invokespecial 83, 3) := by decide +kernel
theorem dX9_account_183 : decode cX9_account 183 = .ok (.athrow, 1) := by decide +kernel
theorem dX9_isWell_0 : decode cX9_isWell 0 = .ok (.aload_n 0, 1) := by decide +kernel
theorem dX9_isWell_1 : decode cX9_isWell 1 = .ok (.getfield 29, 3) := by decide +kernel
theorem dX9_isWell_4 : decode cX9_isWell 4 = .ok (.aload_n 0, 1) := by decide +kernel
theorem dX9_isWell_5 : decode cX9_isWell 5 = .ok (.getfield 10, 3) := by decide +kernel
theorem dX9_isWell_8 : decode cX9_isWell 8 = .ok (.invokevirtual 136, 3) := by decide +kernel
theorem dX9_isWell_11 : decode cX9_isWell 11 = .ok (.astore_n 1, 1) := by decide +kernel
theorem dX9_isWell_12 : decode cX9_isWell 12 = .ok (.aload_n 0, 1) := by decide +kernel
theorem dX9_isWell_13 : decode cX9_isWell 13 = .ok (.getfield 36, 3) := by decide +kernel
theorem dX9_isWell_16 : decode cX9_isWell 16 = .ok (.aload_n 0, 1) := by decide +kernel
theorem dX9_isWell_17 : decode cX9_isWell 17 = .ok (.getfield 10, 3) := by decide +kernel
theorem dX9_isWell_20 : decode cX9_isWell 20 = .ok (.getfield 124, 3) := by decide +kernel
theorem dX9_isWell_23 : decode cX9_isWell 23 = .ok (.aload_n 0, 1) := by decide +kernel
theorem dX9_isWell_24 : decode cX9_isWell 24 = .ok (.getfield 10, 3) := by decide +kernel
theorem dX9_isWell_27 : decode cX9_isWell 27 = .ok (.getfield 128, 3) := by decide +kernel
theorem dX9_isWell_30 : decode cX9_isWell 30 = .ok (.invokevirtual 132, 3) := by decide +kernel
theorem dX9_isWell_33 : decode cX9_isWell 33 = .ok (.astore_n 2, 1) := by decide +kernel
theorem dX9_isWell_34 : decode cX9_isWell 34 = .ok (.aload_n 2, 1) := by decide +kernel
theorem dX9_isWell_35 : decode cX9_isWell 35 = .ok (.aload_n 1, 1) := by decide +kernel
theorem dX9_isWell_36 : decode cX9_isWell 36 = .ok (.getfield 140, 3) := by decide +kernel
theorem dX9_isWell_39 : decode cX9_isWell 39 = .ok (.invokevirtual 357, 3) := by decide +kernel
theorem dX9_isWell_42 : decode cX9_isWell 42 = .ok (.ifCond .eq 35, 3) := by decide +kernel
theorem dX9_isWell_45 : decode cX9_isWell 45 = .ok (.aload_n 0, 1) := by decide +kernel
theorem dX9_isWell_46 : decode cX9_isWell 46 = .ok (.getfield 10, 3) := by decide +kernel
theorem dX9_isWell_49 : decode cX9_isWell 49 = .ok (.getfield 128, 3) := by decide +kernel
theorem dX9_isWell_52 : decode cX9_isWell 52 = .ok (.aload_n 1, 1) := by decide +kernel
theorem dX9_isWell_53 : decode cX9_isWell 53 = .ok (.getfield 140, 3) := by decide +kernel
theorem dX9_isWell_56 : decode cX9_isWell 56 = .ok (.invokevirtual 361, 3) := by decide +kernel
theorem dX9_isWell_59 : decode cX9_isWell 59 = .ok (.ifCond .eq 18, 3) := by decide +kernel
theorem dX9_isWell_62 : decode cX9_isWell 62 = .ok (.aload_n 1, 1) := by decide +kernel
theorem dX9_isWell_63 : decode cX9_isWell 63 = .ok (.aload_n 0, 1) := by decide +kernel
theorem dX9_isWell_64 : decode cX9_isWell 64 = .ok (.getfield 10, 3) := by decide +kernel
theorem dX9_isWell_67 : decode cX9_isWell 67 = .ok (.invokevirtual 364, 3) := by decide +kernel
theorem dX9_isWell_70 : decode cX9_isWell 70 = .ok (.ifCond .eq 7, 3) := by decide +kernel
theorem dX9_isWell_73 : decode cX9_isWell 73 = .ok (.iconst 1, 1) := by decide +kernel
theorem dX9_isWell_74 : decode cX9_isWell 74 = .ok (.goto 4, 3) := by decide +kernel
theorem dX9_isWell_77 : decode cX9_isWell 77 = .ok (.iconst 0, 1) := by decide +kernel
theorem dX9_isWell_78 : decode cX9_isWell 78 = .ok (.ireturn, 1) := by decide +kernel
theorem dX9_meanDepth_0 : decode cX9_meanDepth 0 = .ok (.aload_n 0, 1) := by decide +kernel
theorem dX9_meanDepth_1 : decode cX9_meanDepth 1 = .ok (.invokevirtual 106, 3) := by decide +kernel
theorem dX9_meanDepth_4 : decode cX9_meanDepth 4 = .ok (.invokevirtual 110, 3) := by decide +kernel
theorem dX9_meanDepth_7 : decode cX9_meanDepth 7 = .ok (.istore_n 1, 1) := by decide +kernel
theorem dX9_meanDepth_8 : decode cX9_meanDepth 8 = .ok (.iload_n 1, 1) := by decide +kernel
theorem dX9_meanDepth_9 : decode cX9_meanDepth 9 = .ok (.ifCond .ne 14, 3) := by decide +kernel
theorem dX9_meanDepth_12 : decode cX9_meanDepth 12 = .ok (.new 368, 3) := by decide +kernel
theorem dX9_meanDepth_15 : decode cX9_meanDepth 15 = .ok (.dup, 1) := by decide +kernel
theorem dX9_meanDepth_16 : decode cX9_meanDepth 16 = .ok (.ldc_w 370, 3) := by decide +kernel
theorem dX9_meanDepth_19 : decode cX9_meanDepth 19 = .ok (.invokespecial 372, 3) := by decide +kernel
theorem dX9_meanDepth_22 : decode cX9_meanDepth 22 = .ok (.athrow, 1) := by decide +kernel
theorem dX9_meanDepth_23 : decode cX9_meanDepth 23 = .ok (.aload_n 0, 1) := by decide +kernel
theorem dX9_meanDepth_24 : decode cX9_meanDepth 24 = .ok (.getfield 29, 3) := by decide +kernel
theorem dX9_meanDepth_27 : decode cX9_meanDepth 27 = .ok (.aload_n 0, 1) := by decide +kernel
theorem dX9_meanDepth_28 : decode cX9_meanDepth 28 = .ok (.getfield 10, 3) := by decide +kernel
theorem dX9_meanDepth_31 : decode cX9_meanDepth 31 = .ok (.invokevirtual 136, 3) := by decide +kernel
theorem dX9_meanDepth_34 : decode cX9_meanDepth 34 = .ok (.invokevirtual 373, 3) := by decide +kernel
theorem dX9_meanDepth_37 : decode cX9_meanDepth 37 = .ok (.i2d, 1) := by decide +kernel
theorem dX9_meanDepth_38 : decode cX9_meanDepth 38 = .ok (.iload_n 1, 1) := by decide +kernel
theorem dX9_meanDepth_39 : decode cX9_meanDepth 39 = .ok (.i2d, 1) := by decide +kernel
theorem dX9_meanDepth_40 : decode cX9_meanDepth 40 = .ok (.ddiv, 1) := by decide +kernel
theorem dX9_meanDepth_41 : decode cX9_meanDepth 41 = .ok (.dreturn, 1) := by decide +kernel
theorem dX9_toldShare_0 : decode cX9_toldShare 0 = .ok (.aload_n 0, 1) := by decide +kernel
theorem dX9_toldShare_1 : decode cX9_toldShare 1 = .ok (.invokevirtual 106, 3) := by decide +kernel
theorem dX9_toldShare_4 : decode cX9_toldShare 4 = .ok (.invokevirtual 110, 3) := by decide +kernel
theorem dX9_toldShare_7 : decode cX9_toldShare 7 = .ok (.istore_n 1, 1) := by decide +kernel
theorem dX9_toldShare_8 : decode cX9_toldShare 8 = .ok (.iload_n 1, 1) := by decide +kernel
theorem dX9_toldShare_9 : decode cX9_toldShare 9 = .ok (.ifCond .ne 14, 3) := by decide +kernel
theorem dX9_toldShare_12 : decode cX9_toldShare 12 = .ok (.new 368, 3) := by decide +kernel
theorem dX9_toldShare_15 : decode cX9_toldShare 15 = .ok (.dup, 1) := by decide +kernel
theorem dX9_toldShare_16 : decode cX9_toldShare 16 = .ok (.ldc_w 370, 3) := by decide +kernel
theorem dX9_toldShare_19 : decode cX9_toldShare 19 = .ok (.invokespecial 372, 3) := by decide +kernel
theorem dX9_toldShare_22 : decode cX9_toldShare 22 = .ok (.athrow, 1) := by decide +kernel
theorem dX9_toldShare_23 : decode cX9_toldShare 23 = .ok (.aload_n 0, 1) := by decide +kernel
theorem dX9_toldShare_24 : decode cX9_toldShare 24 = .ok (.getfield 10, 3) := by decide +kernel
theorem dX9_toldShare_27 : decode cX9_toldShare 27 = .ok (.getfield 124, 3) := by decide +kernel
theorem dX9_toldShare_30 : decode cX9_toldShare 30 = .ok (.invokevirtual 110, 3) := by decide +kernel
theorem dX9_toldShare_33 : decode cX9_toldShare 33 = .ok (.i2f, 1) := by decide +kernel
theorem dX9_toldShare_34 : decode cX9_toldShare 34 = .ok (.iload_n 1, 1) := by decide +kernel
theorem dX9_toldShare_35 : decode cX9_toldShare 35 = .ok (.i2f, 1) := by decide +kernel
theorem dX9_toldShare_36 : decode cX9_toldShare 36 = .ok (.fdiv, 1) := by decide +kernel
theorem dX9_toldShare_37 : decode cX9_toldShare 37 = .ok (.freturn, 1) := by decide +kernel
theorem dX9_undo_0 : decode cX9_undo 0 = .ok (.aload_n 0, 1) := by decide +kernel
theorem dX9_undo_1 : decode cX9_undo 1 = .ok (.getfield 22, 3) := by decide +kernel
theorem dX9_undo_4 : decode cX9_undo 4 = .ok (.getfield 354, 3) := by decide +kernel
theorem dX9_undo_7 : decode cX9_undo 7 = .ok (.ifCond .ne 14, 3) := by decide +kernel
theorem dX9_undo_10 : decode cX9_undo 10 = .ok (.new 309, 3) := by decide +kernel
theorem dX9_undo_13 : decode cX9_undo 13 = .ok (.dup, 1) := by decide +kernel
theorem dX9_undo_14 : decode cX9_undo 14 = .ok (.ldc_w 376, 3) := by decide +kernel
theorem dX9_undo_17 : decode cX9_undo 17 = .ok (.invokespecial 313, 3) := by decide +kernel
theorem dX9_undo_20 : decode cX9_undo 20 = .ok (.athrow, 1) := by decide +kernel
theorem dX9_undo_21 : decode cX9_undo 21 = .ok (.aload_n 0, 1) := by decide +kernel
theorem dX9_undo_22 : decode cX9_undo 22 = .ok (.getfield 22, 3) := by decide +kernel
theorem dX9_undo_25 : decode cX9_undo 25 = .ok (.aload_n 0, 1) := by decide +kernel
theorem dX9_undo_26 : decode cX9_undo 26 = .ok (.getfield 10, 3) := by decide +kernel
theorem dX9_undo_29 : decode cX9_undo 29 = .ok (.invokevirtual 378, 3) := by decide +kernel
theorem dX9_undo_32 : decode cX9_undo 32 = .ok (.aload_n 0, 1) := by decide +kernel
theorem dX9_undo_33 : decode cX9_undo 33 = .ok (.getfield 29, 3) := by decide +kernel
theorem dX9_undo_36 : decode cX9_undo 36 = .ok (.invokevirtual 330, 3) := by decide +kernel
theorem dX9_undo_39 : decode cX9_undo 39 = .ok (.aload_n 0, 1) := by decide +kernel
theorem dX9_undo_40 : decode cX9_undo 40 = .ok (.getfield 22, 3) := by decide +kernel
theorem dX9_undo_43 : decode cX9_undo 43 = .ok (.getfield 354, 3) := by decide +kernel
theorem dX9_undo_46 : decode cX9_undo 46 = .ok (.ireturn, 1) := by decide +kernel
theorem dX9_save_0 : decode cX9_save 0 = .ok (.aload_n 0, 1) := by decide +kernel
theorem dX9_save_1 : decode cX9_save 1 = .ok (.getfield 16, 3) := by decide +kernel
theorem dX9_save_4 : decode cX9_save 4 = .ok (.aload_n 0, 1) := by decide +kernel
theorem dX9_save_5 : decode cX9_save 5 = .ok (.getfield 10, 3) := by decide +kernel
theorem dX9_save_8 : decode cX9_save 8 = .ok (.invokevirtual 381, 3) := by decide +kernel
theorem dX9_save_11 : decode cX9_save 11 = .ok (.aload_n 0, 1) := by decide +kernel
theorem dX9_save_12 : decode cX9_save 12 = .ok (.iconst 1, 1) := by decide +kernel
theorem dX9_save_13 : decode cX9_save 13 = .ok (.putfield 61, 3) := by decide +kernel
theorem dX9_save_16 : decode cX9_save 16 = .ok (.aload_n 0, 1) := by decide +kernel
theorem dX9_save_17 : decode cX9_save 17 = .ok (.getfield 10, 3) := by decide +kernel
theorem dX9_save_20 : decode cX9_save 20 = .ok (.getfield 124, 3) := by decide +kernel
theorem dX9_save_23 : decode cX9_save 23 = .ok (.invokevirtual 110, 3) := by decide +kernel
theorem dX9_save_26 : decode cX9_save 26 = .ok (.ireturn, 1) := by decide +kernel
theorem dX9_restore_0 : decode cX9_restore 0 = .ok (.aload_n 0, 1) := by decide +kernel
theorem dX9_restore_1 : decode cX9_restore 1 = .ok (.getfield 61, 3) := by decide +kernel
theorem dX9_restore_4 : decode cX9_restore 4 = .ok (.ifCond .ne 14, 3) := by decide +kernel
theorem dX9_restore_7 : decode cX9_restore 7 = .ok (.new 309, 3) := by decide +kernel
theorem dX9_restore_10 : decode cX9_restore 10 = .ok (.dup, 1) := by decide +kernel
theorem dX9_restore_11 : decode cX9_restore 11 = .ok (.ldc_w 384, 3) := by decide +kernel
theorem dX9_restore_14 : decode cX9_restore 14 = .ok (.invokespecial 313, 3) := by decide +kernel
theorem dX9_restore_17 : decode cX9_restore 17 = .ok (.athrow, 1) := by decide +kernel
theorem dX9_restore_18 : decode cX9_restore 18 = .ok (.aload_n 0, 1) := by decide +kernel
theorem dX9_restore_19 : decode cX9_restore 19 = .ok (.getfield 10, 3) := by decide +kernel
theorem dX9_restore_22 : decode cX9_restore 22 = .ok (.aload_n 0, 1) := by decide +kernel
theorem dX9_restore_23 : decode cX9_restore 23 = .ok (.getfield 16, 3) := by decide +kernel
theorem dX9_restore_26 : decode cX9_restore 26 = .ok (.invokevirtual 381, 3) := by decide +kernel
theorem dX9_restore_29 : decode cX9_restore 29 = .ok (.aload_n 0, 1) := by decide +kernel
theorem dX9_restore_30 : decode cX9_restore 30 = .ok (.getfield 22, 3) := by decide +kernel
theorem dX9_restore_33 : decode cX9_restore 33 = .ok (.invokevirtual 386, 3) := by decide +kernel
theorem dX9_restore_36 : decode cX9_restore 36 = .ok (.aload_n 0, 1) := by decide +kernel
theorem dX9_restore_37 : decode cX9_restore 37 = .ok (.getfield 29, 3) := by decide +kernel
theorem dX9_restore_40 : decode cX9_restore 40 = .ok (.invokevirtual 330, 3) := by decide +kernel
theorem dX9_restore_43 : decode cX9_restore 43 = .ok (.aload_n 0, 1) := by decide +kernel
theorem dX9_restore_44 : decode cX9_restore 44 = .ok (.getfield 10, 3) := by decide +kernel
theorem dX9_restore_47 : decode cX9_restore 47 = .ok (.getfield 124, 3) := by decide +kernel
theorem dX9_restore_50 : decode cX9_restore 50 = .ok (.invokevirtual 110, 3) := by decide +kernel
theorem dX9_restore_53 : decode cX9_restore 53 = .ok (.ireturn, 1) := by decide +kernel
theorem dX9_isRelation_0 : decode cX9_isRelation 0 = .ok (.iload_n 0, 1) := by decide +kernel
theorem dX9_isRelation_1 : decode cX9_isRelation 1 = .ok (.ifCond .lt 13, 3) := by decide +kernel
theorem dX9_isRelation_4 : decode cX9_isRelation 4 = .ok (.iload_n 0, 1) := by decide +kernel
theorem dX9_isRelation_5 : decode cX9_isRelation 5 = .ok (.bipush 6, 2) := by decide +kernel
theorem dX9_isRelation_7 : decode cX9_isRelation 7 = .ok (.if_icmp .ge 7, 3) := by decide +kernel
theorem dX9_isRelation_10 : decode cX9_isRelation 10 = .ok (.iconst 1, 1) := by decide +kernel
theorem dX9_isRelation_11 : decode cX9_isRelation 11 = .ok (.goto 4, 3) := by decide +kernel
theorem dX9_isRelation_14 : decode cX9_isRelation 14 = .ok (.iconst 0, 1) := by decide +kernel
theorem dX9_isRelation_15 : decode cX9_isRelation 15 = .ok (.ireturn, 1) := by decide +kernel
theorem dX9_isPerson_0 : decode cX9_isPerson 0 = .ok (.iload_n 0, 1) := by decide +kernel
theorem dX9_isPerson_1 : decode cX9_isPerson 1 = .ok (.ifCond .lt 13, 3) := by decide +kernel
theorem dX9_isPerson_4 : decode cX9_isPerson 4 = .ok (.iload_n 0, 1) := by decide +kernel
theorem dX9_isPerson_5 : decode cX9_isPerson 5 = .ok (.bipush 6, 2) := by decide +kernel
theorem dX9_isPerson_7 : decode cX9_isPerson 7 = .ok (.if_icmp .ge 7, 3) := by decide +kernel
theorem dX9_isPerson_10 : decode cX9_isPerson 10 = .ok (.iconst 1, 1) := by decide +kernel
theorem dX9_isPerson_11 : decode cX9_isPerson 11 = .ok (.goto 4, 3) := by decide +kernel
theorem dX9_isPerson_14 : decode cX9_isPerson 14 = .ok (.iconst 0, 1) := by decide +kernel
theorem dX9_isPerson_15 : decode cX9_isPerson 15 = .ok (.ireturn, 1) := by decide +kernel
theorem dX9_isFact_0 : decode cX9_isFact 0 = .ok (.iload_n 0, 1) := by decide +kernel
theorem dX9_isFact_1 : decode cX9_isFact 1 = .ok (.invokestatic 184, 3) := by decide +kernel
theorem dX9_isFact_4 : decode cX9_isFact 4 = .ok (.ifCond .eq 21, 3) := by decide +kernel
theorem dX9_isFact_7 : decode cX9_isFact 7 = .ok (.iload_n 1, 1) := by decide +kernel
theorem dX9_isFact_8 : decode cX9_isFact 8 = .ok (.invokestatic 187, 3) := by decide +kernel
theorem dX9_isFact_11 : decode cX9_isFact 11 = .ok (.ifCond .eq 14, 3) := by decide +kernel
theorem dX9_isFact_14 : decode cX9_isFact 14 = .ok (.iload_n 2, 1) := by decide +kernel
theorem dX9_isFact_15 : decode cX9_isFact 15 = .ok (.invokestatic 187, 3) := by decide +kernel
theorem dX9_isFact_18 : decode cX9_isFact 18 = .ok (.ifCond .eq 7, 3) := by decide +kernel
theorem dX9_isFact_21 : decode cX9_isFact 21 = .ok (.iconst 1, 1) := by decide +kernel
theorem dX9_isFact_22 : decode cX9_isFact 22 = .ok (.goto 4, 3) := by decide +kernel
theorem dX9_isFact_25 : decode cX9_isFact 25 = .ok (.iconst 0, 1) := by decide +kernel
theorem dX9_isFact_26 : decode cX9_isFact 26 = .ok (.ireturn, 1) := by decide +kernel
theorem dX9_isCode_0 : decode cX9_isCode 0 = .ok (.iload_n 0, 1) := by decide +kernel
theorem dX9_isCode_1 : decode cX9_isCode 1 = .ok (.ifCond .eq 19, 3) := by decide +kernel
theorem dX9_isCode_4 : decode cX9_isCode 4 = .ok (.iload_n 0, 1) := by decide +kernel
theorem dX9_isCode_5 : decode cX9_isCode 5 = .ok (.bipush (-54), 2) := by decide +kernel
theorem dX9_isCode_7 : decode cX9_isCode 7 = .ok (.if_icmp .lt 13, 3) := by decide +kernel
theorem dX9_isCode_10 : decode cX9_isCode 10 = .ok (.iload_n 0, 1) := by decide +kernel
theorem dX9_isCode_11 : decode cX9_isCode 11 = .ok (.bipush 54, 2) := by decide +kernel
theorem dX9_isCode_13 : decode cX9_isCode 13 = .ok (.if_icmp .gt 7, 3) := by decide +kernel
theorem dX9_isCode_16 : decode cX9_isCode 16 = .ok (.iconst 1, 1) := by decide +kernel
theorem dX9_isCode_17 : decode cX9_isCode 17 = .ok (.goto 4, 3) := by decide +kernel
theorem dX9_isCode_20 : decode cX9_isCode 20 = .ok (.iconst 0, 1) := by decide +kernel
theorem dX9_isCode_21 : decode cX9_isCode 21 = .ok (.ireturn, 1) := by decide +kernel
theorem dX9_isRule_0 : decode cX9_isRule 0 = .ok (.iload_n 0, 1) := by decide +kernel
theorem dX9_isRule_1 : decode cX9_isRule 1 = .ok (.invokestatic 184, 3) := by decide +kernel
theorem dX9_isRule_4 : decode cX9_isRule 4 = .ok (.ifCond .eq 10, 3) := by decide +kernel
theorem dX9_isRule_7 : decode cX9_isRule 7 = .ok (.iload_n 1, 1) := by decide +kernel
theorem dX9_isRule_8 : decode cX9_isRule 8 = .ok (.invokestatic 389, 3) := by decide +kernel
theorem dX9_isRule_11 : decode cX9_isRule 11 = .ok (.ifCond .ne 5, 3) := by decide +kernel
theorem dX9_isRule_14 : decode cX9_isRule 14 = .ok (.iconst 0, 1) := by decide +kernel
theorem dX9_isRule_15 : decode cX9_isRule 15 = .ok (.ireturn, 1) := by decide +kernel
theorem dX9_isRule_16 : decode cX9_isRule 16 = .ok (.iload_n 2, 1) := by decide +kernel
theorem dX9_isRule_17 : decode cX9_isRule 17 = .ok (.ifCond .ne 13, 3) := by decide +kernel
theorem dX9_isRule_20 : decode cX9_isRule 20 = .ok (.iload_n 3, 1) := by decide +kernel
theorem dX9_isRule_21 : decode cX9_isRule 21 = .ok (.ifCond .ne 7, 3) := by decide +kernel
theorem dX9_isRule_24 : decode cX9_isRule 24 = .ok (.iconst 1, 1) := by decide +kernel
theorem dX9_isRule_25 : decode cX9_isRule 25 = .ok (.goto 4, 3) := by decide +kernel
theorem dX9_isRule_28 : decode cX9_isRule 28 = .ok (.iconst 0, 1) := by decide +kernel
theorem dX9_isRule_29 : decode cX9_isRule 29 = .ok (.ireturn, 1) := by decide +kernel
theorem dX9_isRule_30 : decode cX9_isRule 30 = .ok (.iload_n 2, 1) := by decide +kernel
theorem dX9_isRule_31 : decode cX9_isRule 31 = .ok (.invokestatic 389, 3) := by decide +kernel
theorem dX9_isRule_34 : decode cX9_isRule 34 = .ok (.ifCond .eq 18, 3) := by decide +kernel
theorem dX9_isRule_37 : decode cX9_isRule 37 = .ok (.iload_n 3, 1) := by decide +kernel
theorem dX9_isRule_38 : decode cX9_isRule 38 = .ok (.ifCond .eq 10, 3) := by decide +kernel
theorem dX9_isRule_41 : decode cX9_isRule 41 = .ok (.iload_n 3, 1) := by decide +kernel
theorem dX9_isRule_42 : decode cX9_isRule 42 = .ok (.invokestatic 389, 3) := by decide +kernel
theorem dX9_isRule_45 : decode cX9_isRule 45 = .ok (.ifCond .eq 7, 3) := by decide +kernel
theorem dX9_isRule_48 : decode cX9_isRule 48 = .ok (.iconst 1, 1) := by decide +kernel
theorem dX9_isRule_49 : decode cX9_isRule 49 = .ok (.goto 4, 3) := by decide +kernel
theorem dX9_isRule_52 : decode cX9_isRule 52 = .ok (.iconst 0, 1) := by decide +kernel
theorem dX9_isRule_53 : decode cX9_isRule 53 = .ok (.ireturn, 1) := by decide +kernel
theorem dX9_numberOf_0 : decode cX9_numberOf 0 = .ok (.bipush 36, 2) := by decide +kernel
theorem dX9_numberOf_2 : decode cX9_numberOf 2 = .ok (.iload_n 0, 1) := by decide +kernel
theorem dX9_numberOf_3 : decode cX9_numberOf 3 = .ok (.imul, 1) := by decide +kernel
theorem dX9_numberOf_4 : decode cX9_numberOf 4 = .ok (.bipush 6, 2) := by decide +kernel
theorem dX9_numberOf_6 : decode cX9_numberOf 6 = .ok (.iload_n 1, 1) := by decide +kernel
theorem dX9_numberOf_7 : decode cX9_numberOf 7 = .ok (.imul, 1) := by decide +kernel
theorem dX9_numberOf_8 : decode cX9_numberOf 8 = .ok (.iadd, 1) := by decide +kernel
theorem dX9_numberOf_9 : decode cX9_numberOf 9 = .ok (.iload_n 2, 1) := by decide +kernel
theorem dX9_numberOf_10 : decode cX9_numberOf 10 = .ok (.iadd, 1) := by decide +kernel
theorem dX9_numberOf_11 : decode cX9_numberOf 11 = .ok (.ireturn, 1) := by decide +kernel
theorem dX9_codeOf_0 : decode cX9_codeOf 0 = .ok (.iconst 1, 1) := by decide +kernel
theorem dX9_codeOf_1 : decode cX9_codeOf 1 = .ok (.bipush 9, 2) := by decide +kernel
theorem dX9_codeOf_3 : decode cX9_codeOf 3 = .ok (.iload_n 0, 1) := by decide +kernel
theorem dX9_codeOf_4 : decode cX9_codeOf 4 = .ok (.imul, 1) := by decide +kernel
theorem dX9_codeOf_5 : decode cX9_codeOf 5 = .ok (.iadd, 1) := by decide +kernel
theorem dX9_codeOf_6 : decode cX9_codeOf 6 = .ok (.iconst 3, 1) := by decide +kernel
theorem dX9_codeOf_7 : decode cX9_codeOf 7 = .ok (.iload_n 1, 1) := by decide +kernel
theorem dX9_codeOf_8 : decode cX9_codeOf 8 = .ok (.imul, 1) := by decide +kernel
theorem dX9_codeOf_9 : decode cX9_codeOf 9 = .ok (.iadd, 1) := by decide +kernel
theorem dX9_codeOf_10 : decode cX9_codeOf 10 = .ok (.iload_n 2, 1) := by decide +kernel
theorem dX9_codeOf_11 : decode cX9_codeOf 11 = .ok (.iadd, 1) := by decide +kernel
theorem dX9_codeOf_12 : decode cX9_codeOf 12 = .ok (.ireturn, 1) := by decide +kernel
theorem dX9_relationIn_0 : decode cX9_relationIn 0 = .ok (.iload_n 0, 1) := by decide +kernel
theorem dX9_relationIn_1 : decode cX9_relationIn 1 = .ok (.ifCond .ge 8, 3) := by decide +kernel
theorem dX9_relationIn_4 : decode cX9_relationIn 4 = .ok (.iload_n 0, 1) := by decide +kernel
theorem dX9_relationIn_5 : decode cX9_relationIn 5 = .ok (.ineg, 1) := by decide +kernel
theorem dX9_relationIn_6 : decode cX9_relationIn 6 = .ok (.goto 4, 3) := by decide +kernel
theorem dX9_relationIn_9 : decode cX9_relationIn 9 = .ok (.iload_n 0, 1) := by decide +kernel
theorem dX9_relationIn_10 : decode cX9_relationIn 10 = .ok (.iconst 1, 1) := by decide +kernel
theorem dX9_relationIn_11 : decode cX9_relationIn 11 = .ok (.isub, 1) := by decide +kernel
theorem dX9_relationIn_12 : decode cX9_relationIn 12 = .ok (.bipush 9, 2) := by decide +kernel
theorem dX9_relationIn_14 : decode cX9_relationIn 14 = .ok (.idiv, 1) := by decide +kernel
theorem dX9_relationIn_15 : decode cX9_relationIn 15 = .ok (.ireturn, 1) := by decide +kernel
theorem dX9_firstIn_0 : decode cX9_firstIn 0 = .ok (.iload_n 0, 1) := by decide +kernel
theorem dX9_firstIn_1 : decode cX9_firstIn 1 = .ok (.ifCond .ge 8, 3) := by decide +kernel
theorem dX9_firstIn_4 : decode cX9_firstIn 4 = .ok (.iload_n 0, 1) := by decide +kernel
theorem dX9_firstIn_5 : decode cX9_firstIn 5 = .ok (.ineg, 1) := by decide +kernel
theorem dX9_firstIn_6 : decode cX9_firstIn 6 = .ok (.goto 4, 3) := by decide +kernel
theorem dX9_firstIn_9 : decode cX9_firstIn 9 = .ok (.iload_n 0, 1) := by decide +kernel
theorem dX9_firstIn_10 : decode cX9_firstIn 10 = .ok (.iconst 1, 1) := by decide +kernel
theorem dX9_firstIn_11 : decode cX9_firstIn 11 = .ok (.isub, 1) := by decide +kernel
theorem dX9_firstIn_12 : decode cX9_firstIn 12 = .ok (.iconst 3, 1) := by decide +kernel
theorem dX9_firstIn_13 : decode cX9_firstIn 13 = .ok (.idiv, 1) := by decide +kernel
theorem dX9_firstIn_14 : decode cX9_firstIn 14 = .ok (.iconst 3, 1) := by decide +kernel
theorem dX9_firstIn_15 : decode cX9_firstIn 15 = .ok (.irem, 1) := by decide +kernel
theorem dX9_firstIn_16 : decode cX9_firstIn 16 = .ok (.ireturn, 1) := by decide +kernel
theorem dX9_secondIn_0 : decode cX9_secondIn 0 = .ok (.iload_n 0, 1) := by decide +kernel
theorem dX9_secondIn_1 : decode cX9_secondIn 1 = .ok (.ifCond .ge 8, 3) := by decide +kernel
theorem dX9_secondIn_4 : decode cX9_secondIn 4 = .ok (.iload_n 0, 1) := by decide +kernel
theorem dX9_secondIn_5 : decode cX9_secondIn 5 = .ok (.ineg, 1) := by decide +kernel
theorem dX9_secondIn_6 : decode cX9_secondIn 6 = .ok (.goto 4, 3) := by decide +kernel
theorem dX9_secondIn_9 : decode cX9_secondIn 9 = .ok (.iload_n 0, 1) := by decide +kernel
theorem dX9_secondIn_10 : decode cX9_secondIn 10 = .ok (.iconst 1, 1) := by decide +kernel
theorem dX9_secondIn_11 : decode cX9_secondIn 11 = .ok (.isub, 1) := by decide +kernel
theorem dX9_secondIn_12 : decode cX9_secondIn 12 = .ok (.iconst 3, 1) := by decide +kernel
theorem dX9_secondIn_13 : decode cX9_secondIn 13 = .ok (.irem, 1) := by decide +kernel
theorem dX9_secondIn_14 : decode cX9_secondIn 14 = .ok (.ireturn, 1) := by decide +kernel
theorem dX9_lowestOf_0 : decode cX9_lowestOf 0 = .ok (.iconst 0, 1) := by decide +kernel
theorem dX9_lowestOf_1 : decode cX9_lowestOf 1 = .ok (.istore_n 1, 1) := by decide +kernel
theorem dX9_lowestOf_2 : decode cX9_lowestOf 2 = .ok (.iload_n 1, 1) := by decide +kernel
theorem dX9_lowestOf_3 : decode cX9_lowestOf 3 = .ok (.bipush 6, 2) := by decide +kernel
theorem dX9_lowestOf_5 : decode cX9_lowestOf 5 = .ok (.if_icmp .ge 19, 3) := by decide +kernel
theorem dX9_lowestOf_8 : decode cX9_lowestOf 8 = .ok (.iload_n 0, 1) := by decide +kernel
theorem dX9_lowestOf_9 : decode cX9_lowestOf 9 = .ok (.iload_n 1, 1) := by decide +kernel
theorem dX9_lowestOf_10 : decode cX9_lowestOf 10 = .ok (.ishr, 1) := by decide +kernel
theorem dX9_lowestOf_11 : decode cX9_lowestOf 11 = .ok (.iconst 1, 1) := by decide +kernel
theorem dX9_lowestOf_12 : decode cX9_lowestOf 12 = .ok (.iand, 1) := by decide +kernel
theorem dX9_lowestOf_13 : decode cX9_lowestOf 13 = .ok (.ifCond .eq 5, 3) := by decide +kernel
theorem dX9_lowestOf_16 : decode cX9_lowestOf 16 = .ok (.iload_n 1, 1) := by decide +kernel
theorem dX9_lowestOf_17 : decode cX9_lowestOf 17 = .ok (.ireturn, 1) := by decide +kernel
theorem dX9_lowestOf_18 : decode cX9_lowestOf 18 = .ok (.iinc 1 1, 3) := by decide +kernel
theorem dX9_lowestOf_21 : decode cX9_lowestOf 21 = .ok (.goto (-19), 3) := by decide +kernel
theorem dX9_lowestOf_24 : decode cX9_lowestOf 24 = .ok (.iconst 0, 1) := by decide +kernel
theorem dX9_lowestOf_25 : decode cX9_lowestOf 25 = .ok (.ireturn, 1) := by decide +kernel
theorem dX9_rankOf_0 : decode cX9_rankOf 0 = .ok (.aload_n 1, 1) := by decide +kernel
theorem dX9_rankOf_1 : decode cX9_rankOf 1 = .ok (.iload_n 0, 1) := by decide +kernel
theorem dX9_rankOf_2 : decode cX9_rankOf 2 = .ok (.invokevirtual 196, 3) := by decide +kernel
theorem dX9_rankOf_5 : decode cX9_rankOf 5 = .ok (.istore_n 2, 1) := by decide +kernel
theorem dX9_rankOf_6 : decode cX9_rankOf 6 = .ok (.iconst 0, 1) := by decide +kernel
theorem dX9_rankOf_7 : decode cX9_rankOf 7 = .ok (.istore_n 3, 1) := by decide +kernel
theorem dX9_rankOf_8 : decode cX9_rankOf 8 = .ok (.iconst 0, 1) := by decide +kernel
theorem dX9_rankOf_9 : decode cX9_rankOf 9 = .ok (.istore 4, 2) := by decide +kernel
theorem dX9_rankOf_11 : decode cX9_rankOf 11 = .ok (.iload 4, 2) := by decide +kernel
theorem dX9_rankOf_13 : decode cX9_rankOf 13 = .ok (.bipush 6, 2) := by decide +kernel
theorem dX9_rankOf_15 : decode cX9_rankOf 15 = .ok (.if_icmp .ge 38, 3) := by decide +kernel
theorem dX9_rankOf_18 : decode cX9_rankOf 18 = .ok (.aload_n 1, 1) := by decide +kernel
theorem dX9_rankOf_19 : decode cX9_rankOf 19 = .ok (.iload 4, 2) := by decide +kernel
theorem dX9_rankOf_21 : decode cX9_rankOf 21 = .ok (.invokevirtual 196, 3) := by decide +kernel
theorem dX9_rankOf_24 : decode cX9_rankOf 24 = .ok (.istore 5, 2) := by decide +kernel
theorem dX9_rankOf_26 : decode cX9_rankOf 26 = .ok (.iload 5, 2) := by decide +kernel
theorem dX9_rankOf_28 : decode cX9_rankOf 28 = .ok (.iload_n 2, 1) := by decide +kernel
theorem dX9_rankOf_29 : decode cX9_rankOf 29 = .ok (.if_icmp .gt 15, 3) := by decide +kernel
theorem dX9_rankOf_32 : decode cX9_rankOf 32 = .ok (.iload 5, 2) := by decide +kernel
theorem dX9_rankOf_34 : decode cX9_rankOf 34 = .ok (.iload_n 2, 1) := by decide +kernel
theorem dX9_rankOf_35 : decode cX9_rankOf 35 = .ok (.if_icmp .ne 12, 3) := by decide +kernel
theorem dX9_rankOf_38 : decode cX9_rankOf 38 = .ok (.iload 4, 2) := by decide +kernel
theorem dX9_rankOf_40 : decode cX9_rankOf 40 = .ok (.iload_n 0, 1) := by decide +kernel
theorem dX9_rankOf_41 : decode cX9_rankOf 41 = .ok (.if_icmp .ge 6, 3) := by decide +kernel
theorem dX9_rankOf_44 : decode cX9_rankOf 44 = .ok (.iinc 3 1, 3) := by decide +kernel
theorem dX9_rankOf_47 : decode cX9_rankOf 47 = .ok (.iinc 4 1, 3) := by decide +kernel
theorem dX9_rankOf_50 : decode cX9_rankOf 50 = .ok (.goto (-39), 3) := by decide +kernel
theorem dX9_rankOf_53 : decode cX9_rankOf 53 = .ok (.iload_n 3, 1) := by decide +kernel
theorem dX9_rankOf_54 : decode cX9_rankOf 54 = .ok (.ireturn, 1) := by decide +kernel
theorem dX9_held_0 : decode cX9_held 0 = .ok (.aload_n 0, 1) := by decide +kernel
theorem dX9_held_1 : decode cX9_held 1 = .ok (.getfield 29, 3) := by decide +kernel
theorem dX9_held_4 : decode cX9_held 4 = .ok (.aload_n 0, 1) := by decide +kernel
theorem dX9_held_5 : decode cX9_held 5 = .ok (.getfield 10, 3) := by decide +kernel
theorem dX9_held_8 : decode cX9_held 8 = .ok (.invokevirtual 136, 3) := by decide +kernel
theorem dX9_held_11 : decode cX9_held 11 = .ok (.getfield 140, 3) := by decide +kernel
theorem dX9_held_14 : decode cX9_held 14 = .ok (.areturn, 1) := by decide +kernel
theorem dX9_refuse_0 : decode cX9_refuse 0 = .ok (.aload_n 0, 1) := by decide +kernel
theorem dX9_refuse_1 : decode cX9_refuse 1 = .ok (.iload_n 1, 1) := by decide +kernel
theorem dX9_refuse_2 : decode cX9_refuse 2 = .ok (.putfield 69, 3) := by decide +kernel
theorem dX9_refuse_5 : decode cX9_refuse 5 = .ok (.aload_n 0, 1) := by decide +kernel
theorem dX9_refuse_6 : decode cX9_refuse 6 = .ok (.iload_n 2, 1) := by decide +kernel
theorem dX9_refuse_7 : decode cX9_refuse 7 = .ok (.putfield 72, 3) := by decide +kernel
theorem dX9_refuse_10 : decode cX9_refuse 10 = .ok (.iconst 0, 1) := by decide +kernel
theorem dX9_refuse_11 : decode cX9_refuse 11 = .ok (.ireturn, 1) := by decide +kernel
theorem dX9_addFact_0 : decode cX9_addFact 0 = .ok (.aload_n 0, 1) := by decide +kernel
theorem dX9_addFact_1 : decode cX9_addFact 1 = .ok (.getfield 10, 3) := by decide +kernel
theorem dX9_addFact_4 : decode cX9_addFact 4 = .ok (.getfield 124, 3) := by decide +kernel
theorem dX9_addFact_7 : decode cX9_addFact 7 = .ok (.iload_n 1, 1) := by decide +kernel
theorem dX9_addFact_8 : decode cX9_addFact 8 = .ok (.invokevirtual 121, 3) := by decide +kernel
theorem dX9_addFact_11 : decode cX9_addFact 11 = .ok (.ifCond .eq 23, 3) := by decide +kernel
theorem dX9_addFact_14 : decode cX9_addFact 14 = .ok (.aload_n 0, 1) := by decide +kernel
theorem dX9_addFact_15 : decode cX9_addFact 15 = .ok (.iconst 2, 1) := by decide +kernel
theorem dX9_addFact_16 : decode cX9_addFact 16 = .ok (.aload_n 0, 1) := by decide +kernel
theorem dX9_addFact_17 : decode cX9_addFact 17 = .ok (.getfield 10, 3) := by decide +kernel
theorem dX9_addFact_20 : decode cX9_addFact 20 = .ok (.getfield 124, 3) := by decide +kernel
theorem dX9_addFact_23 : decode cX9_addFact 23 = .ok (.iload_n 1, 1) := by decide +kernel
theorem dX9_addFact_24 : decode cX9_addFact 24 = .ok (.bipush 36, 2) := by decide +kernel
theorem dX9_addFact_26 : decode cX9_addFact 26 = .ok (.idiv, 1) := by decide +kernel
theorem dX9_addFact_27 : decode cX9_addFact 27 = .ok (.invokevirtual 196, 3) := by decide +kernel
theorem dX9_addFact_30 : decode cX9_addFact 30 = .ok (.invokevirtual 392, 3) := by decide +kernel
theorem dX9_addFact_33 : decode cX9_addFact 33 = .ok (.ireturn, 1) := by decide +kernel
theorem dX9_addFact_34 : decode cX9_addFact 34 = .ok (.aload_n 0, 1) := by decide +kernel
theorem dX9_addFact_35 : decode cX9_addFact 35 = .ok (.getfield 10, 3) := by decide +kernel
theorem dX9_addFact_38 : decode cX9_addFact 38 = .ok (.getfield 124, 3) := by decide +kernel
theorem dX9_addFact_41 : decode cX9_addFact 41 = .ok (.iload_n 1, 1) := by decide +kernel
theorem dX9_addFact_42 : decode cX9_addFact 42 = .ok (.invokevirtual 396, 3) := by decide +kernel
theorem dX9_addFact_45 : decode cX9_addFact 45 = .ok (.aload_n 0, 1) := by decide +kernel
theorem dX9_addFact_46 : decode cX9_addFact 46 = .ok (.getfield 29, 3) := by decide +kernel
theorem dX9_addFact_49 : decode cX9_addFact 49 = .ok (.invokevirtual 330, 3) := by decide +kernel
theorem dX9_addFact_52 : decode cX9_addFact 52 = .ok (.iconst 1, 1) := by decide +kernel
theorem dX9_addFact_53 : decode cX9_addFact 53 = .ok (.ireturn, 1) := by decide +kernel
theorem dX9_takeFact_0 : decode cX9_takeFact 0 = .ok (.aload_n 0, 1) := by decide +kernel
theorem dX9_takeFact_1 : decode cX9_takeFact 1 = .ok (.getfield 10, 3) := by decide +kernel
theorem dX9_takeFact_4 : decode cX9_takeFact 4 = .ok (.getfield 124, 3) := by decide +kernel
theorem dX9_takeFact_7 : decode cX9_takeFact 7 = .ok (.iload_n 1, 1) := by decide +kernel
theorem dX9_takeFact_8 : decode cX9_takeFact 8 = .ok (.invokevirtual 121, 3) := by decide +kernel
theorem dX9_takeFact_11 : decode cX9_takeFact 11 = .ok (.ifCond .ne 35, 3) := by decide +kernel
theorem dX9_takeFact_14 : decode cX9_takeFact 14 = .ok (.aload_n 0, 1) := by decide +kernel
theorem dX9_takeFact_15 : decode cX9_takeFact 15 = .ok (.iconst 3, 1) := by decide +kernel
theorem dX9_takeFact_16 : decode cX9_takeFact 16 = .ok (.aload_n 0, 1) := by decide +kernel
theorem dX9_takeFact_17 : decode cX9_takeFact 17 = .ok (.getfield 29, 3) := by decide +kernel
theorem dX9_takeFact_20 : decode cX9_takeFact 20 = .ok (.aload_n 0, 1) := by decide +kernel
theorem dX9_takeFact_21 : decode cX9_takeFact 21 = .ok (.getfield 10, 3) := by decide +kernel
theorem dX9_takeFact_24 : decode cX9_takeFact 24 = .ok (.invokevirtual 136, 3) := by decide +kernel
theorem dX9_takeFact_27 : decode cX9_takeFact 27 = .ok (.getfield 140, 3) := by decide +kernel
theorem dX9_takeFact_30 : decode cX9_takeFact 30 = .ok (.iload_n 1, 1) := by decide +kernel
theorem dX9_takeFact_31 : decode cX9_takeFact 31 = .ok (.invokevirtual 121, 3) := by decide +kernel
theorem dX9_takeFact_34 : decode cX9_takeFact 34 = .ok (.ifCond .eq 7, 3) := by decide +kernel
theorem dX9_takeFact_37 : decode cX9_takeFact 37 = .ok (.iconst 1, 1) := by decide +kernel
theorem dX9_takeFact_38 : decode cX9_takeFact 38 = .ok (.goto 4, 3) := by decide +kernel
theorem dX9_takeFact_41 : decode cX9_takeFact 41 = .ok (.iconst 0, 1) := by decide +kernel
theorem dX9_takeFact_42 : decode cX9_takeFact 42 = .ok (.invokevirtual 392, 3) := by decide +kernel
theorem dX9_takeFact_45 : decode cX9_takeFact 45 = .ok (.ireturn, 1) := by decide +kernel
theorem dX9_takeFact_46 : decode cX9_takeFact 46 = .ok (.aload_n 0, 1) := by decide +kernel
theorem dX9_takeFact_47 : decode cX9_takeFact 47 = .ok (.getfield 10, 3) := by decide +kernel
theorem dX9_takeFact_50 : decode cX9_takeFact 50 = .ok (.getfield 124, 3) := by decide +kernel
theorem dX9_takeFact_53 : decode cX9_takeFact 53 = .ok (.iload_n 1, 1) := by decide +kernel
theorem dX9_takeFact_54 : decode cX9_takeFact 54 = .ok (.invokevirtual 399, 3) := by decide +kernel
theorem dX9_takeFact_57 : decode cX9_takeFact 57 = .ok (.aload_n 0, 1) := by decide +kernel
theorem dX9_takeFact_58 : decode cX9_takeFact 58 = .ok (.getfield 29, 3) := by decide +kernel
theorem dX9_takeFact_61 : decode cX9_takeFact 61 = .ok (.invokevirtual 330, 3) := by decide +kernel
theorem dX9_takeFact_64 : decode cX9_takeFact 64 = .ok (.iconst 1, 1) := by decide +kernel
theorem dX9_takeFact_65 : decode cX9_takeFact 65 = .ok (.ireturn, 1) := by decide +kernel
theorem dX9_addRule_0 : decode cX9_addRule 0 = .ok (.aload_n 0, 1) := by decide +kernel
theorem dX9_addRule_1 : decode cX9_addRule 1 = .ok (.getfield 10, 3) := by decide +kernel
theorem dX9_addRule_4 : decode cX9_addRule 4 = .ok (.getfield 128, 3) := by decide +kernel
theorem dX9_addRule_7 : decode cX9_addRule 7 = .ok (.astore 5, 2) := by decide +kernel
theorem dX9_addRule_9 : decode cX9_addRule 9 = .ok (.aload 5, 2) := by decide +kernel
theorem dX9_addRule_11 : decode cX9_addRule 11 = .ok (.iload_n 1, 1) := by decide +kernel
theorem dX9_addRule_12 : decode cX9_addRule 12 = .ok (.iload_n 2, 1) := by decide +kernel
theorem dX9_addRule_13 : decode cX9_addRule 13 = .ok (.iload_n 3, 1) := by decide +kernel
theorem dX9_addRule_14 : decode cX9_addRule 14 = .ok (.iload 4, 2) := by decide +kernel
theorem dX9_addRule_16 : decode cX9_addRule 16 = .ok (.invokevirtual 259, 3) := by decide +kernel
theorem dX9_addRule_19 : decode cX9_addRule 19 = .ok (.aload 5, 2) := by decide +kernel
theorem dX9_addRule_21 : decode cX9_addRule 21 = .ok (.invokevirtual 402, 3) := by decide +kernel
theorem dX9_addRule_24 : decode cX9_addRule 24 = .ok (.istore 6, 2) := by decide +kernel
theorem dX9_addRule_26 : decode cX9_addRule 26 = .ok (.iload 6, 2) := by decide +kernel
theorem dX9_addRule_28 : decode cX9_addRule 28 = .ok (.ifCond .lt 11, 3) := by decide +kernel
theorem dX9_addRule_31 : decode cX9_addRule 31 = .ok (.aload_n 0, 1) := by decide +kernel
theorem dX9_addRule_32 : decode cX9_addRule 32 = .ok (.iconst 4, 1) := by decide +kernel
theorem dX9_addRule_33 : decode cX9_addRule 33 = .ok (.iload 6, 2) := by decide +kernel
theorem dX9_addRule_35 : decode cX9_addRule 35 = .ok (.invokevirtual 392, 3) := by decide +kernel
theorem dX9_addRule_38 : decode cX9_addRule 38 = .ok (.ireturn, 1) := by decide +kernel
theorem dX9_addRule_39 : decode cX9_addRule 39 = .ok (.aload 5, 2) := by decide +kernel
theorem dX9_addRule_41 : decode cX9_addRule 41 = .ok (.invokevirtual 405, 3) := by decide +kernel
theorem dX9_addRule_44 : decode cX9_addRule 44 = .ok (.istore 7, 2) := by decide +kernel
theorem dX9_addRule_46 : decode cX9_addRule 46 = .ok (.iload 7, 2) := by decide +kernel
theorem dX9_addRule_48 : decode cX9_addRule 48 = .ok (.ifCond .lt 12, 3) := by decide +kernel
theorem dX9_addRule_51 : decode cX9_addRule 51 = .ok (.aload_n 0, 1) := by decide +kernel
theorem dX9_addRule_52 : decode cX9_addRule 52 = .ok (.bipush 6, 2) := by decide +kernel
theorem dX9_addRule_54 : decode cX9_addRule 54 = .ok (.iload 7, 2) := by decide +kernel
theorem dX9_addRule_56 : decode cX9_addRule 56 = .ok (.invokevirtual 392, 3) := by decide +kernel
theorem dX9_addRule_59 : decode cX9_addRule 59 = .ok (.ireturn, 1) := by decide +kernel
theorem dX9_addRule_60 : decode cX9_addRule 60 = .ok (.aload 5, 2) := by decide +kernel
theorem dX9_addRule_62 : decode cX9_addRule 62 = .ok (.getfield 233, 3) := by decide +kernel
theorem dX9_addRule_65 : decode cX9_addRule 65 = .ok (.bipush 10, 2) := by decide +kernel
theorem dX9_addRule_67 : decode cX9_addRule 67 = .ok (.if_icmp .lt 14, 3) := by decide +kernel
theorem dX9_addRule_70 : decode cX9_addRule 70 = .ok (.aload_n 0, 1) := by decide +kernel
theorem dX9_addRule_71 : decode cX9_addRule 71 = .ok (.iconst 1, 1) := by decide +kernel
theorem dX9_addRule_72 : decode cX9_addRule 72 = .ok (.aload 5, 2) := by decide +kernel
theorem dX9_addRule_74 : decode cX9_addRule 74 = .ok (.getfield 233, 3) := by decide +kernel
theorem dX9_addRule_77 : decode cX9_addRule 77 = .ok (.invokevirtual 392, 3) := by decide +kernel
theorem dX9_addRule_80 : decode cX9_addRule 80 = .ok (.ireturn, 1) := by decide +kernel
theorem dX9_addRule_81 : decode cX9_addRule 81 = .ok (.aload_n 0, 1) := by decide +kernel
theorem dX9_addRule_82 : decode cX9_addRule 82 = .ok (.getfield 43, 3) := by decide +kernel
theorem dX9_addRule_85 : decode cX9_addRule 85 = .ok (.aload 5, 2) := by decide +kernel
theorem dX9_addRule_87 : decode cX9_addRule 87 = .ok (.aload 5, 2) := by decide +kernel
theorem dX9_addRule_89 : decode cX9_addRule 89 = .ok (.getfield 233, 3) := by decide +kernel
theorem dX9_addRule_92 : decode cX9_addRule 92 = .ok (.iconst 1, 1) := by decide +kernel
theorem dX9_addRule_93 : decode cX9_addRule 93 = .ok (.iadd, 1) := by decide +kernel
theorem dX9_addRule_94 : decode cX9_addRule 94 = .ok (.invokevirtual 263, 3) := by decide +kernel
theorem dX9_addRule_97 : decode cX9_addRule 97 = .ok (.ifCond .ne 10, 3) := by decide +kernel
theorem dX9_addRule_100 : decode cX9_addRule 100 = .ok (.aload_n 0, 1) := by decide +kernel
theorem dX9_addRule_101 : decode cX9_addRule 101 = .ok (.iconst 5, 1) := by decide +kernel
theorem dX9_addRule_102 : decode cX9_addRule 102 = .ok (.iload_n 1, 1) := by decide +kernel
theorem dX9_addRule_103 : decode cX9_addRule 103 = .ok (.invokevirtual 392, 3) := by decide +kernel
theorem dX9_addRule_106 : decode cX9_addRule 106 = .ok (.ireturn, 1) := by decide +kernel
theorem dX9_addRule_107 : decode cX9_addRule 107 = .ok (.aload 5, 2) := by decide +kernel
theorem dX9_addRule_109 : decode cX9_addRule 109 = .ok (.invokevirtual 408, 3) := by decide +kernel
theorem dX9_addRule_112 : decode cX9_addRule 112 = .ok (.aload_n 0, 1) := by decide +kernel
theorem dX9_addRule_113 : decode cX9_addRule 113 = .ok (.getfield 29, 3) := by decide +kernel
theorem dX9_addRule_116 : decode cX9_addRule 116 = .ok (.invokevirtual 330, 3) := by decide +kernel
theorem dX9_addRule_119 : decode cX9_addRule 119 = .ok (.iconst 1, 1) := by decide +kernel
theorem dX9_addRule_120 : decode cX9_addRule 120 = .ok (.ireturn, 1) := by decide +kernel
theorem dX9_takeRule_0 : decode cX9_takeRule 0 = .ok (.aload_n 0, 1) := by decide +kernel
theorem dX9_takeRule_1 : decode cX9_takeRule 1 = .ok (.getfield 10, 3) := by decide +kernel
theorem dX9_takeRule_4 : decode cX9_takeRule 4 = .ok (.getfield 128, 3) := by decide +kernel
theorem dX9_takeRule_7 : decode cX9_takeRule 7 = .ok (.iload_n 1, 1) := by decide +kernel
theorem dX9_takeRule_8 : decode cX9_takeRule 8 = .ok (.invokevirtual 236, 3) := by decide +kernel
theorem dX9_takeRule_11 : decode cX9_takeRule 11 = .ok (.ifCond .ne 5, 3) := by decide +kernel
theorem dX9_takeRule_14 : decode cX9_takeRule 14 = .ok (.iconst 0, 1) := by decide +kernel
theorem dX9_takeRule_15 : decode cX9_takeRule 15 = .ok (.ireturn, 1) := by decide +kernel
theorem dX9_takeRule_16 : decode cX9_takeRule 16 = .ok (.aload_n 0, 1) := by decide +kernel
theorem dX9_takeRule_17 : decode cX9_takeRule 17 = .ok (.getfield 10, 3) := by decide +kernel
theorem dX9_takeRule_20 : decode cX9_takeRule 20 = .ok (.getfield 128, 3) := by decide +kernel
theorem dX9_takeRule_23 : decode cX9_takeRule 23 = .ok (.iload_n 1, 1) := by decide +kernel
theorem dX9_takeRule_24 : decode cX9_takeRule 24 = .ok (.invokevirtual 411, 3) := by decide +kernel
theorem dX9_takeRule_27 : decode cX9_takeRule 27 = .ok (.aload_n 0, 1) := by decide +kernel
theorem dX9_takeRule_28 : decode cX9_takeRule 28 = .ok (.getfield 29, 3) := by decide +kernel
theorem dX9_takeRule_31 : decode cX9_takeRule 31 = .ok (.invokevirtual 330, 3) := by decide +kernel
theorem dX9_takeRule_34 : decode cX9_takeRule 34 = .ok (.iconst 1, 1) := by decide +kernel
theorem dX9_takeRule_35 : decode cX9_takeRule 35 = .ok (.ireturn, 1) := by decide +kernel
theorem dX9_carryOut_0 : decode cX9_carryOut 0 = .ok (.aload_n 0, 1) := by decide +kernel
theorem dX9_carryOut_1 : decode cX9_carryOut 1 = .ok (.getfield 50, 3) := by decide +kernel
theorem dX9_carryOut_4 : decode cX9_carryOut 4 = .ok (.iload_n 1, 1) := by decide +kernel
theorem dX9_carryOut_5 : decode cX9_carryOut 5 = .ok (.invokevirtual 414, 3) := by decide +kernel
theorem dX9_carryOut_8 : decode cX9_carryOut 8 = .ok (.istore_n 2, 1) := by decide +kernel
theorem dX9_carryOut_9 : decode cX9_carryOut 9 = .ok (.aload_n 0, 1) := by decide +kernel
theorem dX9_carryOut_10 : decode cX9_carryOut 10 = .ok (.getfield 50, 3) := by decide +kernel
theorem dX9_carryOut_13 : decode cX9_carryOut 13 = .ok (.iload_n 1, 1) := by decide +kernel
theorem dX9_carryOut_14 : decode cX9_carryOut 14 = .ok (.iconst 0, 1) := by decide +kernel
theorem dX9_carryOut_15 : decode cX9_carryOut 15 = .ok (.invokevirtual 418, 3) := by decide +kernel
theorem dX9_carryOut_18 : decode cX9_carryOut 18 = .ok (.istore_n 3, 1) := by decide +kernel
theorem dX9_carryOut_19 : decode cX9_carryOut 19 = .ok (.aload_n 0, 1) := by decide +kernel
theorem dX9_carryOut_20 : decode cX9_carryOut 20 = .ok (.getfield 50, 3) := by decide +kernel
theorem dX9_carryOut_23 : decode cX9_carryOut 23 = .ok (.iload_n 1, 1) := by decide +kernel
theorem dX9_carryOut_24 : decode cX9_carryOut 24 = .ok (.iconst 1, 1) := by decide +kernel
theorem dX9_carryOut_25 : decode cX9_carryOut 25 = .ok (.invokevirtual 418, 3) := by decide +kernel
theorem dX9_carryOut_28 : decode cX9_carryOut 28 = .ok (.istore 4, 2) := by decide +kernel
theorem dX9_carryOut_30 : decode cX9_carryOut 30 = .ok (.aload_n 0, 1) := by decide +kernel
theorem dX9_carryOut_31 : decode cX9_carryOut 31 = .ok (.getfield 50, 3) := by decide +kernel
theorem dX9_carryOut_34 : decode cX9_carryOut 34 = .ok (.iload_n 1, 1) := by decide +kernel
theorem dX9_carryOut_35 : decode cX9_carryOut 35 = .ok (.iconst 2, 1) := by decide +kernel
theorem dX9_carryOut_36 : decode cX9_carryOut 36 = .ok (.invokevirtual 418, 3) := by decide +kernel
theorem dX9_carryOut_39 : decode cX9_carryOut 39 = .ok (.istore 5, 2) := by decide +kernel
theorem dX9_carryOut_41 : decode cX9_carryOut 41 = .ok (.iload_n 2, 1) := by decide +kernel
theorem dX9_carryOut_42 : decode cX9_carryOut 42 = .ok (.bipush 100, 2) := by decide +kernel
theorem dX9_carryOut_44 : decode cX9_carryOut 44 = .ok (.if_icmp .ne 17, 3) := by decide +kernel
theorem dX9_carryOut_47 : decode cX9_carryOut 47 = .ok (.aload_n 0, 1) := by decide +kernel
theorem dX9_carryOut_48 : decode cX9_carryOut 48 = .ok (.iload_n 3, 1) := by decide +kernel
theorem dX9_carryOut_49 : decode cX9_carryOut 49 = .ok (.invokevirtual 239, 3) := by decide +kernel
theorem dX9_carryOut_52 : decode cX9_carryOut 52 = .ok (.ifCond .eq 7, 3) := by decide +kernel
theorem dX9_carryOut_55 : decode cX9_carryOut 55 = .ok (.iconst 0, 1) := by decide +kernel
theorem dX9_carryOut_56 : decode cX9_carryOut 56 = .ok (.goto 4, 3) := by decide +kernel
theorem dX9_carryOut_59 : decode cX9_carryOut 59 = .ok (.iconst 2, 1) := by decide +kernel
theorem dX9_carryOut_60 : decode cX9_carryOut 60 = .ok (.ireturn, 1) := by decide +kernel
theorem dX9_carryOut_61 : decode cX9_carryOut 61 = .ok (.iload_n 2, 1) := by decide +kernel
theorem dX9_carryOut_62 : decode cX9_carryOut 62 = .ok (.bipush 114, 2) := by decide +kernel
theorem dX9_carryOut_64 : decode cX9_carryOut 64 = .ok (.if_icmp .ne 30, 3) := by decide +kernel
theorem dX9_carryOut_67 : decode cX9_carryOut 67 = .ok (.aload_n 0, 1) := by decide +kernel
theorem dX9_carryOut_68 : decode cX9_carryOut 68 = .ok (.iload_n 3, 1) := by decide +kernel
theorem dX9_carryOut_69 : decode cX9_carryOut 69 = .ok (.iload 4, 2) := by decide +kernel
theorem dX9_carryOut_71 : decode cX9_carryOut 71 = .ok (.iload 5, 2) := by decide +kernel
theorem dX9_carryOut_73 : decode cX9_carryOut 73 = .ok (.aload_n 0, 1) := by decide +kernel
theorem dX9_carryOut_74 : decode cX9_carryOut 74 = .ok (.getfield 50, 3) := by decide +kernel
theorem dX9_carryOut_77 : decode cX9_carryOut 77 = .ok (.iload_n 1, 1) := by decide +kernel
theorem dX9_carryOut_78 : decode cX9_carryOut 78 = .ok (.iconst 3, 1) := by decide +kernel
theorem dX9_carryOut_79 : decode cX9_carryOut 79 = .ok (.invokevirtual 418, 3) := by decide +kernel
theorem dX9_carryOut_82 : decode cX9_carryOut 82 = .ok (.invokevirtual 228, 3) := by decide +kernel
theorem dX9_carryOut_85 : decode cX9_carryOut 85 = .ok (.ifCond .eq 7, 3) := by decide +kernel
theorem dX9_carryOut_88 : decode cX9_carryOut 88 = .ok (.iconst 0, 1) := by decide +kernel
theorem dX9_carryOut_89 : decode cX9_carryOut 89 = .ok (.goto 4, 3) := by decide +kernel
theorem dX9_carryOut_92 : decode cX9_carryOut 92 = .ok (.iconst 1, 1) := by decide +kernel
theorem dX9_carryOut_93 : decode cX9_carryOut 93 = .ok (.ireturn, 1) := by decide +kernel
theorem dX9_carryOut_94 : decode cX9_carryOut 94 = .ok (.iload_n 3, 1) := by decide +kernel
theorem dX9_carryOut_95 : decode cX9_carryOut 95 = .ok (.iload 4, 2) := by decide +kernel
theorem dX9_carryOut_97 : decode cX9_carryOut 97 = .ok (.iload 5, 2) := by decide +kernel
theorem dX9_carryOut_99 : decode cX9_carryOut 99 = .ok (.invokestatic 90, 3) := by decide +kernel
theorem dX9_carryOut_102 : decode cX9_carryOut 102 = .ok (.istore 6, 2) := by decide +kernel
theorem dX9_carryOut_104 : decode cX9_carryOut 104 = .ok (.iload_n 2, 1) := by decide +kernel
theorem dX9_carryOut_105 : decode cX9_carryOut 105 = .ok (.bipush 43, 2) := by decide +kernel
theorem dX9_carryOut_107 : decode cX9_carryOut 107 = .ok (.if_icmp .ne 12, 3) := by decide +kernel
theorem dX9_carryOut_110 : decode cX9_carryOut 110 = .ok (.aload_n 0, 1) := by decide +kernel
theorem dX9_carryOut_111 : decode cX9_carryOut 111 = .ok (.iload 6, 2) := by decide +kernel
theorem dX9_carryOut_113 : decode cX9_carryOut 113 = .ok (.invokevirtual 94, 3) := by decide +kernel
theorem dX9_carryOut_116 : decode cX9_carryOut 116 = .ok (.goto 9, 3) := by decide +kernel
theorem dX9_carryOut_119 : decode cX9_carryOut 119 = .ok (.aload_n 0, 1) := by decide +kernel
theorem dX9_carryOut_120 : decode cX9_carryOut 120 = .ok (.iload 6, 2) := by decide +kernel
theorem dX9_carryOut_122 : decode cX9_carryOut 122 = .ok (.invokevirtual 116, 3) := by decide +kernel
theorem dX9_carryOut_125 : decode cX9_carryOut 125 = .ok (.istore 7, 2) := by decide +kernel
theorem dX9_carryOut_127 : decode cX9_carryOut 127 = .ok (.iload 7, 2) := by decide +kernel
theorem dX9_carryOut_129 : decode cX9_carryOut 129 = .ok (.ifCond .eq 7, 3) := by decide +kernel
theorem dX9_carryOut_132 : decode cX9_carryOut 132 = .ok (.iconst 0, 1) := by decide +kernel
theorem dX9_carryOut_133 : decode cX9_carryOut 133 = .ok (.goto 4, 3) := by decide +kernel
theorem dX9_carryOut_136 : decode cX9_carryOut 136 = .ok (.iconst 1, 1) := by decide +kernel
theorem dX9_carryOut_137 : decode cX9_carryOut 137 = .ok (.ireturn, 1) := by decide +kernel
theorem dX9_writeFact_0 : decode cX9_writeFact 0 = .ok (.aload_n 0, 1) := by decide +kernel
theorem dX9_writeFact_1 : decode cX9_writeFact 1 = .ok (.getfield 29, 3) := by decide +kernel
theorem dX9_writeFact_4 : decode cX9_writeFact 4 = .ok (.aload_n 0, 1) := by decide +kernel
theorem dX9_writeFact_5 : decode cX9_writeFact 5 = .ok (.getfield 10, 3) := by decide +kernel
theorem dX9_writeFact_8 : decode cX9_writeFact 8 = .ok (.invokevirtual 136, 3) := by decide +kernel
theorem dX9_writeFact_11 : decode cX9_writeFact 11 = .ok (.astore_n 2, 1) := by decide +kernel
theorem dX9_writeFact_12 : decode cX9_writeFact 12 = .ok (.aload_n 0, 1) := by decide +kernel
theorem dX9_writeFact_13 : decode cX9_writeFact 13 = .ok (.getfield 57, 3) := by decide +kernel
theorem dX9_writeFact_16 : decode cX9_writeFact 16 = .ok (.invokevirtual 286, 3) := by decide +kernel
theorem dX9_writeFact_19 : decode cX9_writeFact 19 = .ok (.aload_n 0, 1) := by decide +kernel
theorem dX9_writeFact_20 : decode cX9_writeFact 20 = .ok (.getfield 57, 3) := by decide +kernel
theorem dX9_writeFact_23 : decode cX9_writeFact 23 = .ok (.iload_n 1, 1) := by decide +kernel
theorem dX9_writeFact_24 : decode cX9_writeFact 24 = .ok (.invokevirtual 421, 3) := by decide +kernel
theorem dX9_writeFact_27 : decode cX9_writeFact 27 = .ok (.aload_n 0, 1) := by decide +kernel
theorem dX9_writeFact_28 : decode cX9_writeFact 28 = .ok (.getfield 10, 3) := by decide +kernel
theorem dX9_writeFact_31 : decode cX9_writeFact 31 = .ok (.getfield 124, 3) := by decide +kernel
theorem dX9_writeFact_34 : decode cX9_writeFact 34 = .ok (.iload_n 1, 1) := by decide +kernel
theorem dX9_writeFact_35 : decode cX9_writeFact 35 = .ok (.invokevirtual 121, 3) := by decide +kernel
theorem dX9_writeFact_38 : decode cX9_writeFact 38 = .ok (.ifCond .eq 13, 3) := by decide +kernel
theorem dX9_writeFact_41 : decode cX9_writeFact 41 = .ok (.aload_n 0, 1) := by decide +kernel
theorem dX9_writeFact_42 : decode cX9_writeFact 42 = .ok (.getfield 57, 3) := by decide +kernel
theorem dX9_writeFact_45 : decode cX9_writeFact 45 = .ok (.bipush 46, 2) := by decide +kernel
theorem dX9_writeFact_47 : decode cX9_writeFact 47 = .ok (.invokevirtual 293, 3) := by decide +kernel
theorem dX9_writeFact_50 : decode cX9_writeFact 50 = .ok (.return_, 1) := by decide +kernel
theorem dX9_writeFact_51 : decode cX9_writeFact 51 = .ok (.aload_n 0, 1) := by decide +kernel
theorem dX9_writeFact_52 : decode cX9_writeFact 52 = .ok (.getfield 57, 3) := by decide +kernel
theorem dX9_writeFact_55 : decode cX9_writeFact 55 = .ok (.bipush 60, 2) := by decide +kernel
theorem dX9_writeFact_57 : decode cX9_writeFact 57 = .ok (.invokevirtual 293, 3) := by decide +kernel
theorem dX9_writeFact_60 : decode cX9_writeFact 60 = .ok (.aload_n 0, 1) := by decide +kernel
theorem dX9_writeFact_61 : decode cX9_writeFact 61 = .ok (.getfield 57, 3) := by decide +kernel
theorem dX9_writeFact_64 : decode cX9_writeFact 64 = .ok (.bipush 48, 2) := by decide +kernel
theorem dX9_writeFact_66 : decode cX9_writeFact 66 = .ok (.aload_n 2, 1) := by decide +kernel
theorem dX9_writeFact_67 : decode cX9_writeFact 67 = .ok (.iload_n 1, 1) := by decide +kernel
theorem dX9_writeFact_68 : decode cX9_writeFact 68 = .ok (.invokevirtual 423, 3) := by decide +kernel
theorem dX9_writeFact_71 : decode cX9_writeFact 71 = .ok (.invokevirtual 289, 3) := by decide +kernel
theorem dX9_writeFact_74 : decode cX9_writeFact 74 = .ok (.bipush 58, 2) := by decide +kernel
theorem dX9_writeFact_76 : decode cX9_writeFact 76 = .ok (.istore_n 3, 1) := by decide +kernel
theorem dX9_writeFact_77 : decode cX9_writeFact 77 = .ok (.iconst 0, 1) := by decide +kernel
theorem dX9_writeFact_78 : decode cX9_writeFact 78 = .ok (.istore 4, 2) := by decide +kernel
theorem dX9_writeFact_80 : decode cX9_writeFact 80 = .ok (.iload 4, 2) := by decide +kernel
theorem dX9_writeFact_82 : decode cX9_writeFact 82 = .ok (.iconst 3, 1) := by decide +kernel
theorem dX9_writeFact_83 : decode cX9_writeFact 83 = .ok (.if_icmp .ge 50, 3) := by decide +kernel
theorem dX9_writeFact_86 : decode cX9_writeFact 86 = .ok (.aload_n 2, 1) := by decide +kernel
theorem dX9_writeFact_87 : decode cX9_writeFact 87 = .ok (.aload_n 0, 1) := by decide +kernel
theorem dX9_writeFact_88 : decode cX9_writeFact 88 = .ok (.getfield 10, 3) := by decide +kernel
theorem dX9_writeFact_91 : decode cX9_writeFact 91 = .ok (.getfield 128, 3) := by decide +kernel
theorem dX9_writeFact_94 : decode cX9_writeFact 94 = .ok (.iload_n 1, 1) := by decide +kernel
theorem dX9_writeFact_95 : decode cX9_writeFact 95 = .ok (.iload 4, 2) := by decide +kernel
theorem dX9_writeFact_97 : decode cX9_writeFact 97 = .ok (.invokevirtual 426, 3) := by decide +kernel
theorem dX9_writeFact_100 : decode cX9_writeFact 100 = .ok (.istore 5, 2) := by decide +kernel
theorem dX9_writeFact_102 : decode cX9_writeFact 102 = .ok (.iload 5, 2) := by decide +kernel
theorem dX9_writeFact_104 : decode cX9_writeFact 104 = .ok (.ifCond .lt 23, 3) := by decide +kernel
theorem dX9_writeFact_107 : decode cX9_writeFact 107 = .ok (.aload_n 0, 1) := by decide +kernel
theorem dX9_writeFact_108 : decode cX9_writeFact 108 = .ok (.getfield 57, 3) := by decide +kernel
theorem dX9_writeFact_111 : decode cX9_writeFact 111 = .ok (.iload_n 3, 1) := by decide +kernel
theorem dX9_writeFact_112 : decode cX9_writeFact 112 = .ok (.invokevirtual 293, 3) := by decide +kernel
theorem dX9_writeFact_115 : decode cX9_writeFact 115 = .ok (.aload_n 0, 1) := by decide +kernel
theorem dX9_writeFact_116 : decode cX9_writeFact 116 = .ok (.getfield 57, 3) := by decide +kernel
theorem dX9_writeFact_119 : decode cX9_writeFact 119 = .ok (.iload 5, 2) := by decide +kernel
theorem dX9_writeFact_121 : decode cX9_writeFact 121 = .ok (.invokevirtual 421, 3) := by decide +kernel
theorem dX9_writeFact_124 : decode cX9_writeFact 124 = .ok (.bipush 44, 2) := by decide +kernel
theorem dX9_writeFact_126 : decode cX9_writeFact 126 = .ok (.istore_n 3, 1) := by decide +kernel
theorem dX9_writeFact_127 : decode cX9_writeFact 127 = .ok (.iinc 4 1, 3) := by decide +kernel
theorem dX9_writeFact_130 : decode cX9_writeFact 130 = .ok (.goto (-50), 3) := by decide +kernel
theorem dX9_writeFact_133 : decode cX9_writeFact 133 = .ok (.return_, 1) := by decide +kernel
theorem dX10_init_0 : decode cX10_init 0 = .ok (.aload_n 0, 1) := by decide +kernel
theorem dX10_init_1 : decode cX10_init 1 = .ok (.invokespecial 3, 3) := by decide +kernel
theorem dX10_init_4 : decode cX10_init 4 = .ok (.aload_n 0, 1) := by decide +kernel
theorem dX10_init_5 : decode cX10_init 5 = .ok (.sipush 257, 3) := by decide +kernel
theorem dX10_init_8 : decode cX10_init 8 = .ok (.newarray .int, 2) := by decide +kernel
theorem dX10_init_10 : decode cX10_init 10 = .ok (.putfield 9, 3) := by decide +kernel
theorem dX10_init_13 : decode cX10_init 13 = .ok (.aload_n 0, 1) := by decide +kernel
theorem dX10_init_14 : decode cX10_init 14 = .ok (.sipush 257, 3) := by decide +kernel
theorem dX10_init_17 : decode cX10_init 17 = .ok (.newarray .int, 2) := by decide +kernel
theorem dX10_init_19 : decode cX10_init 19 = .ok (.putfield 13, 3) := by decide +kernel
theorem dX10_init_22 : decode cX10_init 22 = .ok (.aload_n 0, 1) := by decide +kernel
theorem dX10_init_23 : decode cX10_init 23 = .ok (.sipush 257, 3) := by decide +kernel
theorem dX10_init_26 : decode cX10_init 26 = .ok (.newarray .int, 2) := by decide +kernel
theorem dX10_init_28 : decode cX10_init 28 = .ok (.putfield 16, 3) := by decide +kernel
theorem dX10_init_31 : decode cX10_init 31 = .ok (.aload_n 0, 1) := by decide +kernel
theorem dX10_init_32 : decode cX10_init 32 = .ok (.sipush 2056, 3) := by decide +kernel
theorem dX10_init_35 : decode cX10_init 35 = .ok (.newarray .int, 2) := by decide +kernel
theorem dX10_init_37 : decode cX10_init 37 = .ok (.putfield 19, 3) := by decide +kernel
theorem dX10_init_40 : decode cX10_init 40 = .ok (.aload_n 0, 1) := by decide +kernel
theorem dX10_init_41 : decode cX10_init 41 = .ok (.bipush 6, 2) := by decide +kernel
theorem dX10_init_43 : decode cX10_init 43 = .ok (.newarray .int, 2) := by decide +kernel
theorem dX10_init_45 : decode cX10_init 45 = .ok (.putfield 22, 3) := by decide +kernel
theorem dX10_init_48 : decode cX10_init 48 = .ok (.aload_n 0, 1) := by decide +kernel
theorem dX10_init_49 : decode cX10_init 49 = .ok (.sipush 216, 3) := by decide +kernel
theorem dX10_init_52 : decode cX10_init 52 = .ok (.newarray .int, 2) := by decide +kernel
theorem dX10_init_54 : decode cX10_init 54 = .ok (.putfield 25, 3) := by decide +kernel
theorem dX10_init_57 : decode cX10_init 57 = .ok (.aload_n 0, 1) := by decide +kernel
theorem dX10_init_58 : decode cX10_init 58 = .ok (.sipush 216, 3) := by decide +kernel
theorem dX10_init_61 : decode cX10_init 61 = .ok (.newarray .int, 2) := by decide +kernel
theorem dX10_init_63 : decode cX10_init 63 = .ok (.putfield 28, 3) := by decide +kernel
theorem dX10_init_66 : decode cX10_init 66 = .ok (.aload_n 0, 1) := by decide +kernel
theorem dX10_init_67 : decode cX10_init 67 = .ok (.sipush 216, 3) := by decide +kernel
theorem dX10_init_70 : decode cX10_init 70 = .ok (.newarray .int, 2) := by decide +kernel
theorem dX10_init_72 : decode cX10_init 72 = .ok (.putfield 31, 3) := by decide +kernel
theorem dX10_init_75 : decode cX10_init 75 = .ok (.aload_n 0, 1) := by decide +kernel
theorem dX10_init_76 : decode cX10_init 76 = .ok (.sipush 217, 3) := by decide +kernel
theorem dX10_init_79 : decode cX10_init 79 = .ok (.newarray .int, 2) := by decide +kernel
theorem dX10_init_81 : decode cX10_init 81 = .ok (.putfield 34, 3) := by decide +kernel
theorem dX10_init_84 : decode cX10_init 84 = .ok (.aload_n 0, 1) := by decide +kernel
theorem dX10_init_85 : decode cX10_init 85 = .ok (.bipush 6, 2) := by decide +kernel
theorem dX10_init_87 : decode cX10_init 87 = .ok (.newarray .int, 2) := by decide +kernel
theorem dX10_init_89 : decode cX10_init 89 = .ok (.putfield 37, 3) := by decide +kernel
theorem dX10_init_92 : decode cX10_init 92 = .ok (.aload_n 0, 1) := by decide +kernel
theorem dX10_init_93 : decode cX10_init 93 = .ok (.iconst 3, 1) := by decide +kernel
theorem dX10_init_94 : decode cX10_init 94 = .ok (.newarray .int, 2) := by decide +kernel
theorem dX10_init_96 : decode cX10_init 96 = .ok (.putfield 40, 3) := by decide +kernel
theorem dX10_init_99 : decode cX10_init 99 = .ok (.aload_n 0, 1) := by decide +kernel
theorem dX10_init_100 : decode cX10_init 100 = .ok (.iconst 3, 1) := by decide +kernel
theorem dX10_init_101 : decode cX10_init 101 = .ok (.newarray .int, 2) := by decide +kernel
theorem dX10_init_103 : decode cX10_init 103 = .ok (.putfield 43, 3) := by decide +kernel
theorem dX10_init_106 : decode cX10_init 106 = .ok (.aload_n 0, 1) := by decide +kernel
theorem dX10_init_107 : decode cX10_init 107 = .ok (.sipush 216, 3) := by decide +kernel
theorem dX10_init_110 : decode cX10_init 110 = .ok (.newarray .int, 2) := by decide +kernel
theorem dX10_init_112 : decode cX10_init 112 = .ok (.putfield 46, 3) := by decide +kernel
theorem dX10_init_115 : decode cX10_init 115 = .ok (.aload_n 0, 1) := by decide +kernel
theorem dX10_init_116 : decode cX10_init 116 = .ok (.sipush 216, 3) := by decide +kernel
theorem dX10_init_119 : decode cX10_init 119 = .ok (.newarray .boolean, 2) := by decide +kernel
theorem dX10_init_121 : decode cX10_init 121 = .ok (.putfield 49, 3) := by decide +kernel
theorem dX10_init_124 : decode cX10_init 124 = .ok (.aload_n 0, 1) := by decide +kernel
theorem dX10_init_125 : decode cX10_init 125 = .ok (.iconst 3, 1) := by decide +kernel
theorem dX10_init_126 : decode cX10_init 126 = .ok (.newarray .int, 2) := by decide +kernel
theorem dX10_init_128 : decode cX10_init 128 = .ok (.putfield 53, 3) := by decide +kernel
theorem dX10_init_131 : decode cX10_init 131 = .ok (.aload_n 0, 1) := by decide +kernel
theorem dX10_init_132 : decode cX10_init 132 = .ok (.sipush 257, 3) := by decide +kernel
theorem dX10_init_135 : decode cX10_init 135 = .ok (.newarray .int, 2) := by decide +kernel
theorem dX10_init_137 : decode cX10_init 137 = .ok (.putfield 56, 3) := by decide +kernel
theorem dX10_init_140 : decode cX10_init 140 = .ok (.aload_n 0, 1) := by decide +kernel
theorem dX10_init_141 : decode cX10_init 141 = .ok (.bipush 6, 2) := by decide +kernel
theorem dX10_init_143 : decode cX10_init 143 = .ok (.newarray .int, 2) := by decide +kernel
theorem dX10_init_145 : decode cX10_init 145 = .ok (.putfield 59, 3) := by decide +kernel
theorem dX10_init_148 : decode cX10_init 148 = .ok (.aload_n 0, 1) := by decide +kernel
theorem dX10_init_149 : decode cX10_init 149 = .ok (.bipush 40, 2) := by decide +kernel
theorem dX10_init_151 : decode cX10_init 151 = .ok (.newarray .char, 2) := by decide +kernel
theorem dX10_init_153 : decode cX10_init 153 = .ok (.putfield 62, 3) := by decide +kernel
theorem dX10_init_156 : decode cX10_init 156 = .ok (.aload_n 0, 1) := by decide +kernel
theorem dX10_init_157 : decode cX10_init 157 = .ok (.bipush 60, 2) := by decide +kernel
theorem dX10_init_159 : decode cX10_init 159 = .ok (.newarray .char, 2) := by decide +kernel
theorem dX10_init_161 : decode cX10_init 161 = .ok (.putfield 66, 3) := by decide +kernel
theorem dX10_init_164 : decode cX10_init 164 = .ok (.aload_n 0, 1) := by decide +kernel
theorem dX10_init_165 : decode cX10_init 165 = .ok (.iconst (-1), 1) := by decide +kernel
theorem dX10_init_166 : decode cX10_init 166 = .ok (.putfield 69, 3) := by decide +kernel
theorem dX10_init_169 : decode cX10_init 169 = .ok (.aload_n 0, 1) := by decide +kernel
theorem dX10_init_170 : decode cX10_init 170 = .ok (.sipush 300, 3) := by decide +kernel
theorem dX10_init_173 : decode cX10_init 173 = .ok (.newarray .int, 2) := by decide +kernel
theorem dX10_init_175 : decode cX10_init 175 = .ok (.putfield 73, 3) := by decide +kernel
theorem dX10_init_178 : decode cX10_init 178 = .ok (.return_, 1) := by decide +kernel
theorem dX10_thrown_0 : decode cX10_thrown 0 = .ok (.aload_n 0, 1) := by decide +kernel
theorem dX10_thrown_1 : decode cX10_thrown 1 = .ok (.getfield 76, 3) := by decide +kernel
theorem dX10_thrown_4 : decode cX10_thrown 4 = .ok (.ireturn, 1) := by decide +kernel
theorem dX10_in_0 : decode cX10_in 0 = .ok (.iload_n 0, 1) := by decide +kernel
theorem dX10_in_1 : decode cX10_in 1 = .ok (.iload_n 1, 1) := by decide +kernel
theorem dX10_in_2 : decode cX10_in 2 = .ok (.if_icmp .lt 12, 3) := by decide +kernel
theorem dX10_in_5 : decode cX10_in 5 = .ok (.iload_n 0, 1) := by decide +kernel
theorem dX10_in_6 : decode cX10_in 6 = .ok (.iload_n 2, 1) := by decide +kernel
theorem dX10_in_7 : decode cX10_in 7 = .ok (.if_icmp .gt 7, 3) := by decide +kernel
theorem dX10_in_10 : decode cX10_in 10 = .ok (.iconst 1, 1) := by decide +kernel
theorem dX10_in_11 : decode cX10_in 11 = .ok (.goto 4, 3) := by decide +kernel
theorem dX10_in_14 : decode cX10_in 14 = .ok (.iconst 0, 1) := by decide +kernel
theorem dX10_in_15 : decode cX10_in 15 = .ok (.ireturn, 1) := by decide +kernel
theorem dX10_keep_0 : decode cX10_keep 0 = .ok (.aload_n 0, 1) := by decide +kernel
theorem dX10_keep_1 : decode cX10_keep 1 = .ok (.iconst 0, 1) := by decide +kernel
theorem dX10_keep_2 : decode cX10_keep 2 = .ok (.putfield 76, 3) := by decide +kernel
theorem dX10_keep_5 : decode cX10_keep 5 = .ok (.aload_n 0, 1) := by decide +kernel
theorem dX10_keep_6 : decode cX10_keep 6 = .ok (.getfield 9, 3) := by decide +kernel
theorem dX10_keep_9 : decode cX10_keep 9 = .ok (.iconst 0, 1) := by decide +kernel
theorem dX10_keep_10 : decode cX10_keep 10 = .ok (.aload_n 0, 1) := by decide +kernel
theorem dX10_keep_11 : decode cX10_keep 11 = .ok (.getfield 13, 3) := by decide +kernel
theorem dX10_keep_14 : decode cX10_keep 14 = .ok (.iconst 0, 1) := by decide +kernel
theorem dX10_keep_15 : decode cX10_keep 15 = .ok (.sipush 257, 3) := by decide +kernel
theorem dX10_keep_18 : decode cX10_keep 18 = .ok (.invokestatic 79, 3) := by decide +kernel
theorem dX10_keep_21 : decode cX10_keep 21 = .ok (.return_, 1) := by decide +kernel
theorem dX10_ends_0 : decode cX10_ends 0 = .ok (.aload_n 0, 1) := by decide +kernel
theorem dX10_ends_1 : decode cX10_ends 1 = .ok (.getfield 76, 3) := by decide +kernel
theorem dX10_ends_4 : decode cX10_ends 4 = .ok (.ifCond .le 21, 3) := by decide +kernel
theorem dX10_ends_7 : decode cX10_ends 7 = .ok (.aload_n 0, 1) := by decide +kernel
theorem dX10_ends_8 : decode cX10_ends 8 = .ok (.getfield 13, 3) := by decide +kernel
theorem dX10_ends_11 : decode cX10_ends 11 = .ok (.iconst 0, 1) := by decide +kernel
theorem dX10_ends_12 : decode cX10_ends 12 = .ok (.aload_n 0, 1) := by decide +kernel
theorem dX10_ends_13 : decode cX10_ends 13 = .ok (.getfield 9, 3) := by decide +kernel
theorem dX10_ends_16 : decode cX10_ends 16 = .ok (.iconst 0, 1) := by decide +kernel
theorem dX10_ends_17 : decode cX10_ends 17 = .ok (.sipush 257, 3) := by decide +kernel
theorem dX10_ends_20 : decode cX10_ends 20 = .ok (.invokestatic 79, 3) := by decide +kernel
theorem dX10_ends_23 : decode cX10_ends 23 = .ok (.iconst 0, 1) := by decide +kernel
theorem dX10_ends_24 : decode cX10_ends 24 = .ok (.ireturn, 1) := by decide +kernel
theorem dX10_ends_25 : decode cX10_ends 25 = .ok (.aload_n 0, 1) := by decide +kernel
theorem dX10_ends_26 : decode cX10_ends 26 = .ok (.getfield 85, 3) := by decide +kernel
theorem dX10_ends_29 : decode cX10_ends 29 = .ok (.bipush 8, 2) := by decide +kernel
theorem dX10_ends_31 : decode cX10_ends 31 = .ok (.if_icmp .ne 31, 3) := by decide +kernel
theorem dX10_ends_34 : decode cX10_ends 34 = .ok (.aload_n 0, 1) := by decide +kernel
theorem dX10_ends_35 : decode cX10_ends 35 = .ok (.getfield 19, 3) := by decide +kernel
theorem dX10_ends_38 : decode cX10_ends 38 = .ok (.sipush 257, 3) := by decide +kernel
theorem dX10_ends_41 : decode cX10_ends 41 = .ok (.aload_n 0, 1) := by decide +kernel
theorem dX10_ends_42 : decode cX10_ends 42 = .ok (.getfield 19, 3) := by decide +kernel
theorem dX10_ends_45 : decode cX10_ends 45 = .ok (.iconst 0, 1) := by decide +kernel
theorem dX10_ends_46 : decode cX10_ends 46 = .ok (.sipush 1799, 3) := by decide +kernel
theorem dX10_ends_49 : decode cX10_ends 49 = .ok (.invokestatic 79, 3) := by decide +kernel
theorem dX10_ends_52 : decode cX10_ends 52 = .ok (.aload_n 0, 1) := by decide +kernel
theorem dX10_ends_53 : decode cX10_ends 53 = .ok (.dup, 1) := by decide +kernel
theorem dX10_ends_54 : decode cX10_ends 54 = .ok (.getfield 85, 3) := by decide +kernel
theorem dX10_ends_57 : decode cX10_ends 57 = .ok (.iconst 1, 1) := by decide +kernel
theorem dX10_ends_58 : decode cX10_ends 58 = .ok (.isub, 1) := by decide +kernel
theorem dX10_ends_59 : decode cX10_ends 59 = .ok (.putfield 85, 3) := by decide +kernel
theorem dX10_ends_62 : decode cX10_ends 62 = .ok (.aload_n 0, 1) := by decide +kernel
theorem dX10_ends_63 : decode cX10_ends 63 = .ok (.getfield 13, 3) := by decide +kernel
theorem dX10_ends_66 : decode cX10_ends 66 = .ok (.iconst 0, 1) := by decide +kernel
theorem dX10_ends_67 : decode cX10_ends 67 = .ok (.aload_n 0, 1) := by decide +kernel
theorem dX10_ends_68 : decode cX10_ends 68 = .ok (.getfield 19, 3) := by decide +kernel
theorem dX10_ends_71 : decode cX10_ends 71 = .ok (.sipush 257, 3) := by decide +kernel
theorem dX10_ends_74 : decode cX10_ends 74 = .ok (.aload_n 0, 1) := by decide +kernel
theorem dX10_ends_75 : decode cX10_ends 75 = .ok (.getfield 85, 3) := by decide +kernel
theorem dX10_ends_78 : decode cX10_ends 78 = .ok (.imul, 1) := by decide +kernel
theorem dX10_ends_79 : decode cX10_ends 79 = .ok (.sipush 257, 3) := by decide +kernel
theorem dX10_ends_82 : decode cX10_ends 82 = .ok (.invokestatic 79, 3) := by decide +kernel
theorem dX10_ends_85 : decode cX10_ends 85 = .ok (.aload_n 0, 1) := by decide +kernel
theorem dX10_ends_86 : decode cX10_ends 86 = .ok (.dup, 1) := by decide +kernel
theorem dX10_ends_87 : decode cX10_ends 87 = .ok (.getfield 85, 3) := by decide +kernel
theorem dX10_ends_90 : decode cX10_ends 90 = .ok (.iconst 1, 1) := by decide +kernel
theorem dX10_ends_91 : decode cX10_ends 91 = .ok (.iadd, 1) := by decide +kernel
theorem dX10_ends_92 : decode cX10_ends 92 = .ok (.putfield 85, 3) := by decide +kernel
theorem dX10_ends_95 : decode cX10_ends 95 = .ok (.iload_n 1, 1) := by decide +kernel
theorem dX10_ends_96 : decode cX10_ends 96 = .ok (.ireturn, 1) := by decide +kernel
theorem dX10_fails_0 : decode cX10_fails 0 = .ok (.aload_n 0, 1) := by decide +kernel
theorem dX10_fails_1 : decode cX10_fails 1 = .ok (.iload_n 1, 1) := by decide +kernel
theorem dX10_fails_2 : decode cX10_fails 2 = .ok (.putfield 76, 3) := by decide +kernel
theorem dX10_fails_5 : decode cX10_fails 5 = .ok (.iconst 0, 1) := by decide +kernel
theorem dX10_fails_6 : decode cX10_fails 6 = .ok (.ireturn, 1) := by decide +kernel
theorem dX10_refuse_0 : decode cX10_refuse 0 = .ok (.aload_n 0, 1) := by decide +kernel
theorem dX10_refuse_1 : decode cX10_refuse 1 = .ok (.iconst 2, 1) := by decide +kernel
theorem dX10_refuse_2 : decode cX10_refuse 2 = .ok (.putfield 76, 3) := by decide +kernel
theorem dX10_refuse_5 : decode cX10_refuse 5 = .ok (.aload_n 0, 1) := by decide +kernel
theorem dX10_refuse_6 : decode cX10_refuse 6 = .ok (.iconst 1, 1) := by decide +kernel
theorem dX10_refuse_7 : decode cX10_refuse 7 = .ok (.putfield 88, 3) := by decide +kernel
theorem dX10_refuse_10 : decode cX10_refuse 10 = .ok (.aload_n 0, 1) := by decide +kernel
theorem dX10_refuse_11 : decode cX10_refuse 11 = .ok (.iload_n 1, 1) := by decide +kernel
theorem dX10_refuse_12 : decode cX10_refuse 12 = .ok (.putfield 92, 3) := by decide +kernel
theorem dX10_refuse_15 : decode cX10_refuse 15 = .ok (.aload_n 0, 1) := by decide +kernel
theorem dX10_refuse_16 : decode cX10_refuse 16 = .ok (.iload_n 2, 1) := by decide +kernel
theorem dX10_refuse_17 : decode cX10_refuse 17 = .ok (.putfield 95, 3) := by decide +kernel
theorem dX10_refuse_20 : decode cX10_refuse 20 = .ok (.iconst 0, 1) := by decide +kernel
theorem dX10_refuse_21 : decode cX10_refuse 21 = .ok (.ireturn, 1) := by decide +kernel
theorem dX10_refusal_0 : decode cX10_refusal 0 = .ok (.aload_n 0, 1) := by decide +kernel
theorem dX10_refusal_1 : decode cX10_refusal 1 = .ok (.aload_n 0, 1) := by decide +kernel
theorem dX10_refusal_2 : decode cX10_refusal 2 = .ok (.getfield 92, 3) := by decide +kernel
theorem dX10_refusal_5 : decode cX10_refusal 5 = .ok (.ifCond .ne 7, 3) := by decide +kernel
theorem dX10_refusal_8 : decode cX10_refusal 8 = .ok (.iconst 1, 1) := by decide +kernel
theorem dX10_refusal_9 : decode cX10_refusal 9 = .ok (.goto 4, 3) := by decide +kernel
theorem dX10_refusal_12 : decode cX10_refusal 12 = .ok (.iconst 0, 1) := by decide +kernel
theorem dX10_refusal_13 : decode cX10_refusal 13 = .ok (.putfield 76, 3) := by decide +kernel
theorem dX10_refusal_16 : decode cX10_refusal 16 = .ok (.aload_n 0, 1) := by decide +kernel
theorem dX10_refusal_17 : decode cX10_refusal 17 = .ok (.getfield 76, 3) := by decide +kernel
theorem dX10_refusal_20 : decode cX10_refusal 20 = .ok (.ifCond .le 7, 3) := by decide +kernel
theorem dX10_refusal_23 : decode cX10_refusal 23 = .ok (.iconst 0, 1) := by decide +kernel
theorem dX10_refusal_24 : decode cX10_refusal 24 = .ok (.goto 18, 3) := by decide +kernel
theorem dX10_refusal_27 : decode cX10_refusal 27 = .ok (.iload_n 1, 1) := by decide +kernel
theorem dX10_refusal_28 : decode cX10_refusal 28 = .ok (.ifCond .eq 10, 3) := by decide +kernel
theorem dX10_refusal_31 : decode cX10_refusal 31 = .ok (.aload_n 0, 1) := by decide +kernel
theorem dX10_refusal_32 : decode cX10_refusal 32 = .ok (.getfield 95, 3) := by decide +kernel
theorem dX10_refusal_35 : decode cX10_refusal 35 = .ok (.goto 7, 3) := by decide +kernel
theorem dX10_refusal_38 : decode cX10_refusal 38 = .ok (.aload_n 0, 1) := by decide +kernel
theorem dX10_refusal_39 : decode cX10_refusal 39 = .ok (.getfield 92, 3) := by decide +kernel
theorem dX10_refusal_42 : decode cX10_refusal 42 = .ok (.ireturn, 1) := by decide +kernel
theorem dX10_isRelation_0 : decode cX10_isRelation 0 = .ok (.iload_n 0, 1) := by decide +kernel
theorem dX10_isRelation_1 : decode cX10_isRelation 1 = .ok (.iconst 0, 1) := by decide +kernel
theorem dX10_isRelation_2 : decode cX10_isRelation 2 = .ok (.iconst 5, 1) := by decide +kernel
theorem dX10_isRelation_3 : decode cX10_isRelation 3 = .ok (.invokestatic 98, 3) := by decide +kernel
theorem dX10_isRelation_6 : decode cX10_isRelation 6 = .ok (.ireturn, 1) := by decide +kernel
theorem dX10_isPerson_0 : decode cX10_isPerson 0 = .ok (.iload_n 0, 1) := by decide +kernel
theorem dX10_isPerson_1 : decode cX10_isPerson 1 = .ok (.iconst 0, 1) := by decide +kernel
theorem dX10_isPerson_2 : decode cX10_isPerson 2 = .ok (.iconst 5, 1) := by decide +kernel
theorem dX10_isPerson_3 : decode cX10_isPerson 3 = .ok (.invokestatic 98, 3) := by decide +kernel
theorem dX10_isPerson_6 : decode cX10_isPerson 6 = .ok (.ireturn, 1) := by decide +kernel
theorem dX10_isFact_0 : decode cX10_isFact 0 = .ok (.iload_n 0, 1) := by decide +kernel
theorem dX10_isFact_1 : decode cX10_isFact 1 = .ok (.invokestatic 102, 3) := by decide +kernel
theorem dX10_isFact_4 : decode cX10_isFact 4 = .ok (.ifCond .eq 21, 3) := by decide +kernel
theorem dX10_isFact_7 : decode cX10_isFact 7 = .ok (.iload_n 1, 1) := by decide +kernel
theorem dX10_isFact_8 : decode cX10_isFact 8 = .ok (.invokestatic 106, 3) := by decide +kernel
theorem dX10_isFact_11 : decode cX10_isFact 11 = .ok (.ifCond .eq 14, 3) := by decide +kernel
theorem dX10_isFact_14 : decode cX10_isFact 14 = .ok (.iload_n 2, 1) := by decide +kernel
theorem dX10_isFact_15 : decode cX10_isFact 15 = .ok (.invokestatic 106, 3) := by decide +kernel
theorem dX10_isFact_18 : decode cX10_isFact 18 = .ok (.ifCond .eq 7, 3) := by decide +kernel
theorem dX10_isFact_21 : decode cX10_isFact 21 = .ok (.iconst 1, 1) := by decide +kernel
theorem dX10_isFact_22 : decode cX10_isFact 22 = .ok (.goto 4, 3) := by decide +kernel
theorem dX10_isFact_25 : decode cX10_isFact 25 = .ok (.iconst 0, 1) := by decide +kernel
theorem dX10_isFact_26 : decode cX10_isFact 26 = .ok (.ireturn, 1) := by decide +kernel
theorem dX10_fact_0 : decode cX10_fact 0 = .ok (.bipush 36, 2) := by decide +kernel
theorem dX10_fact_2 : decode cX10_fact 2 = .ok (.iload_n 0, 1) := by decide +kernel
theorem dX10_fact_3 : decode cX10_fact 3 = .ok (.imul, 1) := by decide +kernel
theorem dX10_fact_4 : decode cX10_fact 4 = .ok (.bipush 6, 2) := by decide +kernel
theorem dX10_fact_6 : decode cX10_fact 6 = .ok (.iload_n 1, 1) := by decide +kernel
theorem dX10_fact_7 : decode cX10_fact 7 = .ok (.imul, 1) := by decide +kernel
theorem dX10_fact_8 : decode cX10_fact 8 = .ok (.iadd, 1) := by decide +kernel
theorem dX10_fact_9 : decode cX10_fact 9 = .ok (.iload_n 2, 1) := by decide +kernel
theorem dX10_fact_10 : decode cX10_fact 10 = .ok (.iadd, 1) := by decide +kernel
theorem dX10_fact_11 : decode cX10_fact 11 = .ok (.ireturn, 1) := by decide +kernel
theorem dX10_head_0 : decode cX10_head 0 = .ok (.aload_n 0, 1) := by decide +kernel
theorem dX10_head_1 : decode cX10_head 1 = .ok (.getfield 9, 3) := by decide +kernel
theorem dX10_head_4 : decode cX10_head 4 = .ok (.sipush 217, 3) := by decide +kernel
theorem dX10_head_7 : decode cX10_head 7 = .ok (.iconst 4, 1) := by decide +kernel
theorem dX10_head_8 : decode cX10_head 8 = .ok (.iload_n 1, 1) := by decide +kernel
theorem dX10_head_9 : decode cX10_head 9 = .ok (.imul, 1) := by decide +kernel
theorem dX10_head_10 : decode cX10_head 10 = .ok (.iadd, 1) := by decide +kernel
theorem dX10_head_11 : decode cX10_head 11 = .ok (.iaload, 1) := by decide +kernel
theorem dX10_head_12 : decode cX10_head 12 = .ok (.ireturn, 1) := by decide +kernel
theorem dX10_conditionOf_0 : decode cX10_conditionOf 0 = .ok (.aload_n 0, 1) := by decide +kernel
theorem dX10_conditionOf_1 : decode cX10_conditionOf 1 = .ok (.getfield 9, 3) := by decide +kernel
theorem dX10_conditionOf_4 : decode cX10_conditionOf 4 = .ok (.sipush 217, 3) := by decide +kernel
theorem dX10_conditionOf_7 : decode cX10_conditionOf 7 = .ok (.iconst 4, 1) := by decide +kernel
theorem dX10_conditionOf_8 : decode cX10_conditionOf 8 = .ok (.iload_n 1, 1) := by decide +kernel
theorem dX10_conditionOf_9 : decode cX10_conditionOf 9 = .ok (.imul, 1) := by decide +kernel
theorem dX10_conditionOf_10 : decode cX10_conditionOf 10 = .ok (.iadd, 1) := by decide +kernel
theorem dX10_conditionOf_11 : decode cX10_conditionOf 11 = .ok (.iconst 1, 1) := by decide +kernel
theorem dX10_conditionOf_12 : decode cX10_conditionOf 12 = .ok (.iadd, 1) := by decide +kernel
theorem dX10_conditionOf_13 : decode cX10_conditionOf 13 = .ok (.iload_n 2, 1) := by decide +kernel
theorem dX10_conditionOf_14 : decode cX10_conditionOf 14 = .ok (.iadd, 1) := by decide +kernel
theorem dX10_conditionOf_15 : decode cX10_conditionOf 15 = .ok (.iaload, 1) := by decide +kernel
theorem dX10_conditionOf_16 : decode cX10_conditionOf 16 = .ok (.ireturn, 1) := by decide +kernel
theorem dX10_relationIn_0 : decode cX10_relationIn 0 = .ok (.iload_n 0, 1) := by decide +kernel
theorem dX10_relationIn_1 : decode cX10_relationIn 1 = .ok (.invokestatic 109, 3) := by decide +kernel
theorem dX10_relationIn_4 : decode cX10_relationIn 4 = .ok (.iconst 1, 1) := by decide +kernel
theorem dX10_relationIn_5 : decode cX10_relationIn 5 = .ok (.isub, 1) := by decide +kernel
theorem dX10_relationIn_6 : decode cX10_relationIn 6 = .ok (.bipush 9, 2) := by decide +kernel
theorem dX10_relationIn_8 : decode cX10_relationIn 8 = .ok (.idiv, 1) := by decide +kernel
theorem dX10_relationIn_9 : decode cX10_relationIn 9 = .ok (.ireturn, 1) := by decide +kernel
theorem dX10_letterIn_0 : decode cX10_letterIn 0 = .ok (.iload_n 0, 1) := by decide +kernel
theorem dX10_letterIn_1 : decode cX10_letterIn 1 = .ok (.invokestatic 109, 3) := by decide +kernel
theorem dX10_letterIn_4 : decode cX10_letterIn 4 = .ok (.iconst 1, 1) := by decide +kernel
theorem dX10_letterIn_5 : decode cX10_letterIn 5 = .ok (.isub, 1) := by decide +kernel
theorem dX10_letterIn_6 : decode cX10_letterIn 6 = .ok (.bipush 9, 2) := by decide +kernel
theorem dX10_letterIn_8 : decode cX10_letterIn 8 = .ok (.irem, 1) := by decide +kernel
theorem dX10_letterIn_9 : decode cX10_letterIn 9 = .ok (.istore_n 2, 1) := by decide +kernel
theorem dX10_letterIn_10 : decode cX10_letterIn 10 = .ok (.iload_n 1, 1) := by decide +kernel
theorem dX10_letterIn_11 : decode cX10_letterIn 11 = .ok (.ifCond .eq 9, 3) := by decide +kernel
theorem dX10_letterIn_14 : decode cX10_letterIn 14 = .ok (.iload_n 2, 1) := by decide +kernel
theorem dX10_letterIn_15 : decode cX10_letterIn 15 = .ok (.iconst 3, 1) := by decide +kernel
theorem dX10_letterIn_16 : decode cX10_letterIn 16 = .ok (.irem, 1) := by decide +kernel
theorem dX10_letterIn_17 : decode cX10_letterIn 17 = .ok (.goto 6, 3) := by decide +kernel
theorem dX10_letterIn_20 : decode cX10_letterIn 20 = .ok (.iload_n 2, 1) := by decide +kernel
theorem dX10_letterIn_21 : decode cX10_letterIn 21 = .ok (.iconst 3, 1) := by decide +kernel
theorem dX10_letterIn_22 : decode cX10_letterIn 22 = .ok (.idiv, 1) := by decide +kernel
theorem dX10_letterIn_23 : decode cX10_letterIn 23 = .ok (.ireturn, 1) := by decide +kernel
theorem dX10_hasLetter_0 : decode cX10_hasLetter 0 = .ok (.iload_n 0, 1) := by decide +kernel
theorem dX10_hasLetter_1 : decode cX10_hasLetter 1 = .ok (.ifCond .eq 25, 3) := by decide +kernel
theorem dX10_hasLetter_4 : decode cX10_hasLetter 4 = .ok (.iload_n 0, 1) := by decide +kernel
theorem dX10_hasLetter_5 : decode cX10_hasLetter 5 = .ok (.iconst 0, 1) := by decide +kernel
theorem dX10_hasLetter_6 : decode cX10_hasLetter 6 = .ok (.invokestatic 115, 3) := by decide +kernel
theorem dX10_hasLetter_9 : decode cX10_hasLetter 9 = .ok (.iload_n 1, 1) := by decide +kernel
theorem dX10_hasLetter_10 : decode cX10_hasLetter 10 = .ok (.if_icmp .eq 12, 3) := by decide +kernel
theorem dX10_hasLetter_13 : decode cX10_hasLetter 13 = .ok (.iload_n 0, 1) := by decide +kernel
theorem dX10_hasLetter_14 : decode cX10_hasLetter 14 = .ok (.iconst 1, 1) := by decide +kernel
theorem dX10_hasLetter_15 : decode cX10_hasLetter 15 = .ok (.invokestatic 115, 3) := by decide +kernel
theorem dX10_hasLetter_18 : decode cX10_hasLetter 18 = .ok (.iload_n 1, 1) := by decide +kernel
theorem dX10_hasLetter_19 : decode cX10_hasLetter 19 = .ok (.if_icmp .ne 7, 3) := by decide +kernel
theorem dX10_hasLetter_22 : decode cX10_hasLetter 22 = .ok (.iconst 1, 1) := by decide +kernel
theorem dX10_hasLetter_23 : decode cX10_hasLetter 23 = .ok (.goto 4, 3) := by decide +kernel
theorem dX10_hasLetter_26 : decode cX10_hasLetter 26 = .ok (.iconst 0, 1) := by decide +kernel
theorem dX10_hasLetter_27 : decode cX10_hasLetter 27 = .ok (.ireturn, 1) := by decide +kernel
theorem dX10_ruleHas_0 : decode cX10_ruleHas 0 = .ok (.iconst 0, 1) := by decide +kernel
theorem dX10_ruleHas_1 : decode cX10_ruleHas 1 = .ok (.istore_n 3, 1) := by decide +kernel
theorem dX10_ruleHas_2 : decode cX10_ruleHas 2 = .ok (.iconst 0, 1) := by decide +kernel
theorem dX10_ruleHas_3 : decode cX10_ruleHas 3 = .ok (.istore 4, 2) := by decide +kernel
theorem dX10_ruleHas_5 : decode cX10_ruleHas 5 = .ok (.iload 4, 2) := by decide +kernel
theorem dX10_ruleHas_7 : decode cX10_ruleHas 7 = .ok (.iconst 3, 1) := by decide +kernel
theorem dX10_ruleHas_8 : decode cX10_ruleHas 8 = .ok (.if_icmp .ge 33, 3) := by decide +kernel
theorem dX10_ruleHas_11 : decode cX10_ruleHas 11 = .ok (.iload_n 3, 1) := by decide +kernel
theorem dX10_ruleHas_12 : decode cX10_ruleHas 12 = .ok (.ifCond .ne 17, 3) := by decide +kernel
theorem dX10_ruleHas_15 : decode cX10_ruleHas 15 = .ok (.aload_n 0, 1) := by decide +kernel
theorem dX10_ruleHas_16 : decode cX10_ruleHas 16 = .ok (.iload_n 1, 1) := by decide +kernel
theorem dX10_ruleHas_17 : decode cX10_ruleHas 17 = .ok (.iload 4, 2) := by decide +kernel
theorem dX10_ruleHas_19 : decode cX10_ruleHas 19 = .ok (.invokevirtual 119, 3) := by decide +kernel
theorem dX10_ruleHas_22 : decode cX10_ruleHas 22 = .ok (.iload_n 2, 1) := by decide +kernel
theorem dX10_ruleHas_23 : decode cX10_ruleHas 23 = .ok (.invokestatic 123, 3) := by decide +kernel
theorem dX10_ruleHas_26 : decode cX10_ruleHas 26 = .ok (.ifCond .eq 7, 3) := by decide +kernel
theorem dX10_ruleHas_29 : decode cX10_ruleHas 29 = .ok (.iconst 1, 1) := by decide +kernel
theorem dX10_ruleHas_30 : decode cX10_ruleHas 30 = .ok (.goto 4, 3) := by decide +kernel
theorem dX10_ruleHas_33 : decode cX10_ruleHas 33 = .ok (.iconst 0, 1) := by decide +kernel
theorem dX10_ruleHas_34 : decode cX10_ruleHas 34 = .ok (.istore_n 3, 1) := by decide +kernel
theorem dX10_ruleHas_35 : decode cX10_ruleHas 35 = .ok (.iinc 4 1, 3) := by decide +kernel
theorem dX10_ruleHas_38 : decode cX10_ruleHas 38 = .ok (.goto (-33), 3) := by decide +kernel
theorem dX10_ruleHas_41 : decode cX10_ruleHas 41 = .ok (.iload_n 3, 1) := by decide +kernel
theorem dX10_ruleHas_42 : decode cX10_ruleHas 42 = .ok (.ireturn, 1) := by decide +kernel
theorem dX10_conditionMany_0 : decode cX10_conditionMany 0 = .ok (.iconst 0, 1) := by decide +kernel
theorem dX10_conditionMany_1 : decode cX10_conditionMany 1 = .ok (.istore_n 3, 1) := by decide +kernel
theorem dX10_conditionMany_2 : decode cX10_conditionMany 2 = .ok (.iconst 0, 1) := by decide +kernel
theorem dX10_conditionMany_3 : decode cX10_conditionMany 3 = .ok (.istore 4, 2) := by decide +kernel
theorem dX10_conditionMany_5 : decode cX10_conditionMany 5 = .ok (.iload 4, 2) := by decide +kernel
theorem dX10_conditionMany_7 : decode cX10_conditionMany 7 = .ok (.iconst 3, 1) := by decide +kernel
theorem dX10_conditionMany_8 : decode cX10_conditionMany 8 = .ok (.if_icmp .ge 48, 3) := by decide +kernel
theorem dX10_conditionMany_11 : decode cX10_conditionMany 11 = .ok (.aload_n 0, 1) := by decide +kernel
theorem dX10_conditionMany_12 : decode cX10_conditionMany 12 = .ok (.iload_n 1, 1) := by decide +kernel
theorem dX10_conditionMany_13 : decode cX10_conditionMany 13 = .ok (.iload 4, 2) := by decide +kernel
theorem dX10_conditionMany_15 : decode cX10_conditionMany 15 = .ok (.invokevirtual 119, 3) := by decide +kernel
theorem dX10_conditionMany_18 : decode cX10_conditionMany 18 = .ok (.istore 5, 2) := by decide +kernel
theorem dX10_conditionMany_20 : decode cX10_conditionMany 20 = .ok (.iload_n 3, 1) := by decide +kernel
theorem dX10_conditionMany_21 : decode cX10_conditionMany 21 = .ok (.iload_n 2, 1) := by decide +kernel
theorem dX10_conditionMany_22 : decode cX10_conditionMany 22 = .ok (.ifCond .eq 16, 3) := by decide +kernel
theorem dX10_conditionMany_25 : decode cX10_conditionMany 25 = .ok (.iload 5, 2) := by decide +kernel
theorem dX10_conditionMany_27 : decode cX10_conditionMany 27 = .ok (.ifCond .ge 7, 3) := by decide +kernel
theorem dX10_conditionMany_30 : decode cX10_conditionMany 30 = .ok (.iconst 1, 1) := by decide +kernel
theorem dX10_conditionMany_31 : decode cX10_conditionMany 31 = .ok (.goto 17, 3) := by decide +kernel
theorem dX10_conditionMany_34 : decode cX10_conditionMany 34 = .ok (.iconst 0, 1) := by decide +kernel
theorem dX10_conditionMany_35 : decode cX10_conditionMany 35 = .ok (.goto 13, 3) := by decide +kernel
theorem dX10_conditionMany_38 : decode cX10_conditionMany 38 = .ok (.iload 5, 2) := by decide +kernel
theorem dX10_conditionMany_40 : decode cX10_conditionMany 40 = .ok (.ifCond .eq 7, 3) := by decide +kernel
theorem dX10_conditionMany_43 : decode cX10_conditionMany 43 = .ok (.iconst 1, 1) := by decide +kernel
theorem dX10_conditionMany_44 : decode cX10_conditionMany 44 = .ok (.goto 4, 3) := by decide +kernel
theorem dX10_conditionMany_47 : decode cX10_conditionMany 47 = .ok (.iconst 0, 1) := by decide +kernel
theorem dX10_conditionMany_48 : decode cX10_conditionMany 48 = .ok (.iadd, 1) := by decide +kernel
theorem dX10_conditionMany_49 : decode cX10_conditionMany 49 = .ok (.istore_n 3, 1) := by decide +kernel
theorem dX10_conditionMany_50 : decode cX10_conditionMany 50 = .ok (.iinc 4 1, 3) := by decide +kernel
theorem dX10_conditionMany_53 : decode cX10_conditionMany 53 = .ok (.goto (-48), 3) := by decide +kernel
theorem dX10_conditionMany_56 : decode cX10_conditionMany 56 = .ok (.iload_n 3, 1) := by decide +kernel
theorem dX10_conditionMany_57 : decode cX10_conditionMany 57 = .ok (.ireturn, 1) := by decide +kernel
theorem dX10_layers_0 : decode cX10_layers 0 = .ok (.iconst 0, 1) := by decide +kernel
theorem dX10_layers_1 : decode cX10_layers 1 = .ok (.istore_n 2, 1) := by decide +kernel
theorem dX10_layers_2 : decode cX10_layers 2 = .ok (.iload_n 2, 1) := by decide +kernel
theorem dX10_layers_3 : decode cX10_layers 3 = .ok (.bipush 6, 2) := by decide +kernel
theorem dX10_layers_5 : decode cX10_layers 5 = .ok (.if_icmp .ge 16, 3) := by decide +kernel
theorem dX10_layers_8 : decode cX10_layers 8 = .ok (.aload_n 0, 1) := by decide +kernel
theorem dX10_layers_9 : decode cX10_layers 9 = .ok (.getfield 22, 3) := by decide +kernel
theorem dX10_layers_12 : decode cX10_layers 12 = .ok (.iload_n 2, 1) := by decide +kernel
theorem dX10_layers_13 : decode cX10_layers 13 = .ok (.iconst 0, 1) := by decide +kernel
theorem dX10_layers_14 : decode cX10_layers 14 = .ok (.iastore, 1) := by decide +kernel
theorem dX10_layers_15 : decode cX10_layers 15 = .ok (.iinc 2 1, 3) := by decide +kernel
theorem dX10_layers_18 : decode cX10_layers 18 = .ok (.goto (-16), 3) := by decide +kernel
theorem dX10_layers_21 : decode cX10_layers 21 = .ok (.iconst 0, 1) := by decide +kernel
theorem dX10_layers_22 : decode cX10_layers 22 = .ok (.istore_n 2, 1) := by decide +kernel
theorem dX10_layers_23 : decode cX10_layers 23 = .ok (.iload_n 2, 1) := by decide +kernel
theorem dX10_layers_24 : decode cX10_layers 24 = .ok (.bipush 6, 2) := by decide +kernel
theorem dX10_layers_26 : decode cX10_layers 26 = .ok (.if_icmp .gt 115, 3) := by decide +kernel
theorem dX10_layers_29 : decode cX10_layers 29 = .ok (.iconst 1, 1) := by decide +kernel
theorem dX10_layers_30 : decode cX10_layers 30 = .ok (.istore_n 3, 1) := by decide +kernel
theorem dX10_layers_31 : decode cX10_layers 31 = .ok (.iconst 0, 1) := by decide +kernel
theorem dX10_layers_32 : decode cX10_layers 32 = .ok (.istore 4, 2) := by decide +kernel
theorem dX10_layers_34 : decode cX10_layers 34 = .ok (.iload 4, 2) := by decide +kernel
theorem dX10_layers_36 : decode cX10_layers 36 = .ok (.iload_n 1, 1) := by decide +kernel
theorem dX10_layers_37 : decode cX10_layers 37 = .ok (.iconst 3, 1) := by decide +kernel
theorem dX10_layers_38 : decode cX10_layers 38 = .ok (.imul, 1) := by decide +kernel
theorem dX10_layers_39 : decode cX10_layers 39 = .ok (.if_icmp .ge 90, 3) := by decide +kernel
theorem dX10_layers_42 : decode cX10_layers 42 = .ok (.aload_n 0, 1) := by decide +kernel
theorem dX10_layers_43 : decode cX10_layers 43 = .ok (.iload 4, 2) := by decide +kernel
theorem dX10_layers_45 : decode cX10_layers 45 = .ok (.iconst 3, 1) := by decide +kernel
theorem dX10_layers_46 : decode cX10_layers 46 = .ok (.idiv, 1) := by decide +kernel
theorem dX10_layers_47 : decode cX10_layers 47 = .ok (.iload 4, 2) := by decide +kernel
theorem dX10_layers_49 : decode cX10_layers 49 = .ok (.iconst 3, 1) := by decide +kernel
theorem dX10_layers_50 : decode cX10_layers 50 = .ok (.irem, 1) := by decide +kernel
theorem dX10_layers_51 : decode cX10_layers 51 = .ok (.invokevirtual 119, 3) := by decide +kernel
theorem dX10_layers_54 : decode cX10_layers 54 = .ok (.istore 5, 2) := by decide +kernel
theorem dX10_layers_56 : decode cX10_layers 56 = .ok (.iload 5, 2) := by decide +kernel
theorem dX10_layers_58 : decode cX10_layers 58 = .ok (.ifCond .ne 7, 3) := by decide +kernel
theorem dX10_layers_61 : decode cX10_layers 61 = .ok (.iconst 0, 1) := by decide +kernel
theorem dX10_layers_62 : decode cX10_layers 62 = .ok (.goto 24, 3) := by decide +kernel
theorem dX10_layers_65 : decode cX10_layers 65 = .ok (.aload_n 0, 1) := by decide +kernel
theorem dX10_layers_66 : decode cX10_layers 66 = .ok (.getfield 22, 3) := by decide +kernel
theorem dX10_layers_69 : decode cX10_layers 69 = .ok (.iload 5, 2) := by decide +kernel
theorem dX10_layers_71 : decode cX10_layers 71 = .ok (.invokestatic 127, 3) := by decide +kernel
theorem dX10_layers_74 : decode cX10_layers 74 = .ok (.iaload, 1) := by decide +kernel
theorem dX10_layers_75 : decode cX10_layers 75 = .ok (.iload 5, 2) := by decide +kernel
theorem dX10_layers_77 : decode cX10_layers 77 = .ok (.ifCond .ge 7, 3) := by decide +kernel
theorem dX10_layers_80 : decode cX10_layers 80 = .ok (.iconst 1, 1) := by decide +kernel
theorem dX10_layers_81 : decode cX10_layers 81 = .ok (.goto 4, 3) := by decide +kernel
theorem dX10_layers_84 : decode cX10_layers 84 = .ok (.iconst 0, 1) := by decide +kernel
theorem dX10_layers_85 : decode cX10_layers 85 = .ok (.iadd, 1) := by decide +kernel
theorem dX10_layers_86 : decode cX10_layers 86 = .ok (.istore 6, 2) := by decide +kernel
theorem dX10_layers_88 : decode cX10_layers 88 = .ok (.aload_n 0, 1) := by decide +kernel
theorem dX10_layers_89 : decode cX10_layers 89 = .ok (.getfield 22, 3) := by decide +kernel
theorem dX10_layers_92 : decode cX10_layers 92 = .ok (.aload_n 0, 1) := by decide +kernel
theorem dX10_layers_93 : decode cX10_layers 93 = .ok (.iload 4, 2) := by decide +kernel
theorem dX10_layers_95 : decode cX10_layers 95 = .ok (.iconst 3, 1) := by decide +kernel
theorem dX10_layers_96 : decode cX10_layers 96 = .ok (.idiv, 1) := by decide +kernel
theorem dX10_layers_97 : decode cX10_layers 97 = .ok (.invokevirtual 130, 3) := by decide +kernel
theorem dX10_layers_100 : decode cX10_layers 100 = .ok (.iaload, 1) := by decide +kernel
theorem dX10_layers_101 : decode cX10_layers 101 = .ok (.iload 6, 2) := by decide +kernel
theorem dX10_layers_103 : decode cX10_layers 103 = .ok (.if_icmp .ge 20, 3) := by decide +kernel
theorem dX10_layers_106 : decode cX10_layers 106 = .ok (.aload_n 0, 1) := by decide +kernel
theorem dX10_layers_107 : decode cX10_layers 107 = .ok (.getfield 22, 3) := by decide +kernel
theorem dX10_layers_110 : decode cX10_layers 110 = .ok (.aload_n 0, 1) := by decide +kernel
theorem dX10_layers_111 : decode cX10_layers 111 = .ok (.iload 4, 2) := by decide +kernel
theorem dX10_layers_113 : decode cX10_layers 113 = .ok (.iconst 3, 1) := by decide +kernel
theorem dX10_layers_114 : decode cX10_layers 114 = .ok (.idiv, 1) := by decide +kernel
theorem dX10_layers_115 : decode cX10_layers 115 = .ok (.invokevirtual 130, 3) := by decide +kernel
theorem dX10_layers_118 : decode cX10_layers 118 = .ok (.iload 6, 2) := by decide +kernel
theorem dX10_layers_120 : decode cX10_layers 120 = .ok (.iastore, 1) := by decide +kernel
theorem dX10_layers_121 : decode cX10_layers 121 = .ok (.iconst 0, 1) := by decide +kernel
theorem dX10_layers_122 : decode cX10_layers 122 = .ok (.istore_n 3, 1) := by decide +kernel
theorem dX10_layers_123 : decode cX10_layers 123 = .ok (.iinc 4 1, 3) := by decide +kernel
theorem dX10_layers_126 : decode cX10_layers 126 = .ok (.goto (-92), 3) := by decide +kernel
theorem dX10_layers_129 : decode cX10_layers 129 = .ok (.iload_n 3, 1) := by decide +kernel
theorem dX10_layers_130 : decode cX10_layers 130 = .ok (.ifCond .eq 5, 3) := by decide +kernel
theorem dX10_layers_133 : decode cX10_layers 133 = .ok (.iconst 1, 1) := by decide +kernel
theorem dX10_layers_134 : decode cX10_layers 134 = .ok (.ireturn, 1) := by decide +kernel
theorem dX10_layers_135 : decode cX10_layers 135 = .ok (.iinc 2 1, 3) := by decide +kernel
theorem dX10_layers_138 : decode cX10_layers 138 = .ok (.goto (-115), 3) := by decide +kernel
theorem dX10_layers_141 : decode cX10_layers 141 = .ok (.aload_n 0, 1) := by decide +kernel
theorem dX10_layers_142 : decode cX10_layers 142 = .ok (.iload_n 1, 1) := by decide +kernel
theorem dX10_layers_143 : decode cX10_layers 143 = .ok (.invokevirtual 133, 3) := by decide +kernel
theorem dX10_layers_146 : decode cX10_layers 146 = .ok (.ireturn, 1) := by decide +kernel
theorem dX10_settles_0 : decode cX10_settles 0 = .ok (.iconst 0, 1) := by decide +kernel
theorem dX10_settles_1 : decode cX10_settles 1 = .ok (.istore_n 2, 1) := by decide +kernel
theorem dX10_settles_2 : decode cX10_settles 2 = .ok (.iload_n 2, 1) := by decide +kernel
theorem dX10_settles_3 : decode cX10_settles 3 = .ok (.ifCond .ne 109, 3) := by decide +kernel
theorem dX10_settles_6 : decode cX10_settles 6 = .ok (.iconst 1, 1) := by decide +kernel
theorem dX10_settles_7 : decode cX10_settles 7 = .ok (.istore_n 2, 1) := by decide +kernel
theorem dX10_settles_8 : decode cX10_settles 8 = .ok (.iconst 0, 1) := by decide +kernel
theorem dX10_settles_9 : decode cX10_settles 9 = .ok (.istore_n 3, 1) := by decide +kernel
theorem dX10_settles_10 : decode cX10_settles 10 = .ok (.iload_n 3, 1) := by decide +kernel
theorem dX10_settles_11 : decode cX10_settles 11 = .ok (.iload_n 1, 1) := by decide +kernel
theorem dX10_settles_12 : decode cX10_settles 12 = .ok (.iconst 3, 1) := by decide +kernel
theorem dX10_settles_13 : decode cX10_settles 13 = .ok (.imul, 1) := by decide +kernel
theorem dX10_settles_14 : decode cX10_settles 14 = .ok (.if_icmp .ge 95, 3) := by decide +kernel
theorem dX10_settles_17 : decode cX10_settles 17 = .ok (.aload_n 0, 1) := by decide +kernel
theorem dX10_settles_18 : decode cX10_settles 18 = .ok (.iload_n 3, 1) := by decide +kernel
theorem dX10_settles_19 : decode cX10_settles 19 = .ok (.iconst 3, 1) := by decide +kernel
theorem dX10_settles_20 : decode cX10_settles 20 = .ok (.idiv, 1) := by decide +kernel
theorem dX10_settles_21 : decode cX10_settles 21 = .ok (.iload_n 3, 1) := by decide +kernel
theorem dX10_settles_22 : decode cX10_settles 22 = .ok (.iconst 3, 1) := by decide +kernel
theorem dX10_settles_23 : decode cX10_settles 23 = .ok (.irem, 1) := by decide +kernel
theorem dX10_settles_24 : decode cX10_settles 24 = .ok (.invokevirtual 119, 3) := by decide +kernel
theorem dX10_settles_27 : decode cX10_settles 27 = .ok (.istore 4, 2) := by decide +kernel
theorem dX10_settles_29 : decode cX10_settles 29 = .ok (.iload 4, 2) := by decide +kernel
theorem dX10_settles_31 : decode cX10_settles 31 = .ok (.ifCond .ne 7, 3) := by decide +kernel
theorem dX10_settles_34 : decode cX10_settles 34 = .ok (.iconst 0, 1) := by decide +kernel
theorem dX10_settles_35 : decode cX10_settles 35 = .ok (.goto 24, 3) := by decide +kernel
theorem dX10_settles_38 : decode cX10_settles 38 = .ok (.aload_n 0, 1) := by decide +kernel
theorem dX10_settles_39 : decode cX10_settles 39 = .ok (.getfield 22, 3) := by decide +kernel
theorem dX10_settles_42 : decode cX10_settles 42 = .ok (.iload 4, 2) := by decide +kernel
theorem dX10_settles_44 : decode cX10_settles 44 = .ok (.invokestatic 127, 3) := by decide +kernel
theorem dX10_settles_47 : decode cX10_settles 47 = .ok (.iaload, 1) := by decide +kernel
theorem dX10_settles_48 : decode cX10_settles 48 = .ok (.iload 4, 2) := by decide +kernel
theorem dX10_settles_50 : decode cX10_settles 50 = .ok (.ifCond .ge 7, 3) := by decide +kernel
theorem dX10_settles_53 : decode cX10_settles 53 = .ok (.iconst 1, 1) := by decide +kernel
theorem dX10_settles_54 : decode cX10_settles 54 = .ok (.goto 4, 3) := by decide +kernel
theorem dX10_settles_57 : decode cX10_settles 57 = .ok (.iconst 0, 1) := by decide +kernel
theorem dX10_settles_58 : decode cX10_settles 58 = .ok (.iadd, 1) := by decide +kernel
theorem dX10_settles_59 : decode cX10_settles 59 = .ok (.istore 5, 2) := by decide +kernel
theorem dX10_settles_61 : decode cX10_settles 61 = .ok (.aload_n 0, 1) := by decide +kernel
theorem dX10_settles_62 : decode cX10_settles 62 = .ok (.getfield 22, 3) := by decide +kernel
theorem dX10_settles_65 : decode cX10_settles 65 = .ok (.aload_n 0, 1) := by decide +kernel
theorem dX10_settles_66 : decode cX10_settles 66 = .ok (.iload_n 3, 1) := by decide +kernel
theorem dX10_settles_67 : decode cX10_settles 67 = .ok (.iconst 3, 1) := by decide +kernel
theorem dX10_settles_68 : decode cX10_settles 68 = .ok (.idiv, 1) := by decide +kernel
theorem dX10_settles_69 : decode cX10_settles 69 = .ok (.invokevirtual 130, 3) := by decide +kernel
theorem dX10_settles_72 : decode cX10_settles 72 = .ok (.iaload, 1) := by decide +kernel
theorem dX10_settles_73 : decode cX10_settles 73 = .ok (.iload 5, 2) := by decide +kernel
theorem dX10_settles_75 : decode cX10_settles 75 = .ok (.if_icmp .ge 19, 3) := by decide +kernel
theorem dX10_settles_78 : decode cX10_settles 78 = .ok (.aload_n 0, 1) := by decide +kernel
theorem dX10_settles_79 : decode cX10_settles 79 = .ok (.getfield 22, 3) := by decide +kernel
theorem dX10_settles_82 : decode cX10_settles 82 = .ok (.aload_n 0, 1) := by decide +kernel
theorem dX10_settles_83 : decode cX10_settles 83 = .ok (.iload_n 3, 1) := by decide +kernel
theorem dX10_settles_84 : decode cX10_settles 84 = .ok (.iconst 3, 1) := by decide +kernel
theorem dX10_settles_85 : decode cX10_settles 85 = .ok (.idiv, 1) := by decide +kernel
theorem dX10_settles_86 : decode cX10_settles 86 = .ok (.invokevirtual 130, 3) := by decide +kernel
theorem dX10_settles_89 : decode cX10_settles 89 = .ok (.iload 5, 2) := by decide +kernel
theorem dX10_settles_91 : decode cX10_settles 91 = .ok (.iastore, 1) := by decide +kernel
theorem dX10_settles_92 : decode cX10_settles 92 = .ok (.iconst 0, 1) := by decide +kernel
theorem dX10_settles_93 : decode cX10_settles 93 = .ok (.istore_n 2, 1) := by decide +kernel
theorem dX10_settles_94 : decode cX10_settles 94 = .ok (.iload 5, 2) := by decide +kernel
theorem dX10_settles_96 : decode cX10_settles 96 = .ok (.bipush 6, 2) := by decide +kernel
theorem dX10_settles_98 : decode cX10_settles 98 = .ok (.if_icmp .lt 5, 3) := by decide +kernel
theorem dX10_settles_101 : decode cX10_settles 101 = .ok (.iconst 0, 1) := by decide +kernel
theorem dX10_settles_102 : decode cX10_settles 102 = .ok (.ireturn, 1) := by decide +kernel
theorem dX10_settles_103 : decode cX10_settles 103 = .ok (.iinc 3 1, 3) := by decide +kernel
theorem dX10_settles_106 : decode cX10_settles 106 = .ok (.goto (-96), 3) := by decide +kernel
theorem dX10_settles_109 : decode cX10_settles 109 = .ok (.goto (-107), 3) := by decide +kernel
theorem dX10_settles_112 : decode cX10_settles 112 = .ok (.iconst 1, 1) := by decide +kernel
theorem dX10_settles_113 : decode cX10_settles 113 = .ok (.ireturn, 1) := by decide +kernel
theorem dX10_layerMany_0 : decode cX10_layerMany 0 = .ok (.aload_n 0, 1) := by decide +kernel
theorem dX10_layerMany_1 : decode cX10_layerMany 1 = .ok (.aload_n 0, 1) := by decide +kernel
theorem dX10_layerMany_2 : decode cX10_layerMany 2 = .ok (.getfield 9, 3) := by decide +kernel
theorem dX10_layerMany_5 : decode cX10_layerMany 5 = .ok (.sipush 216, 3) := by decide +kernel
theorem dX10_layerMany_8 : decode cX10_layerMany 8 = .ok (.iaload, 1) := by decide +kernel
theorem dX10_layerMany_9 : decode cX10_layerMany 9 = .ok (.invokevirtual 136, 3) := by decide +kernel
theorem dX10_layerMany_12 : decode cX10_layerMany 12 = .ok (.istore_n 1, 1) := by decide +kernel
theorem dX10_layerMany_13 : decode cX10_layerMany 13 = .ok (.iconst 0, 1) := by decide +kernel
theorem dX10_layerMany_14 : decode cX10_layerMany 14 = .ok (.istore_n 2, 1) := by decide +kernel
theorem dX10_layerMany_15 : decode cX10_layerMany 15 = .ok (.iconst 0, 1) := by decide +kernel
theorem dX10_layerMany_16 : decode cX10_layerMany 16 = .ok (.istore_n 3, 1) := by decide +kernel
theorem dX10_layerMany_17 : decode cX10_layerMany 17 = .ok (.iload_n 3, 1) := by decide +kernel
theorem dX10_layerMany_18 : decode cX10_layerMany 18 = .ok (.bipush 6, 2) := by decide +kernel
theorem dX10_layerMany_20 : decode cX10_layerMany 20 = .ok (.if_icmp .ge 20, 3) := by decide +kernel
theorem dX10_layerMany_23 : decode cX10_layerMany 23 = .ok (.iload_n 2, 1) := by decide +kernel
theorem dX10_layerMany_24 : decode cX10_layerMany 24 = .ok (.aload_n 0, 1) := by decide +kernel
theorem dX10_layerMany_25 : decode cX10_layerMany 25 = .ok (.getfield 22, 3) := by decide +kernel
theorem dX10_layerMany_28 : decode cX10_layerMany 28 = .ok (.iload_n 3, 1) := by decide +kernel
theorem dX10_layerMany_29 : decode cX10_layerMany 29 = .ok (.iaload, 1) := by decide +kernel
theorem dX10_layerMany_30 : decode cX10_layerMany 30 = .ok (.invokestatic 139, 3) := by decide +kernel
theorem dX10_layerMany_33 : decode cX10_layerMany 33 = .ok (.istore_n 2, 1) := by decide +kernel
theorem dX10_layerMany_34 : decode cX10_layerMany 34 = .ok (.iinc 3 1, 3) := by decide +kernel
theorem dX10_layerMany_37 : decode cX10_layerMany 37 = .ok (.goto (-20), 3) := by decide +kernel
theorem dX10_layerMany_40 : decode cX10_layerMany 40 = .ok (.iload_n 2, 1) := by decide +kernel
theorem dX10_layerMany_41 : decode cX10_layerMany 41 = .ok (.iconst 1, 1) := by decide +kernel
theorem dX10_layerMany_42 : decode cX10_layerMany 42 = .ok (.iadd, 1) := by decide +kernel
theorem dX10_layerMany_43 : decode cX10_layerMany 43 = .ok (.ireturn, 1) := by decide +kernel
theorem dX10_factOfCondition_0 : decode cX10_factOfCondition 0 = .ok (.iload_n 1, 1) := by decide +kernel
theorem dX10_factOfCondition_1 : decode cX10_factOfCondition 1 = .ok (.invokestatic 127, 3) := by decide +kernel
theorem dX10_factOfCondition_4 : decode cX10_factOfCondition 4 = .ok (.aload_n 0, 1) := by decide +kernel
theorem dX10_factOfCondition_5 : decode cX10_factOfCondition 5 = .ok (.getfield 40, 3) := by decide +kernel
theorem dX10_factOfCondition_8 : decode cX10_factOfCondition 8 = .ok (.iload_n 1, 1) := by decide +kernel
theorem dX10_factOfCondition_9 : decode cX10_factOfCondition 9 = .ok (.iconst 0, 1) := by decide +kernel
theorem dX10_factOfCondition_10 : decode cX10_factOfCondition 10 = .ok (.invokestatic 115, 3) := by decide +kernel
theorem dX10_factOfCondition_13 : decode cX10_factOfCondition 13 = .ok (.iaload, 1) := by decide +kernel
theorem dX10_factOfCondition_14 : decode cX10_factOfCondition 14 = .ok (.aload_n 0, 1) := by decide +kernel
theorem dX10_factOfCondition_15 : decode cX10_factOfCondition 15 = .ok (.getfield 40, 3) := by decide +kernel
theorem dX10_factOfCondition_18 : decode cX10_factOfCondition 18 = .ok (.iload_n 1, 1) := by decide +kernel
theorem dX10_factOfCondition_19 : decode cX10_factOfCondition 19 = .ok (.iconst 1, 1) := by decide +kernel
theorem dX10_factOfCondition_20 : decode cX10_factOfCondition 20 = .ok (.invokestatic 115, 3) := by decide +kernel
theorem dX10_factOfCondition_23 : decode cX10_factOfCondition 23 = .ok (.iaload, 1) := by decide +kernel
theorem dX10_factOfCondition_24 : decode cX10_factOfCondition 24 = .ok (.invokestatic 142, 3) := by decide +kernel
theorem dX10_factOfCondition_27 : decode cX10_factOfCondition 27 = .ok (.ireturn, 1) := by decide +kernel
theorem dX10_makes_0 : decode cX10_makes 0 = .ok (.aload_n 0, 1) := by decide +kernel
theorem dX10_makes_1 : decode cX10_makes 1 = .ok (.getfield 40, 3) := by decide +kernel
theorem dX10_makes_4 : decode cX10_makes 4 = .ok (.iconst 0, 1) := by decide +kernel
theorem dX10_makes_5 : decode cX10_makes 5 = .ok (.iload_n 2, 1) := by decide +kernel
theorem dX10_makes_6 : decode cX10_makes 6 = .ok (.iastore, 1) := by decide +kernel
theorem dX10_makes_7 : decode cX10_makes 7 = .ok (.aload_n 0, 1) := by decide +kernel
theorem dX10_makes_8 : decode cX10_makes 8 = .ok (.getfield 40, 3) := by decide +kernel
theorem dX10_makes_11 : decode cX10_makes 11 = .ok (.iconst 1, 1) := by decide +kernel
theorem dX10_makes_12 : decode cX10_makes 12 = .ok (.iload_n 3, 1) := by decide +kernel
theorem dX10_makes_13 : decode cX10_makes 13 = .ok (.iastore, 1) := by decide +kernel
theorem dX10_makes_14 : decode cX10_makes 14 = .ok (.aload_n 0, 1) := by decide +kernel
theorem dX10_makes_15 : decode cX10_makes 15 = .ok (.getfield 40, 3) := by decide +kernel
theorem dX10_makes_18 : decode cX10_makes 18 = .ok (.iconst 2, 1) := by decide +kernel
theorem dX10_makes_19 : decode cX10_makes 19 = .ok (.iload 4, 2) := by decide +kernel
theorem dX10_makes_21 : decode cX10_makes 21 = .ok (.iastore, 1) := by decide +kernel
theorem dX10_makes_22 : decode cX10_makes 22 = .ok (.iconst 1, 1) := by decide +kernel
theorem dX10_makes_23 : decode cX10_makes 23 = .ok (.istore 5, 2) := by decide +kernel
theorem dX10_makes_25 : decode cX10_makes 25 = .ok (.iconst 0, 1) := by decide +kernel
theorem dX10_makes_26 : decode cX10_makes 26 = .ok (.istore 6, 2) := by decide +kernel
theorem dX10_makes_28 : decode cX10_makes 28 = .ok (.iload 6, 2) := by decide +kernel
theorem dX10_makes_30 : decode cX10_makes 30 = .ok (.iconst 3, 1) := by decide +kernel
theorem dX10_makes_31 : decode cX10_makes 31 = .ok (.if_icmp .ge 67, 3) := by decide +kernel
theorem dX10_makes_34 : decode cX10_makes 34 = .ok (.iload 5, 2) := by decide +kernel
theorem dX10_makes_36 : decode cX10_makes 36 = .ok (.ifCond .eq 62, 3) := by decide +kernel
theorem dX10_makes_39 : decode cX10_makes 39 = .ok (.aload_n 0, 1) := by decide +kernel
theorem dX10_makes_40 : decode cX10_makes 40 = .ok (.iload_n 1, 1) := by decide +kernel
theorem dX10_makes_41 : decode cX10_makes 41 = .ok (.iload 6, 2) := by decide +kernel
theorem dX10_makes_43 : decode cX10_makes 43 = .ok (.invokevirtual 119, 3) := by decide +kernel
theorem dX10_makes_46 : decode cX10_makes 46 = .ok (.istore 7, 2) := by decide +kernel
theorem dX10_makes_48 : decode cX10_makes 48 = .ok (.iload 7, 2) := by decide +kernel
theorem dX10_makes_50 : decode cX10_makes 50 = .ok (.ifCond .eq 35, 3) := by decide +kernel
theorem dX10_makes_53 : decode cX10_makes 53 = .ok (.aload_n 0, 1) := by decide +kernel
theorem dX10_makes_54 : decode cX10_makes 54 = .ok (.getfield 25, 3) := by decide +kernel
theorem dX10_makes_57 : decode cX10_makes 57 = .ok (.aload_n 0, 1) := by decide +kernel
theorem dX10_makes_58 : decode cX10_makes 58 = .ok (.iload 7, 2) := by decide +kernel
theorem dX10_makes_60 : decode cX10_makes 60 = .ok (.invokevirtual 146, 3) := by decide +kernel
theorem dX10_makes_63 : decode cX10_makes 63 = .ok (.iaload, 1) := by decide +kernel
theorem dX10_makes_64 : decode cX10_makes 64 = .ok (.ifCond .lt 7, 3) := by decide +kernel
theorem dX10_makes_67 : decode cX10_makes 67 = .ok (.iconst 1, 1) := by decide +kernel
theorem dX10_makes_68 : decode cX10_makes 68 = .ok (.goto 4, 3) := by decide +kernel
theorem dX10_makes_71 : decode cX10_makes 71 = .ok (.iconst 0, 1) := by decide +kernel
theorem dX10_makes_72 : decode cX10_makes 72 = .ok (.iload 7, 2) := by decide +kernel
theorem dX10_makes_74 : decode cX10_makes 74 = .ok (.ifCond .le 7, 3) := by decide +kernel
theorem dX10_makes_77 : decode cX10_makes 77 = .ok (.iconst 1, 1) := by decide +kernel
theorem dX10_makes_78 : decode cX10_makes 78 = .ok (.goto 4, 3) := by decide +kernel
theorem dX10_makes_81 : decode cX10_makes 81 = .ok (.iconst 0, 1) := by decide +kernel
theorem dX10_makes_82 : decode cX10_makes 82 = .ok (.if_icmp .ne 7, 3) := by decide +kernel
theorem dX10_makes_85 : decode cX10_makes 85 = .ok (.iconst 1, 1) := by decide +kernel
theorem dX10_makes_86 : decode cX10_makes 86 = .ok (.goto 4, 3) := by decide +kernel
theorem dX10_makes_89 : decode cX10_makes 89 = .ok (.iconst 0, 1) := by decide +kernel
theorem dX10_makes_90 : decode cX10_makes 90 = .ok (.istore 5, 2) := by decide +kernel
theorem dX10_makes_92 : decode cX10_makes 92 = .ok (.iinc 6 1, 3) := by decide +kernel
theorem dX10_makes_95 : decode cX10_makes 95 = .ok (.goto (-67), 3) := by decide +kernel
theorem dX10_makes_98 : decode cX10_makes 98 = .ok (.iload 5, 2) := by decide +kernel
theorem dX10_makes_100 : decode cX10_makes 100 = .ok (.ireturn, 1) := by decide +kernel
theorem dX10_lowest_0 : decode cX10_lowest 0 = .ok (.aload_n 0, 1) := by decide +kernel
theorem dX10_lowest_1 : decode cX10_lowest 1 = .ok (.iload_n 1, 1) := by decide +kernel
theorem dX10_lowest_2 : decode cX10_lowest 2 = .ok (.iconst 2, 1) := by decide +kernel
theorem dX10_lowest_3 : decode cX10_lowest 3 = .ok (.invokevirtual 149, 3) := by decide +kernel
theorem dX10_lowest_6 : decode cX10_lowest 6 = .ok (.ifCond .eq 8, 3) := by decide +kernel
theorem dX10_lowest_9 : decode cX10_lowest 9 = .ok (.bipush 6, 2) := by decide +kernel
theorem dX10_lowest_11 : decode cX10_lowest 11 = .ok (.goto 4, 3) := by decide +kernel
theorem dX10_lowest_14 : decode cX10_lowest 14 = .ok (.iconst 1, 1) := by decide +kernel
theorem dX10_lowest_15 : decode cX10_lowest 15 = .ok (.istore 4, 2) := by decide +kernel
theorem dX10_lowest_17 : decode cX10_lowest 17 = .ok (.iconst 0, 1) := by decide +kernel
theorem dX10_lowest_18 : decode cX10_lowest 18 = .ok (.istore 5, 2) := by decide +kernel
theorem dX10_lowest_20 : decode cX10_lowest 20 = .ok (.iload 5, 2) := by decide +kernel
theorem dX10_lowest_22 : decode cX10_lowest 22 = .ok (.iload 4, 2) := by decide +kernel
theorem dX10_lowest_24 : decode cX10_lowest 24 = .ok (.if_icmp .ge 24, 3) := by decide +kernel
theorem dX10_lowest_27 : decode cX10_lowest 27 = .ok (.aload_n 0, 1) := by decide +kernel
theorem dX10_lowest_28 : decode cX10_lowest 28 = .ok (.iload_n 1, 1) := by decide +kernel
theorem dX10_lowest_29 : decode cX10_lowest 29 = .ok (.iload_n 2, 1) := by decide +kernel
theorem dX10_lowest_30 : decode cX10_lowest 30 = .ok (.iload_n 3, 1) := by decide +kernel
theorem dX10_lowest_31 : decode cX10_lowest 31 = .ok (.iload 5, 2) := by decide +kernel
theorem dX10_lowest_33 : decode cX10_lowest 33 = .ok (.invokevirtual 152, 3) := by decide +kernel
theorem dX10_lowest_36 : decode cX10_lowest 36 = .ok (.ifCond .eq 6, 3) := by decide +kernel
theorem dX10_lowest_39 : decode cX10_lowest 39 = .ok (.iload 5, 2) := by decide +kernel
theorem dX10_lowest_41 : decode cX10_lowest 41 = .ok (.ireturn, 1) := by decide +kernel
theorem dX10_lowest_42 : decode cX10_lowest 42 = .ok (.iinc 5 1, 3) := by decide +kernel
theorem dX10_lowest_45 : decode cX10_lowest 45 = .ok (.goto (-25), 3) := by decide +kernel
theorem dX10_lowest_48 : decode cX10_lowest 48 = .ok (.iconst (-1), 1) := by decide +kernel
theorem dX10_lowest_49 : decode cX10_lowest 49 = .ok (.ireturn, 1) := by decide +kernel
theorem dX10_goes_0 : decode cX10_goes 0 = .ok (.iconst 0, 1) := by decide +kernel
theorem dX10_goes_1 : decode cX10_goes 1 = .ok (.istore_n 3, 1) := by decide +kernel
theorem dX10_goes_2 : decode cX10_goes 2 = .ok (.iconst 0, 1) := by decide +kernel
theorem dX10_goes_3 : decode cX10_goes 3 = .ok (.istore 4, 2) := by decide +kernel
theorem dX10_goes_5 : decode cX10_goes 5 = .ok (.iload 4, 2) := by decide +kernel
theorem dX10_goes_7 : decode cX10_goes 7 = .ok (.sipush 216, 3) := by decide +kernel
theorem dX10_goes_10 : decode cX10_goes 10 = .ok (.if_icmp .ge 184, 3) := by decide +kernel
theorem dX10_goes_13 : decode cX10_goes 13 = .ok (.iload 4, 2) := by decide +kernel
theorem dX10_goes_15 : decode cX10_goes 15 = .ok (.bipush 36, 2) := by decide +kernel
theorem dX10_goes_17 : decode cX10_goes 17 = .ok (.idiv, 1) := by decide +kernel
theorem dX10_goes_18 : decode cX10_goes 18 = .ok (.istore 5, 2) := by decide +kernel
theorem dX10_goes_20 : decode cX10_goes 20 = .ok (.aload_n 0, 1) := by decide +kernel
theorem dX10_goes_21 : decode cX10_goes 21 = .ok (.getfield 28, 3) := by decide +kernel
theorem dX10_goes_24 : decode cX10_goes 24 = .ok (.iload 4, 2) := by decide +kernel
theorem dX10_goes_26 : decode cX10_goes 26 = .ok (.aload_n 0, 1) := by decide +kernel
theorem dX10_goes_27 : decode cX10_goes 27 = .ok (.getfield 25, 3) := by decide +kernel
theorem dX10_goes_30 : decode cX10_goes 30 = .ok (.iload 4, 2) := by decide +kernel
theorem dX10_goes_32 : decode cX10_goes 32 = .ok (.iaload, 1) := by decide +kernel
theorem dX10_goes_33 : decode cX10_goes 33 = .ok (.ifCond .ge 7, 3) := by decide +kernel
theorem dX10_goes_36 : decode cX10_goes 36 = .ok (.iconst (-1), 1) := by decide +kernel
theorem dX10_goes_37 : decode cX10_goes 37 = .ok (.goto 10, 3) := by decide +kernel
theorem dX10_goes_40 : decode cX10_goes 40 = .ok (.aload_n 0, 1) := by decide +kernel
theorem dX10_goes_41 : decode cX10_goes 41 = .ok (.getfield 28, 3) := by decide +kernel
theorem dX10_goes_44 : decode cX10_goes 44 = .ok (.iload 4, 2) := by decide +kernel
theorem dX10_goes_46 : decode cX10_goes 46 = .ok (.iaload, 1) := by decide +kernel
theorem dX10_goes_47 : decode cX10_goes 47 = .ok (.iastore, 1) := by decide +kernel
theorem dX10_goes_48 : decode cX10_goes 48 = .ok (.iconst 0, 1) := by decide +kernel
theorem dX10_goes_49 : decode cX10_goes 49 = .ok (.istore 6, 2) := by decide +kernel
theorem dX10_goes_51 : decode cX10_goes 51 = .ok (.iload 6, 2) := by decide +kernel
theorem dX10_goes_53 : decode cX10_goes 53 = .ok (.aload_n 0, 1) := by decide +kernel
theorem dX10_goes_54 : decode cX10_goes 54 = .ok (.getfield 9, 3) := by decide +kernel
theorem dX10_goes_57 : decode cX10_goes 57 = .ok (.sipush 216, 3) := by decide +kernel
theorem dX10_goes_60 : decode cX10_goes 60 = .ok (.iaload, 1) := by decide +kernel
theorem dX10_goes_61 : decode cX10_goes 61 = .ok (.if_icmp .ge 99, 3) := by decide +kernel
theorem dX10_goes_64 : decode cX10_goes 64 = .ok (.aload_n 0, 1) := by decide +kernel
theorem dX10_goes_65 : decode cX10_goes 65 = .ok (.getfield 25, 3) := by decide +kernel
theorem dX10_goes_68 : decode cX10_goes 68 = .ok (.iload 4, 2) := by decide +kernel
theorem dX10_goes_70 : decode cX10_goes 70 = .ok (.iaload, 1) := by decide +kernel
theorem dX10_goes_71 : decode cX10_goes 71 = .ok (.ifCond .ge 89, 3) := by decide +kernel
theorem dX10_goes_74 : decode cX10_goes 74 = .ok (.aload_n 0, 1) := by decide +kernel
theorem dX10_goes_75 : decode cX10_goes 75 = .ok (.getfield 28, 3) := by decide +kernel
theorem dX10_goes_78 : decode cX10_goes 78 = .ok (.iload 4, 2) := by decide +kernel
theorem dX10_goes_80 : decode cX10_goes 80 = .ok (.iaload, 1) := by decide +kernel
theorem dX10_goes_81 : decode cX10_goes 81 = .ok (.ifCond .ge 79, 3) := by decide +kernel
theorem dX10_goes_84 : decode cX10_goes 84 = .ok (.aload_n 0, 1) := by decide +kernel
theorem dX10_goes_85 : decode cX10_goes 85 = .ok (.iload 6, 2) := by decide +kernel
theorem dX10_goes_87 : decode cX10_goes 87 = .ok (.invokevirtual 130, 3) := by decide +kernel
theorem dX10_goes_90 : decode cX10_goes 90 = .ok (.iload 5, 2) := by decide +kernel
theorem dX10_goes_92 : decode cX10_goes 92 = .ok (.if_icmp .ne 62, 3) := by decide +kernel
theorem dX10_goes_95 : decode cX10_goes 95 = .ok (.aload_n 0, 1) := by decide +kernel
theorem dX10_goes_96 : decode cX10_goes 96 = .ok (.getfield 22, 3) := by decide +kernel
theorem dX10_goes_99 : decode cX10_goes 99 = .ok (.iload 5, 2) := by decide +kernel
theorem dX10_goes_101 : decode cX10_goes 101 = .ok (.iaload, 1) := by decide +kernel
theorem dX10_goes_102 : decode cX10_goes 102 = .ok (.iload_n 1, 1) := by decide +kernel
theorem dX10_goes_103 : decode cX10_goes 103 = .ok (.if_icmp .ne 51, 3) := by decide +kernel
theorem dX10_goes_106 : decode cX10_goes 106 = .ok (.aload_n 0, 1) := by decide +kernel
theorem dX10_goes_107 : decode cX10_goes 107 = .ok (.iload 6, 2) := by decide +kernel
theorem dX10_goes_109 : decode cX10_goes 109 = .ok (.iload 4, 2) := by decide +kernel
theorem dX10_goes_111 : decode cX10_goes 111 = .ok (.bipush 6, 2) := by decide +kernel
theorem dX10_goes_113 : decode cX10_goes 113 = .ok (.idiv, 1) := by decide +kernel
theorem dX10_goes_114 : decode cX10_goes 114 = .ok (.bipush 6, 2) := by decide +kernel
theorem dX10_goes_116 : decode cX10_goes 116 = .ok (.irem, 1) := by decide +kernel
theorem dX10_goes_117 : decode cX10_goes 117 = .ok (.iload 4, 2) := by decide +kernel
theorem dX10_goes_119 : decode cX10_goes 119 = .ok (.bipush 6, 2) := by decide +kernel
theorem dX10_goes_121 : decode cX10_goes 121 = .ok (.irem, 1) := by decide +kernel
theorem dX10_goes_122 : decode cX10_goes 122 = .ok (.invokevirtual 156, 3) := by decide +kernel
theorem dX10_goes_125 : decode cX10_goes 125 = .ok (.istore 7, 2) := by decide +kernel
theorem dX10_goes_127 : decode cX10_goes 127 = .ok (.aload_n 0, 1) := by decide +kernel
theorem dX10_goes_128 : decode cX10_goes 128 = .ok (.getfield 28, 3) := by decide +kernel
theorem dX10_goes_131 : decode cX10_goes 131 = .ok (.iload 4, 2) := by decide +kernel
theorem dX10_goes_133 : decode cX10_goes 133 = .ok (.iload 7, 2) := by decide +kernel
theorem dX10_goes_135 : decode cX10_goes 135 = .ok (.ifCond .ge 7, 3) := by decide +kernel
theorem dX10_goes_138 : decode cX10_goes 138 = .ok (.iconst (-1), 1) := by decide +kernel
theorem dX10_goes_139 : decode cX10_goes 139 = .ok (.goto 5, 3) := by decide +kernel
theorem dX10_goes_142 : decode cX10_goes 142 = .ok (.iload 6, 2) := by decide +kernel
theorem dX10_goes_144 : decode cX10_goes 144 = .ok (.iastore, 1) := by decide +kernel
theorem dX10_goes_145 : decode cX10_goes 145 = .ok (.aload_n 0, 1) := by decide +kernel
theorem dX10_goes_146 : decode cX10_goes 146 = .ok (.getfield 31, 3) := by decide +kernel
theorem dX10_goes_149 : decode cX10_goes 149 = .ok (.iload 4, 2) := by decide +kernel
theorem dX10_goes_151 : decode cX10_goes 151 = .ok (.iload 7, 2) := by decide +kernel
theorem dX10_goes_153 : decode cX10_goes 153 = .ok (.iastore, 1) := by decide +kernel
theorem dX10_goes_154 : decode cX10_goes 154 = .ok (.iinc 6 1, 3) := by decide +kernel
theorem dX10_goes_157 : decode cX10_goes 157 = .ok (.goto (-106), 3) := by decide +kernel
theorem dX10_goes_160 : decode cX10_goes 160 = .ok (.iload_n 3, 1) := by decide +kernel
theorem dX10_goes_161 : decode cX10_goes 161 = .ok (.aload_n 0, 1) := by decide +kernel
theorem dX10_goes_162 : decode cX10_goes 162 = .ok (.getfield 25, 3) := by decide +kernel
theorem dX10_goes_165 : decode cX10_goes 165 = .ok (.iload 4, 2) := by decide +kernel
theorem dX10_goes_167 : decode cX10_goes 167 = .ok (.iaload, 1) := by decide +kernel
theorem dX10_goes_168 : decode cX10_goes 168 = .ok (.ifCond .ge 17, 3) := by decide +kernel
theorem dX10_goes_171 : decode cX10_goes 171 = .ok (.aload_n 0, 1) := by decide +kernel
theorem dX10_goes_172 : decode cX10_goes 172 = .ok (.getfield 28, 3) := by decide +kernel
theorem dX10_goes_175 : decode cX10_goes 175 = .ok (.iload 4, 2) := by decide +kernel
theorem dX10_goes_177 : decode cX10_goes 177 = .ok (.iaload, 1) := by decide +kernel
theorem dX10_goes_178 : decode cX10_goes 178 = .ok (.ifCond .lt 7, 3) := by decide +kernel
theorem dX10_goes_181 : decode cX10_goes 181 = .ok (.iconst 1, 1) := by decide +kernel
theorem dX10_goes_182 : decode cX10_goes 182 = .ok (.goto 4, 3) := by decide +kernel
theorem dX10_goes_185 : decode cX10_goes 185 = .ok (.iconst 0, 1) := by decide +kernel
theorem dX10_goes_186 : decode cX10_goes 186 = .ok (.iadd, 1) := by decide +kernel
theorem dX10_goes_187 : decode cX10_goes 187 = .ok (.istore_n 3, 1) := by decide +kernel
theorem dX10_goes_188 : decode cX10_goes 188 = .ok (.iinc 4 1, 3) := by decide +kernel
theorem dX10_goes_191 : decode cX10_goes 191 = .ok (.goto (-186), 3) := by decide +kernel
theorem dX10_goes_194 : decode cX10_goes 194 = .ok (.iconst 0, 1) := by decide +kernel
theorem dX10_goes_195 : decode cX10_goes 195 = .ok (.istore 4, 2) := by decide +kernel
theorem dX10_goes_197 : decode cX10_goes 197 = .ok (.iload 4, 2) := by decide +kernel
theorem dX10_goes_199 : decode cX10_goes 199 = .ok (.sipush 216, 3) := by decide +kernel
theorem dX10_goes_202 : decode cX10_goes 202 = .ok (.if_icmp .ge 47, 3) := by decide +kernel
theorem dX10_goes_205 : decode cX10_goes 205 = .ok (.aload_n 0, 1) := by decide +kernel
theorem dX10_goes_206 : decode cX10_goes 206 = .ok (.getfield 25, 3) := by decide +kernel
theorem dX10_goes_209 : decode cX10_goes 209 = .ok (.iload 4, 2) := by decide +kernel
theorem dX10_goes_211 : decode cX10_goes 211 = .ok (.aload_n 0, 1) := by decide +kernel
theorem dX10_goes_212 : decode cX10_goes 212 = .ok (.getfield 25, 3) := by decide +kernel
theorem dX10_goes_215 : decode cX10_goes 215 = .ok (.iload 4, 2) := by decide +kernel
theorem dX10_goes_217 : decode cX10_goes 217 = .ok (.iaload, 1) := by decide +kernel
theorem dX10_goes_218 : decode cX10_goes 218 = .ok (.ifCond .ge 17, 3) := by decide +kernel
theorem dX10_goes_221 : decode cX10_goes 221 = .ok (.aload_n 0, 1) := by decide +kernel
theorem dX10_goes_222 : decode cX10_goes 222 = .ok (.getfield 28, 3) := by decide +kernel
theorem dX10_goes_225 : decode cX10_goes 225 = .ok (.iload 4, 2) := by decide +kernel
theorem dX10_goes_227 : decode cX10_goes 227 = .ok (.iaload, 1) := by decide +kernel
theorem dX10_goes_228 : decode cX10_goes 228 = .ok (.ifCond .lt 7, 3) := by decide +kernel
theorem dX10_goes_231 : decode cX10_goes 231 = .ok (.iload_n 2, 1) := by decide +kernel
theorem dX10_goes_232 : decode cX10_goes 232 = .ok (.goto 10, 3) := by decide +kernel
theorem dX10_goes_235 : decode cX10_goes 235 = .ok (.aload_n 0, 1) := by decide +kernel
theorem dX10_goes_236 : decode cX10_goes 236 = .ok (.getfield 25, 3) := by decide +kernel
theorem dX10_goes_239 : decode cX10_goes 239 = .ok (.iload 4, 2) := by decide +kernel
theorem dX10_goes_241 : decode cX10_goes 241 = .ok (.iaload, 1) := by decide +kernel
theorem dX10_goes_242 : decode cX10_goes 242 = .ok (.iastore, 1) := by decide +kernel
theorem dX10_goes_243 : decode cX10_goes 243 = .ok (.iinc 4 1, 3) := by decide +kernel
theorem dX10_goes_246 : decode cX10_goes 246 = .ok (.goto (-49), 3) := by decide +kernel
theorem dX10_goes_249 : decode cX10_goes 249 = .ok (.iload_n 3, 1) := by decide +kernel
theorem dX10_goes_250 : decode cX10_goes 250 = .ok (.ireturn, 1) := by decide +kernel
theorem dX10_derives_0 : decode cX10_derives 0 = .ok (.iconst 0, 1) := by decide +kernel
theorem dX10_derives_1 : decode cX10_derives 1 = .ok (.istore_n 1, 1) := by decide +kernel
theorem dX10_derives_2 : decode cX10_derives 2 = .ok (.iload_n 1, 1) := by decide +kernel
theorem dX10_derives_3 : decode cX10_derives 3 = .ok (.sipush 216, 3) := by decide +kernel
theorem dX10_derives_6 : decode cX10_derives 6 = .ok (.if_icmp .ge 46, 3) := by decide +kernel
theorem dX10_derives_9 : decode cX10_derives 9 = .ok (.aload_n 0, 1) := by decide +kernel
theorem dX10_derives_10 : decode cX10_derives 10 = .ok (.getfield 25, 3) := by decide +kernel
theorem dX10_derives_13 : decode cX10_derives 13 = .ok (.iload_n 1, 1) := by decide +kernel
theorem dX10_derives_14 : decode cX10_derives 14 = .ok (.aload_n 0, 1) := by decide +kernel
theorem dX10_derives_15 : decode cX10_derives 15 = .ok (.getfield 9, 3) := by decide +kernel
theorem dX10_derives_18 : decode cX10_derives 18 = .ok (.iconst 0, 1) := by decide +kernel
theorem dX10_derives_19 : decode cX10_derives 19 = .ok (.iload_n 1, 1) := by decide +kernel
theorem dX10_derives_20 : decode cX10_derives 20 = .ok (.iadd, 1) := by decide +kernel
theorem dX10_derives_21 : decode cX10_derives 21 = .ok (.iaload, 1) := by decide +kernel
theorem dX10_derives_22 : decode cX10_derives 22 = .ok (.iconst 1, 1) := by decide +kernel
theorem dX10_derives_23 : decode cX10_derives 23 = .ok (.if_icmp .ne 7, 3) := by decide +kernel
theorem dX10_derives_26 : decode cX10_derives 26 = .ok (.iconst 0, 1) := by decide +kernel
theorem dX10_derives_27 : decode cX10_derives 27 = .ok (.goto 4, 3) := by decide +kernel
theorem dX10_derives_30 : decode cX10_derives 30 = .ok (.iconst (-1), 1) := by decide +kernel
theorem dX10_derives_31 : decode cX10_derives 31 = .ok (.iastore, 1) := by decide +kernel
theorem dX10_derives_32 : decode cX10_derives 32 = .ok (.aload_n 0, 1) := by decide +kernel
theorem dX10_derives_33 : decode cX10_derives 33 = .ok (.getfield 28, 3) := by decide +kernel
theorem dX10_derives_36 : decode cX10_derives 36 = .ok (.iload_n 1, 1) := by decide +kernel
theorem dX10_derives_37 : decode cX10_derives 37 = .ok (.iconst (-1), 1) := by decide +kernel
theorem dX10_derives_38 : decode cX10_derives 38 = .ok (.iastore, 1) := by decide +kernel
theorem dX10_derives_39 : decode cX10_derives 39 = .ok (.aload_n 0, 1) := by decide +kernel
theorem dX10_derives_40 : decode cX10_derives 40 = .ok (.getfield 31, 3) := by decide +kernel
theorem dX10_derives_43 : decode cX10_derives 43 = .ok (.iload_n 1, 1) := by decide +kernel
theorem dX10_derives_44 : decode cX10_derives 44 = .ok (.iconst (-1), 1) := by decide +kernel
theorem dX10_derives_45 : decode cX10_derives 45 = .ok (.iastore, 1) := by decide +kernel
theorem dX10_derives_46 : decode cX10_derives 46 = .ok (.iinc 1 1, 3) := by decide +kernel
theorem dX10_derives_49 : decode cX10_derives 49 = .ok (.goto (-47), 3) := by decide +kernel
theorem dX10_derives_52 : decode cX10_derives 52 = .ok (.aload_n 0, 1) := by decide +kernel
theorem dX10_derives_53 : decode cX10_derives 53 = .ok (.invokevirtual 159, 3) := by decide +kernel
theorem dX10_derives_56 : decode cX10_derives 56 = .ok (.istore_n 1, 1) := by decide +kernel
theorem dX10_derives_57 : decode cX10_derives 57 = .ok (.iconst 0, 1) := by decide +kernel
theorem dX10_derives_58 : decode cX10_derives 58 = .ok (.istore_n 2, 1) := by decide +kernel
theorem dX10_derives_59 : decode cX10_derives 59 = .ok (.iconst 0, 1) := by decide +kernel
theorem dX10_derives_60 : decode cX10_derives 60 = .ok (.istore_n 3, 1) := by decide +kernel
theorem dX10_derives_61 : decode cX10_derives 61 = .ok (.iload_n 3, 1) := by decide +kernel
theorem dX10_derives_62 : decode cX10_derives 62 = .ok (.bipush 6, 2) := by decide +kernel
theorem dX10_derives_64 : decode cX10_derives 64 = .ok (.if_icmp .ge 77, 3) := by decide +kernel
theorem dX10_derives_67 : decode cX10_derives 67 = .ok (.aload_n 0, 1) := by decide +kernel
theorem dX10_derives_68 : decode cX10_derives 68 = .ok (.getfield 37, 3) := by decide +kernel
theorem dX10_derives_71 : decode cX10_derives 71 = .ok (.iload_n 3, 1) := by decide +kernel
theorem dX10_derives_72 : decode cX10_derives 72 = .ok (.iconst 0, 1) := by decide +kernel
theorem dX10_derives_73 : decode cX10_derives 73 = .ok (.iastore, 1) := by decide +kernel
theorem dX10_derives_74 : decode cX10_derives 74 = .ok (.iload_n 3, 1) := by decide +kernel
theorem dX10_derives_75 : decode cX10_derives 75 = .ok (.iload_n 1, 1) := by decide +kernel
theorem dX10_derives_76 : decode cX10_derives 76 = .ok (.if_icmp .ge 12, 3) := by decide +kernel
theorem dX10_derives_79 : decode cX10_derives 79 = .ok (.aload_n 0, 1) := by decide +kernel
theorem dX10_derives_80 : decode cX10_derives 80 = .ok (.iload_n 3, 1) := by decide +kernel
theorem dX10_derives_81 : decode cX10_derives 81 = .ok (.iconst 1, 1) := by decide +kernel
theorem dX10_derives_82 : decode cX10_derives 82 = .ok (.invokevirtual 163, 3) := by decide +kernel
theorem dX10_derives_85 : decode cX10_derives 85 = .ok (.goto 4, 3) := by decide +kernel
theorem dX10_derives_88 : decode cX10_derives 88 = .ok (.iconst 0, 1) := by decide +kernel
theorem dX10_derives_89 : decode cX10_derives 89 = .ok (.istore 4, 2) := by decide +kernel
theorem dX10_derives_91 : decode cX10_derives 91 = .ok (.iload 4, 2) := by decide +kernel
theorem dX10_derives_93 : decode cX10_derives 93 = .ok (.ifCond .le 42, 3) := by decide +kernel
theorem dX10_derives_96 : decode cX10_derives 96 = .ok (.aload_n 0, 1) := by decide +kernel
theorem dX10_derives_97 : decode cX10_derives 97 = .ok (.getfield 34, 3) := by decide +kernel
theorem dX10_derives_100 : decode cX10_derives 100 = .ok (.iload_n 2, 1) := by decide +kernel
theorem dX10_derives_101 : decode cX10_derives 101 = .ok (.iload 4, 2) := by decide +kernel
theorem dX10_derives_103 : decode cX10_derives 103 = .ok (.iastore, 1) := by decide +kernel
theorem dX10_derives_104 : decode cX10_derives 104 = .ok (.iinc 2 1, 3) := by decide +kernel
theorem dX10_derives_107 : decode cX10_derives 107 = .ok (.aload_n 0, 1) := by decide +kernel
theorem dX10_derives_108 : decode cX10_derives 108 = .ok (.getfield 37, 3) := by decide +kernel
theorem dX10_derives_111 : decode cX10_derives 111 = .ok (.iload_n 3, 1) := by decide +kernel
theorem dX10_derives_112 : decode cX10_derives 112 = .ok (.dup2, 1) := by decide +kernel
theorem dX10_derives_113 : decode cX10_derives 113 = .ok (.iaload, 1) := by decide +kernel
theorem dX10_derives_114 : decode cX10_derives 114 = .ok (.iconst 1, 1) := by decide +kernel
theorem dX10_derives_115 : decode cX10_derives 115 = .ok (.iadd, 1) := by decide +kernel
theorem dX10_derives_116 : decode cX10_derives 116 = .ok (.iastore, 1) := by decide +kernel
theorem dX10_derives_117 : decode cX10_derives 117 = .ok (.aload_n 0, 1) := by decide +kernel
theorem dX10_derives_118 : decode cX10_derives 118 = .ok (.iload_n 3, 1) := by decide +kernel
theorem dX10_derives_119 : decode cX10_derives 119 = .ok (.aload_n 0, 1) := by decide +kernel
theorem dX10_derives_120 : decode cX10_derives 120 = .ok (.getfield 37, 3) := by decide +kernel
theorem dX10_derives_123 : decode cX10_derives 123 = .ok (.iload_n 3, 1) := by decide +kernel
theorem dX10_derives_124 : decode cX10_derives 124 = .ok (.iaload, 1) := by decide +kernel
theorem dX10_derives_125 : decode cX10_derives 125 = .ok (.iconst 1, 1) := by decide +kernel
theorem dX10_derives_126 : decode cX10_derives 126 = .ok (.iadd, 1) := by decide +kernel
theorem dX10_derives_127 : decode cX10_derives 127 = .ok (.invokevirtual 163, 3) := by decide +kernel
theorem dX10_derives_130 : decode cX10_derives 130 = .ok (.istore 4, 2) := by decide +kernel
theorem dX10_derives_132 : decode cX10_derives 132 = .ok (.goto (-41), 3) := by decide +kernel
theorem dX10_derives_135 : decode cX10_derives 135 = .ok (.iinc 3 1, 3) := by decide +kernel
theorem dX10_derives_138 : decode cX10_derives 138 = .ok (.goto (-77), 3) := by decide +kernel
theorem dX10_derives_141 : decode cX10_derives 141 = .ok (.return_, 1) := by decide +kernel
theorem dX10_holding_0 : decode cX10_holding 0 = .ok (.iconst 0, 1) := by decide +kernel
theorem dX10_holding_1 : decode cX10_holding 1 = .ok (.istore_n 2, 1) := by decide +kernel
theorem dX10_holding_2 : decode cX10_holding 2 = .ok (.iconst 0, 1) := by decide +kernel
theorem dX10_holding_3 : decode cX10_holding 3 = .ok (.istore_n 3, 1) := by decide +kernel
theorem dX10_holding_4 : decode cX10_holding 4 = .ok (.iload_n 3, 1) := by decide +kernel
theorem dX10_holding_5 : decode cX10_holding 5 = .ok (.sipush 216, 3) := by decide +kernel
theorem dX10_holding_8 : decode cX10_holding 8 = .ok (.if_icmp .ge 38, 3) := by decide +kernel
theorem dX10_holding_11 : decode cX10_holding 11 = .ok (.iload_n 2, 1) := by decide +kernel
theorem dX10_holding_12 : decode cX10_holding 12 = .ok (.aload_n 0, 1) := by decide +kernel
theorem dX10_holding_13 : decode cX10_holding 13 = .ok (.getfield 25, 3) := by decide +kernel
theorem dX10_holding_16 : decode cX10_holding 16 = .ok (.iload_n 3, 1) := by decide +kernel
theorem dX10_holding_17 : decode cX10_holding 17 = .ok (.iaload, 1) := by decide +kernel
theorem dX10_holding_18 : decode cX10_holding 18 = .ok (.ifCond .lt 19, 3) := by decide +kernel
theorem dX10_holding_21 : decode cX10_holding 21 = .ok (.iload_n 1, 1) := by decide +kernel
theorem dX10_holding_22 : decode cX10_holding 22 = .ok (.ifCond .lt 11, 3) := by decide +kernel
theorem dX10_holding_25 : decode cX10_holding 25 = .ok (.iload_n 3, 1) := by decide +kernel
theorem dX10_holding_26 : decode cX10_holding 26 = .ok (.bipush 36, 2) := by decide +kernel
theorem dX10_holding_28 : decode cX10_holding 28 = .ok (.idiv, 1) := by decide +kernel
theorem dX10_holding_29 : decode cX10_holding 29 = .ok (.iload_n 1, 1) := by decide +kernel
theorem dX10_holding_30 : decode cX10_holding 30 = .ok (.if_icmp .ne 7, 3) := by decide +kernel
theorem dX10_holding_33 : decode cX10_holding 33 = .ok (.iconst 1, 1) := by decide +kernel
theorem dX10_holding_34 : decode cX10_holding 34 = .ok (.goto 4, 3) := by decide +kernel
theorem dX10_holding_37 : decode cX10_holding 37 = .ok (.iconst 0, 1) := by decide +kernel
theorem dX10_holding_38 : decode cX10_holding 38 = .ok (.iadd, 1) := by decide +kernel
theorem dX10_holding_39 : decode cX10_holding 39 = .ok (.istore_n 2, 1) := by decide +kernel
theorem dX10_holding_40 : decode cX10_holding 40 = .ok (.iinc 3 1, 3) := by decide +kernel
theorem dX10_holding_43 : decode cX10_holding 43 = .ok (.goto (-39), 3) := by decide +kernel
theorem dX10_holding_46 : decode cX10_holding 46 = .ok (.iload_n 2, 1) := by decide +kernel
theorem dX10_holding_47 : decode cX10_holding 47 = .ok (.ireturn, 1) := by decide +kernel
theorem dX10_toldOf_0 : decode cX10_toldOf 0 = .ok (.iconst 0, 1) := by decide +kernel
theorem dX10_toldOf_1 : decode cX10_toldOf 1 = .ok (.istore_n 2, 1) := by decide +kernel
theorem dX10_toldOf_2 : decode cX10_toldOf 2 = .ok (.iconst 0, 1) := by decide +kernel
theorem dX10_toldOf_3 : decode cX10_toldOf 3 = .ok (.istore_n 3, 1) := by decide +kernel
theorem dX10_toldOf_4 : decode cX10_toldOf 4 = .ok (.iload_n 3, 1) := by decide +kernel
theorem dX10_toldOf_5 : decode cX10_toldOf 5 = .ok (.sipush 216, 3) := by decide +kernel
theorem dX10_toldOf_8 : decode cX10_toldOf 8 = .ok (.if_icmp .ge 41, 3) := by decide +kernel
theorem dX10_toldOf_11 : decode cX10_toldOf 11 = .ok (.iload_n 2, 1) := by decide +kernel
theorem dX10_toldOf_12 : decode cX10_toldOf 12 = .ok (.aload_n 0, 1) := by decide +kernel
theorem dX10_toldOf_13 : decode cX10_toldOf 13 = .ok (.getfield 9, 3) := by decide +kernel
theorem dX10_toldOf_16 : decode cX10_toldOf 16 = .ok (.iconst 0, 1) := by decide +kernel
theorem dX10_toldOf_17 : decode cX10_toldOf 17 = .ok (.iload_n 3, 1) := by decide +kernel
theorem dX10_toldOf_18 : decode cX10_toldOf 18 = .ok (.iadd, 1) := by decide +kernel
theorem dX10_toldOf_19 : decode cX10_toldOf 19 = .ok (.iaload, 1) := by decide +kernel
theorem dX10_toldOf_20 : decode cX10_toldOf 20 = .ok (.iconst 1, 1) := by decide +kernel
theorem dX10_toldOf_21 : decode cX10_toldOf 21 = .ok (.if_icmp .ne 19, 3) := by decide +kernel
theorem dX10_toldOf_24 : decode cX10_toldOf 24 = .ok (.iload_n 1, 1) := by decide +kernel
theorem dX10_toldOf_25 : decode cX10_toldOf 25 = .ok (.ifCond .lt 11, 3) := by decide +kernel
theorem dX10_toldOf_28 : decode cX10_toldOf 28 = .ok (.iload_n 3, 1) := by decide +kernel
theorem dX10_toldOf_29 : decode cX10_toldOf 29 = .ok (.bipush 36, 2) := by decide +kernel
theorem dX10_toldOf_31 : decode cX10_toldOf 31 = .ok (.idiv, 1) := by decide +kernel
theorem dX10_toldOf_32 : decode cX10_toldOf 32 = .ok (.iload_n 1, 1) := by decide +kernel
theorem dX10_toldOf_33 : decode cX10_toldOf 33 = .ok (.if_icmp .ne 7, 3) := by decide +kernel
theorem dX10_toldOf_36 : decode cX10_toldOf 36 = .ok (.iconst 1, 1) := by decide +kernel
theorem dX10_toldOf_37 : decode cX10_toldOf 37 = .ok (.goto 4, 3) := by decide +kernel
theorem dX10_toldOf_40 : decode cX10_toldOf 40 = .ok (.iconst 0, 1) := by decide +kernel
theorem dX10_toldOf_41 : decode cX10_toldOf 41 = .ok (.iadd, 1) := by decide +kernel
theorem dX10_toldOf_42 : decode cX10_toldOf 42 = .ok (.istore_n 2, 1) := by decide +kernel
theorem dX10_toldOf_43 : decode cX10_toldOf 43 = .ok (.iinc 3 1, 3) := by decide +kernel
theorem dX10_toldOf_46 : decode cX10_toldOf 46 = .ok (.goto (-42), 3) := by decide +kernel
theorem dX10_toldOf_49 : decode cX10_toldOf 49 = .ok (.iload_n 2, 1) := by decide +kernel
theorem dX10_toldOf_50 : decode cX10_toldOf 50 = .ok (.ireturn, 1) := by decide +kernel
theorem dX10_allHolding_0 : decode cX10_allHolding 0 = .ok (.aload_n 0, 1) := by decide +kernel
theorem dX10_allHolding_1 : decode cX10_allHolding 1 = .ok (.invokevirtual 166, 3) := by decide +kernel
theorem dX10_allHolding_4 : decode cX10_allHolding 4 = .ok (.aload_n 0, 1) := by decide +kernel
theorem dX10_allHolding_5 : decode cX10_allHolding 5 = .ok (.iconst (-1), 1) := by decide +kernel
theorem dX10_allHolding_6 : decode cX10_allHolding 6 = .ok (.invokevirtual 169, 3) := by decide +kernel
theorem dX10_allHolding_9 : decode cX10_allHolding 9 = .ok (.ireturn, 1) := by decide +kernel
theorem dX10_doTell_0 : decode cX10_doTell 0 = .ok (.iload_n 1, 1) := by decide +kernel
theorem dX10_doTell_1 : decode cX10_doTell 1 = .ok (.iload_n 2, 1) := by decide +kernel
theorem dX10_doTell_2 : decode cX10_doTell 2 = .ok (.iload_n 3, 1) := by decide +kernel
theorem dX10_doTell_3 : decode cX10_doTell 3 = .ok (.invokestatic 172, 3) := by decide +kernel
theorem dX10_doTell_6 : decode cX10_doTell 6 = .ok (.ifCond .ne 9, 3) := by decide +kernel
theorem dX10_doTell_9 : decode cX10_doTell 9 = .ok (.aload_n 0, 1) := by decide +kernel
theorem dX10_doTell_10 : decode cX10_doTell 10 = .ok (.iconst 1, 1) := by decide +kernel
theorem dX10_doTell_11 : decode cX10_doTell 11 = .ok (.invokevirtual 175, 3) := by decide +kernel
theorem dX10_doTell_14 : decode cX10_doTell 14 = .ok (.ireturn, 1) := by decide +kernel
theorem dX10_doTell_15 : decode cX10_doTell 15 = .ok (.aload_n 0, 1) := by decide +kernel
theorem dX10_doTell_16 : decode cX10_doTell 16 = .ok (.getfield 9, 3) := by decide +kernel
theorem dX10_doTell_19 : decode cX10_doTell 19 = .ok (.iconst 0, 1) := by decide +kernel
theorem dX10_doTell_20 : decode cX10_doTell 20 = .ok (.iload_n 1, 1) := by decide +kernel
theorem dX10_doTell_21 : decode cX10_doTell 21 = .ok (.iload_n 2, 1) := by decide +kernel
theorem dX10_doTell_22 : decode cX10_doTell 22 = .ok (.iload_n 3, 1) := by decide +kernel
theorem dX10_doTell_23 : decode cX10_doTell 23 = .ok (.invokestatic 142, 3) := by decide +kernel
theorem dX10_doTell_26 : decode cX10_doTell 26 = .ok (.iadd, 1) := by decide +kernel
theorem dX10_doTell_27 : decode cX10_doTell 27 = .ok (.iaload, 1) := by decide +kernel
theorem dX10_doTell_28 : decode cX10_doTell 28 = .ok (.iconst 1, 1) := by decide +kernel
theorem dX10_doTell_29 : decode cX10_doTell 29 = .ok (.if_icmp .ne 14, 3) := by decide +kernel
theorem dX10_doTell_32 : decode cX10_doTell 32 = .ok (.aload_n 0, 1) := by decide +kernel
theorem dX10_doTell_33 : decode cX10_doTell 33 = .ok (.iconst 2, 1) := by decide +kernel
theorem dX10_doTell_34 : decode cX10_doTell 34 = .ok (.aload_n 0, 1) := by decide +kernel
theorem dX10_doTell_35 : decode cX10_doTell 35 = .ok (.iload_n 1, 1) := by decide +kernel
theorem dX10_doTell_36 : decode cX10_doTell 36 = .ok (.invokevirtual 178, 3) := by decide +kernel
theorem dX10_doTell_39 : decode cX10_doTell 39 = .ok (.invokevirtual 181, 3) := by decide +kernel
theorem dX10_doTell_42 : decode cX10_doTell 42 = .ok (.ireturn, 1) := by decide +kernel
theorem dX10_doTell_43 : decode cX10_doTell 43 = .ok (.aload_n 0, 1) := by decide +kernel
theorem dX10_doTell_44 : decode cX10_doTell 44 = .ok (.getfield 9, 3) := by decide +kernel
theorem dX10_doTell_47 : decode cX10_doTell 47 = .ok (.iconst 0, 1) := by decide +kernel
theorem dX10_doTell_48 : decode cX10_doTell 48 = .ok (.iload_n 1, 1) := by decide +kernel
theorem dX10_doTell_49 : decode cX10_doTell 49 = .ok (.iload_n 2, 1) := by decide +kernel
theorem dX10_doTell_50 : decode cX10_doTell 50 = .ok (.iload_n 3, 1) := by decide +kernel
theorem dX10_doTell_51 : decode cX10_doTell 51 = .ok (.invokestatic 142, 3) := by decide +kernel
theorem dX10_doTell_54 : decode cX10_doTell 54 = .ok (.iadd, 1) := by decide +kernel
theorem dX10_doTell_55 : decode cX10_doTell 55 = .ok (.iconst 1, 1) := by decide +kernel
theorem dX10_doTell_56 : decode cX10_doTell 56 = .ok (.iastore, 1) := by decide +kernel
theorem dX10_doTell_57 : decode cX10_doTell 57 = .ok (.aload_n 0, 1) := by decide +kernel
theorem dX10_doTell_58 : decode cX10_doTell 58 = .ok (.invokevirtual 184, 3) := by decide +kernel
theorem dX10_doTell_61 : decode cX10_doTell 61 = .ok (.ireturn, 1) := by decide +kernel
theorem dX10_tell_0 : decode cX10_tell 0 = .ok (.aload_n 0, 1) := by decide +kernel
theorem dX10_tell_1 : decode cX10_tell 1 = .ok (.invokevirtual 187, 3) := by decide +kernel
theorem dX10_tell_4 : decode cX10_tell 4 = .ok (.aload_n 0, 1) := by decide +kernel
theorem dX10_tell_5 : decode cX10_tell 5 = .ok (.aload_n 0, 1) := by decide +kernel
theorem dX10_tell_6 : decode cX10_tell 6 = .ok (.iload_n 1, 1) := by decide +kernel
theorem dX10_tell_7 : decode cX10_tell 7 = .ok (.iload_n 2, 1) := by decide +kernel
theorem dX10_tell_8 : decode cX10_tell 8 = .ok (.iload_n 3, 1) := by decide +kernel
theorem dX10_tell_9 : decode cX10_tell 9 = .ok (.invokevirtual 190, 3) := by decide +kernel
theorem dX10_tell_12 : decode cX10_tell 12 = .ok (.invokevirtual 193, 3) := by decide +kernel
theorem dX10_tell_15 : decode cX10_tell 15 = .ok (.ireturn, 1) := by decide +kernel
theorem dX10_doUntell_0 : decode cX10_doUntell 0 = .ok (.iload_n 1, 1) := by decide +kernel
theorem dX10_doUntell_1 : decode cX10_doUntell 1 = .ok (.iload_n 2, 1) := by decide +kernel
theorem dX10_doUntell_2 : decode cX10_doUntell 2 = .ok (.iload_n 3, 1) := by decide +kernel
theorem dX10_doUntell_3 : decode cX10_doUntell 3 = .ok (.invokestatic 172, 3) := by decide +kernel
theorem dX10_doUntell_6 : decode cX10_doUntell 6 = .ok (.ifCond .ne 9, 3) := by decide +kernel
theorem dX10_doUntell_9 : decode cX10_doUntell 9 = .ok (.aload_n 0, 1) := by decide +kernel
theorem dX10_doUntell_10 : decode cX10_doUntell 10 = .ok (.iconst 1, 1) := by decide +kernel
theorem dX10_doUntell_11 : decode cX10_doUntell 11 = .ok (.invokevirtual 175, 3) := by decide +kernel
theorem dX10_doUntell_14 : decode cX10_doUntell 14 = .ok (.ireturn, 1) := by decide +kernel
theorem dX10_doUntell_15 : decode cX10_doUntell 15 = .ok (.iload_n 1, 1) := by decide +kernel
theorem dX10_doUntell_16 : decode cX10_doUntell 16 = .ok (.iload_n 2, 1) := by decide +kernel
theorem dX10_doUntell_17 : decode cX10_doUntell 17 = .ok (.iload_n 3, 1) := by decide +kernel
theorem dX10_doUntell_18 : decode cX10_doUntell 18 = .ok (.invokestatic 142, 3) := by decide +kernel
theorem dX10_doUntell_21 : decode cX10_doUntell 21 = .ok (.istore 4, 2) := by decide +kernel
theorem dX10_doUntell_23 : decode cX10_doUntell 23 = .ok (.aload_n 0, 1) := by decide +kernel
theorem dX10_doUntell_24 : decode cX10_doUntell 24 = .ok (.getfield 9, 3) := by decide +kernel
theorem dX10_doUntell_27 : decode cX10_doUntell 27 = .ok (.iconst 0, 1) := by decide +kernel
theorem dX10_doUntell_28 : decode cX10_doUntell 28 = .ok (.iload 4, 2) := by decide +kernel
theorem dX10_doUntell_30 : decode cX10_doUntell 30 = .ok (.iadd, 1) := by decide +kernel
theorem dX10_doUntell_31 : decode cX10_doUntell 31 = .ok (.iaload, 1) := by decide +kernel
theorem dX10_doUntell_32 : decode cX10_doUntell 32 = .ok (.ifCond .ne 28, 3) := by decide +kernel
theorem dX10_doUntell_35 : decode cX10_doUntell 35 = .ok (.aload_n 0, 1) := by decide +kernel
theorem dX10_doUntell_36 : decode cX10_doUntell 36 = .ok (.invokevirtual 166, 3) := by decide +kernel
theorem dX10_doUntell_39 : decode cX10_doUntell 39 = .ok (.aload_n 0, 1) := by decide +kernel
theorem dX10_doUntell_40 : decode cX10_doUntell 40 = .ok (.iconst 3, 1) := by decide +kernel
theorem dX10_doUntell_41 : decode cX10_doUntell 41 = .ok (.aload_n 0, 1) := by decide +kernel
theorem dX10_doUntell_42 : decode cX10_doUntell 42 = .ok (.getfield 25, 3) := by decide +kernel
theorem dX10_doUntell_45 : decode cX10_doUntell 45 = .ok (.iload 4, 2) := by decide +kernel
theorem dX10_doUntell_47 : decode cX10_doUntell 47 = .ok (.iaload, 1) := by decide +kernel
theorem dX10_doUntell_48 : decode cX10_doUntell 48 = .ok (.ifCond .lt 7, 3) := by decide +kernel
theorem dX10_doUntell_51 : decode cX10_doUntell 51 = .ok (.iconst 1, 1) := by decide +kernel
theorem dX10_doUntell_52 : decode cX10_doUntell 52 = .ok (.goto 4, 3) := by decide +kernel
theorem dX10_doUntell_55 : decode cX10_doUntell 55 = .ok (.iconst 0, 1) := by decide +kernel
theorem dX10_doUntell_56 : decode cX10_doUntell 56 = .ok (.invokevirtual 181, 3) := by decide +kernel
theorem dX10_doUntell_59 : decode cX10_doUntell 59 = .ok (.ireturn, 1) := by decide +kernel
theorem dX10_doUntell_60 : decode cX10_doUntell 60 = .ok (.aload_n 0, 1) := by decide +kernel
theorem dX10_doUntell_61 : decode cX10_doUntell 61 = .ok (.getfield 9, 3) := by decide +kernel
theorem dX10_doUntell_64 : decode cX10_doUntell 64 = .ok (.iconst 0, 1) := by decide +kernel
theorem dX10_doUntell_65 : decode cX10_doUntell 65 = .ok (.iload 4, 2) := by decide +kernel
theorem dX10_doUntell_67 : decode cX10_doUntell 67 = .ok (.iadd, 1) := by decide +kernel
theorem dX10_doUntell_68 : decode cX10_doUntell 68 = .ok (.iconst 0, 1) := by decide +kernel
theorem dX10_doUntell_69 : decode cX10_doUntell 69 = .ok (.iastore, 1) := by decide +kernel
theorem dX10_doUntell_70 : decode cX10_doUntell 70 = .ok (.aload_n 0, 1) := by decide +kernel
theorem dX10_doUntell_71 : decode cX10_doUntell 71 = .ok (.invokevirtual 184, 3) := by decide +kernel
theorem dX10_doUntell_74 : decode cX10_doUntell 74 = .ok (.ireturn, 1) := by decide +kernel
theorem dX10_untell_0 : decode cX10_untell 0 = .ok (.aload_n 0, 1) := by decide +kernel
theorem dX10_untell_1 : decode cX10_untell 1 = .ok (.invokevirtual 187, 3) := by decide +kernel
theorem dX10_untell_4 : decode cX10_untell 4 = .ok (.aload_n 0, 1) := by decide +kernel
theorem dX10_untell_5 : decode cX10_untell 5 = .ok (.aload_n 0, 1) := by decide +kernel
theorem dX10_untell_6 : decode cX10_untell 6 = .ok (.iload_n 1, 1) := by decide +kernel
theorem dX10_untell_7 : decode cX10_untell 7 = .ok (.iload_n 2, 1) := by decide +kernel
theorem dX10_untell_8 : decode cX10_untell 8 = .ok (.iload_n 3, 1) := by decide +kernel
theorem dX10_untell_9 : decode cX10_untell 9 = .ok (.invokevirtual 196, 3) := by decide +kernel
theorem dX10_untell_12 : decode cX10_untell 12 = .ok (.invokevirtual 193, 3) := by decide +kernel
theorem dX10_untell_15 : decode cX10_untell 15 = .ok (.ireturn, 1) := by decide +kernel
theorem dX10_holds_0 : decode cX10_holds 0 = .ok (.aload_n 0, 1) := by decide +kernel
theorem dX10_holds_1 : decode cX10_holds 1 = .ok (.iload_n 1, 1) := by decide +kernel
theorem dX10_holds_2 : decode cX10_holds 2 = .ok (.iload_n 2, 1) := by decide +kernel
theorem dX10_holds_3 : decode cX10_holds 3 = .ok (.iload_n 3, 1) := by decide +kernel
theorem dX10_holds_4 : decode cX10_holds 4 = .ok (.invokestatic 172, 3) := by decide +kernel
theorem dX10_holds_7 : decode cX10_holds 7 = .ok (.ifCond .eq 7, 3) := by decide +kernel
theorem dX10_holds_10 : decode cX10_holds 10 = .ok (.iconst 0, 1) := by decide +kernel
theorem dX10_holds_11 : decode cX10_holds 11 = .ok (.goto 4, 3) := by decide +kernel
theorem dX10_holds_14 : decode cX10_holds 14 = .ok (.iconst 1, 1) := by decide +kernel
theorem dX10_holds_15 : decode cX10_holds 15 = .ok (.putfield 76, 3) := by decide +kernel
theorem dX10_holds_18 : decode cX10_holds 18 = .ok (.aload_n 0, 1) := by decide +kernel
theorem dX10_holds_19 : decode cX10_holds 19 = .ok (.getfield 76, 3) := by decide +kernel
theorem dX10_holds_22 : decode cX10_holds 22 = .ok (.ifCond .le 5, 3) := by decide +kernel
theorem dX10_holds_25 : decode cX10_holds 25 = .ok (.iconst 0, 1) := by decide +kernel
theorem dX10_holds_26 : decode cX10_holds 26 = .ok (.ireturn, 1) := by decide +kernel
theorem dX10_holds_27 : decode cX10_holds 27 = .ok (.aload_n 0, 1) := by decide +kernel
theorem dX10_holds_28 : decode cX10_holds 28 = .ok (.invokevirtual 166, 3) := by decide +kernel
theorem dX10_holds_31 : decode cX10_holds 31 = .ok (.aload_n 0, 1) := by decide +kernel
theorem dX10_holds_32 : decode cX10_holds 32 = .ok (.getfield 25, 3) := by decide +kernel
theorem dX10_holds_35 : decode cX10_holds 35 = .ok (.iload_n 1, 1) := by decide +kernel
theorem dX10_holds_36 : decode cX10_holds 36 = .ok (.iload_n 2, 1) := by decide +kernel
theorem dX10_holds_37 : decode cX10_holds 37 = .ok (.iload_n 3, 1) := by decide +kernel
theorem dX10_holds_38 : decode cX10_holds 38 = .ok (.invokestatic 142, 3) := by decide +kernel
theorem dX10_holds_41 : decode cX10_holds 41 = .ok (.iaload, 1) := by decide +kernel
theorem dX10_holds_42 : decode cX10_holds 42 = .ok (.ifCond .lt 7, 3) := by decide +kernel
theorem dX10_holds_45 : decode cX10_holds 45 = .ok (.iconst 1, 1) := by decide +kernel
theorem dX10_holds_46 : decode cX10_holds 46 = .ok (.goto 4, 3) := by decide +kernel
theorem dX10_holds_49 : decode cX10_holds 49 = .ok (.iconst 0, 1) := by decide +kernel
theorem dX10_holds_50 : decode cX10_holds 50 = .ok (.ireturn, 1) := by decide +kernel
theorem dX10_isTold_0 : decode cX10_isTold 0 = .ok (.aload_n 0, 1) := by decide +kernel
theorem dX10_isTold_1 : decode cX10_isTold 1 = .ok (.iload_n 1, 1) := by decide +kernel
theorem dX10_isTold_2 : decode cX10_isTold 2 = .ok (.iload_n 2, 1) := by decide +kernel
theorem dX10_isTold_3 : decode cX10_isTold 3 = .ok (.iload_n 3, 1) := by decide +kernel
theorem dX10_isTold_4 : decode cX10_isTold 4 = .ok (.invokestatic 172, 3) := by decide +kernel
theorem dX10_isTold_7 : decode cX10_isTold 7 = .ok (.ifCond .eq 7, 3) := by decide +kernel
theorem dX10_isTold_10 : decode cX10_isTold 10 = .ok (.iconst 0, 1) := by decide +kernel
theorem dX10_isTold_11 : decode cX10_isTold 11 = .ok (.goto 4, 3) := by decide +kernel
theorem dX10_isTold_14 : decode cX10_isTold 14 = .ok (.iconst 1, 1) := by decide +kernel
theorem dX10_isTold_15 : decode cX10_isTold 15 = .ok (.putfield 76, 3) := by decide +kernel
theorem dX10_isTold_18 : decode cX10_isTold 18 = .ok (.aload_n 0, 1) := by decide +kernel
theorem dX10_isTold_19 : decode cX10_isTold 19 = .ok (.getfield 76, 3) := by decide +kernel
theorem dX10_isTold_22 : decode cX10_isTold 22 = .ok (.ifCond .ne 24, 3) := by decide +kernel
theorem dX10_isTold_25 : decode cX10_isTold 25 = .ok (.aload_n 0, 1) := by decide +kernel
theorem dX10_isTold_26 : decode cX10_isTold 26 = .ok (.getfield 9, 3) := by decide +kernel
theorem dX10_isTold_29 : decode cX10_isTold 29 = .ok (.iconst 0, 1) := by decide +kernel
theorem dX10_isTold_30 : decode cX10_isTold 30 = .ok (.iload_n 1, 1) := by decide +kernel
theorem dX10_isTold_31 : decode cX10_isTold 31 = .ok (.iload_n 2, 1) := by decide +kernel
theorem dX10_isTold_32 : decode cX10_isTold 32 = .ok (.iload_n 3, 1) := by decide +kernel
theorem dX10_isTold_33 : decode cX10_isTold 33 = .ok (.invokestatic 142, 3) := by decide +kernel
theorem dX10_isTold_36 : decode cX10_isTold 36 = .ok (.iadd, 1) := by decide +kernel
theorem dX10_isTold_37 : decode cX10_isTold 37 = .ok (.iaload, 1) := by decide +kernel
theorem dX10_isTold_38 : decode cX10_isTold 38 = .ok (.iconst 1, 1) := by decide +kernel
theorem dX10_isTold_39 : decode cX10_isTold 39 = .ok (.if_icmp .ne 7, 3) := by decide +kernel
theorem dX10_isTold_42 : decode cX10_isTold 42 = .ok (.iconst 1, 1) := by decide +kernel
theorem dX10_isTold_43 : decode cX10_isTold 43 = .ok (.goto 4, 3) := by decide +kernel
theorem dX10_isTold_46 : decode cX10_isTold 46 = .ok (.iconst 0, 1) := by decide +kernel
theorem dX10_isTold_47 : decode cX10_isTold 47 = .ok (.ireturn, 1) := by decide +kernel
theorem dX10_needs_0 : decode cX10_needs 0 = .ok (.iconst 0, 1) := by decide +kernel
theorem dX10_needs_1 : decode cX10_needs 1 = .ok (.istore_n 2, 1) := by decide +kernel
theorem dX10_needs_2 : decode cX10_needs 2 = .ok (.aload_n 0, 1) := by decide +kernel
theorem dX10_needs_3 : decode cX10_needs 3 = .ok (.getfield 40, 3) := by decide +kernel
theorem dX10_needs_6 : decode cX10_needs 6 = .ok (.iconst 0, 1) := by decide +kernel
theorem dX10_needs_7 : decode cX10_needs 7 = .ok (.iload_n 1, 1) := by decide +kernel
theorem dX10_needs_8 : decode cX10_needs 8 = .ok (.bipush 6, 2) := by decide +kernel
theorem dX10_needs_10 : decode cX10_needs 10 = .ok (.idiv, 1) := by decide +kernel
theorem dX10_needs_11 : decode cX10_needs 11 = .ok (.bipush 6, 2) := by decide +kernel
theorem dX10_needs_13 : decode cX10_needs 13 = .ok (.irem, 1) := by decide +kernel
theorem dX10_needs_14 : decode cX10_needs 14 = .ok (.iastore, 1) := by decide +kernel
theorem dX10_needs_15 : decode cX10_needs 15 = .ok (.aload_n 0, 1) := by decide +kernel
theorem dX10_needs_16 : decode cX10_needs 16 = .ok (.getfield 40, 3) := by decide +kernel
theorem dX10_needs_19 : decode cX10_needs 19 = .ok (.iconst 1, 1) := by decide +kernel
theorem dX10_needs_20 : decode cX10_needs 20 = .ok (.iload_n 1, 1) := by decide +kernel
theorem dX10_needs_21 : decode cX10_needs 21 = .ok (.bipush 6, 2) := by decide +kernel
theorem dX10_needs_23 : decode cX10_needs 23 = .ok (.irem, 1) := by decide +kernel
theorem dX10_needs_24 : decode cX10_needs 24 = .ok (.iastore, 1) := by decide +kernel
theorem dX10_needs_25 : decode cX10_needs 25 = .ok (.aload_n 0, 1) := by decide +kernel
theorem dX10_needs_26 : decode cX10_needs 26 = .ok (.getfield 40, 3) := by decide +kernel
theorem dX10_needs_29 : decode cX10_needs 29 = .ok (.iconst 2, 1) := by decide +kernel
theorem dX10_needs_30 : decode cX10_needs 30 = .ok (.aload_n 0, 1) := by decide +kernel
theorem dX10_needs_31 : decode cX10_needs 31 = .ok (.getfield 31, 3) := by decide +kernel
theorem dX10_needs_34 : decode cX10_needs 34 = .ok (.iload_n 1, 1) := by decide +kernel
theorem dX10_needs_35 : decode cX10_needs 35 = .ok (.iaload, 1) := by decide +kernel
theorem dX10_needs_36 : decode cX10_needs 36 = .ok (.iastore, 1) := by decide +kernel
theorem dX10_needs_37 : decode cX10_needs 37 = .ok (.iconst 0, 1) := by decide +kernel
theorem dX10_needs_38 : decode cX10_needs 38 = .ok (.istore_n 3, 1) := by decide +kernel
theorem dX10_needs_39 : decode cX10_needs 39 = .ok (.iload_n 3, 1) := by decide +kernel
theorem dX10_needs_40 : decode cX10_needs 40 = .ok (.iconst 3, 1) := by decide +kernel
theorem dX10_needs_41 : decode cX10_needs 41 = .ok (.if_icmp .ge 51, 3) := by decide +kernel
theorem dX10_needs_44 : decode cX10_needs 44 = .ok (.aload_n 0, 1) := by decide +kernel
theorem dX10_needs_45 : decode cX10_needs 45 = .ok (.getfield 25, 3) := by decide +kernel
theorem dX10_needs_48 : decode cX10_needs 48 = .ok (.iload_n 1, 1) := by decide +kernel
theorem dX10_needs_49 : decode cX10_needs 49 = .ok (.iaload, 1) := by decide +kernel
theorem dX10_needs_50 : decode cX10_needs 50 = .ok (.ifCond .le 42, 3) := by decide +kernel
theorem dX10_needs_53 : decode cX10_needs 53 = .ok (.aload_n 0, 1) := by decide +kernel
theorem dX10_needs_54 : decode cX10_needs 54 = .ok (.aload_n 0, 1) := by decide +kernel
theorem dX10_needs_55 : decode cX10_needs 55 = .ok (.getfield 28, 3) := by decide +kernel
theorem dX10_needs_58 : decode cX10_needs 58 = .ok (.iload_n 1, 1) := by decide +kernel
theorem dX10_needs_59 : decode cX10_needs 59 = .ok (.iaload, 1) := by decide +kernel
theorem dX10_needs_60 : decode cX10_needs 60 = .ok (.iload_n 3, 1) := by decide +kernel
theorem dX10_needs_61 : decode cX10_needs 61 = .ok (.invokevirtual 119, 3) := by decide +kernel
theorem dX10_needs_64 : decode cX10_needs 64 = .ok (.istore 4, 2) := by decide +kernel
theorem dX10_needs_66 : decode cX10_needs 66 = .ok (.iload 4, 2) := by decide +kernel
theorem dX10_needs_68 : decode cX10_needs 68 = .ok (.ifCond .le 18, 3) := by decide +kernel
theorem dX10_needs_71 : decode cX10_needs 71 = .ok (.aload_n 0, 1) := by decide +kernel
theorem dX10_needs_72 : decode cX10_needs 72 = .ok (.getfield 43, 3) := by decide +kernel
theorem dX10_needs_75 : decode cX10_needs 75 = .ok (.iload_n 2, 1) := by decide +kernel
theorem dX10_needs_76 : decode cX10_needs 76 = .ok (.aload_n 0, 1) := by decide +kernel
theorem dX10_needs_77 : decode cX10_needs 77 = .ok (.iload 4, 2) := by decide +kernel
theorem dX10_needs_79 : decode cX10_needs 79 = .ok (.invokevirtual 146, 3) := by decide +kernel
theorem dX10_needs_82 : decode cX10_needs 82 = .ok (.iastore, 1) := by decide +kernel
theorem dX10_needs_83 : decode cX10_needs 83 = .ok (.iinc 2 1, 3) := by decide +kernel
theorem dX10_needs_86 : decode cX10_needs 86 = .ok (.iinc 3 1, 3) := by decide +kernel
theorem dX10_needs_89 : decode cX10_needs 89 = .ok (.goto (-50), 3) := by decide +kernel
theorem dX10_needs_92 : decode cX10_needs 92 = .ok (.iload_n 2, 1) := by decide +kernel
theorem dX10_needs_93 : decode cX10_needs 93 = .ok (.ireturn, 1) := by decide +kernel
theorem dX10_deepens_0 : decode cX10_deepens 0 = .ok (.iconst 0, 1) := by decide +kernel
theorem dX10_deepens_1 : decode cX10_deepens 1 = .ok (.istore_n 1, 1) := by decide +kernel
theorem dX10_deepens_2 : decode cX10_deepens 2 = .ok (.iload_n 1, 1) := by decide +kernel
theorem dX10_deepens_3 : decode cX10_deepens 3 = .ok (.sipush 216, 3) := by decide +kernel
theorem dX10_deepens_6 : decode cX10_deepens 6 = .ok (.if_icmp .ge 16, 3) := by decide +kernel
theorem dX10_deepens_9 : decode cX10_deepens 9 = .ok (.aload_n 0, 1) := by decide +kernel
theorem dX10_deepens_10 : decode cX10_deepens 10 = .ok (.getfield 46, 3) := by decide +kernel
theorem dX10_deepens_13 : decode cX10_deepens 13 = .ok (.iload_n 1, 1) := by decide +kernel
theorem dX10_deepens_14 : decode cX10_deepens 14 = .ok (.iconst 0, 1) := by decide +kernel
theorem dX10_deepens_15 : decode cX10_deepens 15 = .ok (.iastore, 1) := by decide +kernel
theorem dX10_deepens_16 : decode cX10_deepens 16 = .ok (.iinc 1 1, 3) := by decide +kernel
theorem dX10_deepens_19 : decode cX10_deepens 19 = .ok (.goto (-17), 3) := by decide +kernel
theorem dX10_deepens_22 : decode cX10_deepens 22 = .ok (.iconst 1, 1) := by decide +kernel
theorem dX10_deepens_23 : decode cX10_deepens 23 = .ok (.istore_n 1, 1) := by decide +kernel
theorem dX10_deepens_24 : decode cX10_deepens 24 = .ok (.iload_n 1, 1) := by decide +kernel
theorem dX10_deepens_25 : decode cX10_deepens 25 = .ok (.ifCond .eq 89, 3) := by decide +kernel
theorem dX10_deepens_28 : decode cX10_deepens 28 = .ok (.iconst 0, 1) := by decide +kernel
theorem dX10_deepens_29 : decode cX10_deepens 29 = .ok (.istore_n 1, 1) := by decide +kernel
theorem dX10_deepens_30 : decode cX10_deepens 30 = .ok (.iconst 0, 1) := by decide +kernel
theorem dX10_deepens_31 : decode cX10_deepens 31 = .ok (.istore_n 2, 1) := by decide +kernel
theorem dX10_deepens_32 : decode cX10_deepens 32 = .ok (.iload_n 2, 1) := by decide +kernel
theorem dX10_deepens_33 : decode cX10_deepens 33 = .ok (.sipush 216, 3) := by decide +kernel
theorem dX10_deepens_36 : decode cX10_deepens 36 = .ok (.if_icmp .ge 75, 3) := by decide +kernel
theorem dX10_deepens_39 : decode cX10_deepens 39 = .ok (.aload_n 0, 1) := by decide +kernel
theorem dX10_deepens_40 : decode cX10_deepens 40 = .ok (.iload_n 2, 1) := by decide +kernel
theorem dX10_deepens_41 : decode cX10_deepens 41 = .ok (.invokevirtual 199, 3) := by decide +kernel
theorem dX10_deepens_44 : decode cX10_deepens 44 = .ok (.istore_n 3, 1) := by decide +kernel
theorem dX10_deepens_45 : decode cX10_deepens 45 = .ok (.iconst 0, 1) := by decide +kernel
theorem dX10_deepens_46 : decode cX10_deepens 46 = .ok (.istore 4, 2) := by decide +kernel
theorem dX10_deepens_48 : decode cX10_deepens 48 = .ok (.iload 4, 2) := by decide +kernel
theorem dX10_deepens_50 : decode cX10_deepens 50 = .ok (.iload_n 3, 1) := by decide +kernel
theorem dX10_deepens_51 : decode cX10_deepens 51 = .ok (.if_icmp .ge 54, 3) := by decide +kernel
theorem dX10_deepens_54 : decode cX10_deepens 54 = .ok (.aload_n 0, 1) := by decide +kernel
theorem dX10_deepens_55 : decode cX10_deepens 55 = .ok (.getfield 46, 3) := by decide +kernel
theorem dX10_deepens_58 : decode cX10_deepens 58 = .ok (.aload_n 0, 1) := by decide +kernel
theorem dX10_deepens_59 : decode cX10_deepens 59 = .ok (.getfield 43, 3) := by decide +kernel
theorem dX10_deepens_62 : decode cX10_deepens 62 = .ok (.iload 4, 2) := by decide +kernel
theorem dX10_deepens_64 : decode cX10_deepens 64 = .ok (.iaload, 1) := by decide +kernel
theorem dX10_deepens_65 : decode cX10_deepens 65 = .ok (.iaload, 1) := by decide +kernel
theorem dX10_deepens_66 : decode cX10_deepens 66 = .ok (.iconst 1, 1) := by decide +kernel
theorem dX10_deepens_67 : decode cX10_deepens 67 = .ok (.iadd, 1) := by decide +kernel
theorem dX10_deepens_68 : decode cX10_deepens 68 = .ok (.aload_n 0, 1) := by decide +kernel
theorem dX10_deepens_69 : decode cX10_deepens 69 = .ok (.getfield 46, 3) := by decide +kernel
theorem dX10_deepens_72 : decode cX10_deepens 72 = .ok (.iload_n 2, 1) := by decide +kernel
theorem dX10_deepens_73 : decode cX10_deepens 73 = .ok (.iaload, 1) := by decide +kernel
theorem dX10_deepens_74 : decode cX10_deepens 74 = .ok (.if_icmp .le 25, 3) := by decide +kernel
theorem dX10_deepens_77 : decode cX10_deepens 77 = .ok (.aload_n 0, 1) := by decide +kernel
theorem dX10_deepens_78 : decode cX10_deepens 78 = .ok (.getfield 46, 3) := by decide +kernel
theorem dX10_deepens_81 : decode cX10_deepens 81 = .ok (.iload_n 2, 1) := by decide +kernel
theorem dX10_deepens_82 : decode cX10_deepens 82 = .ok (.aload_n 0, 1) := by decide +kernel
theorem dX10_deepens_83 : decode cX10_deepens 83 = .ok (.getfield 46, 3) := by decide +kernel
theorem dX10_deepens_86 : decode cX10_deepens 86 = .ok (.aload_n 0, 1) := by decide +kernel
theorem dX10_deepens_87 : decode cX10_deepens 87 = .ok (.getfield 43, 3) := by decide +kernel
theorem dX10_deepens_90 : decode cX10_deepens 90 = .ok (.iload 4, 2) := by decide +kernel
theorem dX10_deepens_92 : decode cX10_deepens 92 = .ok (.iaload, 1) := by decide +kernel
theorem dX10_deepens_93 : decode cX10_deepens 93 = .ok (.iaload, 1) := by decide +kernel
theorem dX10_deepens_94 : decode cX10_deepens 94 = .ok (.iconst 1, 1) := by decide +kernel
theorem dX10_deepens_95 : decode cX10_deepens 95 = .ok (.iadd, 1) := by decide +kernel
theorem dX10_deepens_96 : decode cX10_deepens 96 = .ok (.iastore, 1) := by decide +kernel
theorem dX10_deepens_97 : decode cX10_deepens 97 = .ok (.iconst 1, 1) := by decide +kernel
theorem dX10_deepens_98 : decode cX10_deepens 98 = .ok (.istore_n 1, 1) := by decide +kernel
theorem dX10_deepens_99 : decode cX10_deepens 99 = .ok (.iinc 4 1, 3) := by decide +kernel
theorem dX10_deepens_102 : decode cX10_deepens 102 = .ok (.goto (-54), 3) := by decide +kernel
theorem dX10_deepens_105 : decode cX10_deepens 105 = .ok (.iinc 2 1, 3) := by decide +kernel
theorem dX10_deepens_108 : decode cX10_deepens 108 = .ok (.goto (-76), 3) := by decide +kernel
theorem dX10_deepens_111 : decode cX10_deepens 111 = .ok (.goto (-87), 3) := by decide +kernel
theorem dX10_deepens_114 : decode cX10_deepens 114 = .ok (.return_, 1) := by decide +kernel
theorem dX10_sizeOf_0 : decode cX10_sizeOf 0 = .ok (.iconst 0, 1) := by decide +kernel
theorem dX10_sizeOf_1 : decode cX10_sizeOf 1 = .ok (.istore_n 2, 1) := by decide +kernel
theorem dX10_sizeOf_2 : decode cX10_sizeOf 2 = .ok (.iload_n 2, 1) := by decide +kernel
theorem dX10_sizeOf_3 : decode cX10_sizeOf 3 = .ok (.sipush 216, 3) := by decide +kernel
theorem dX10_sizeOf_6 : decode cX10_sizeOf 6 = .ok (.if_icmp .ge 25, 3) := by decide +kernel
theorem dX10_sizeOf_9 : decode cX10_sizeOf 9 = .ok (.aload_n 0, 1) := by decide +kernel
theorem dX10_sizeOf_10 : decode cX10_sizeOf 10 = .ok (.getfield 49, 3) := by decide +kernel
theorem dX10_sizeOf_13 : decode cX10_sizeOf 13 = .ok (.iload_n 2, 1) := by decide +kernel
theorem dX10_sizeOf_14 : decode cX10_sizeOf 14 = .ok (.iload_n 2, 1) := by decide +kernel
theorem dX10_sizeOf_15 : decode cX10_sizeOf 15 = .ok (.iload_n 1, 1) := by decide +kernel
theorem dX10_sizeOf_16 : decode cX10_sizeOf 16 = .ok (.if_icmp .ne 7, 3) := by decide +kernel
theorem dX10_sizeOf_19 : decode cX10_sizeOf 19 = .ok (.iconst 1, 1) := by decide +kernel
theorem dX10_sizeOf_20 : decode cX10_sizeOf 20 = .ok (.goto 4, 3) := by decide +kernel
theorem dX10_sizeOf_23 : decode cX10_sizeOf 23 = .ok (.iconst 0, 1) := by decide +kernel
theorem dX10_sizeOf_24 : decode cX10_sizeOf 24 = .ok (.bastore, 1) := by decide +kernel
theorem dX10_sizeOf_25 : decode cX10_sizeOf 25 = .ok (.iinc 2 1, 3) := by decide +kernel
theorem dX10_sizeOf_28 : decode cX10_sizeOf 28 = .ok (.goto (-26), 3) := by decide +kernel
theorem dX10_sizeOf_31 : decode cX10_sizeOf 31 = .ok (.iconst 1, 1) := by decide +kernel
theorem dX10_sizeOf_32 : decode cX10_sizeOf 32 = .ok (.istore_n 2, 1) := by decide +kernel
theorem dX10_sizeOf_33 : decode cX10_sizeOf 33 = .ok (.iload_n 2, 1) := by decide +kernel
theorem dX10_sizeOf_34 : decode cX10_sizeOf 34 = .ok (.ifCond .eq 97, 3) := by decide +kernel
theorem dX10_sizeOf_37 : decode cX10_sizeOf 37 = .ok (.iconst 0, 1) := by decide +kernel
theorem dX10_sizeOf_38 : decode cX10_sizeOf 38 = .ok (.istore_n 2, 1) := by decide +kernel
theorem dX10_sizeOf_39 : decode cX10_sizeOf 39 = .ok (.iconst 0, 1) := by decide +kernel
theorem dX10_sizeOf_40 : decode cX10_sizeOf 40 = .ok (.istore_n 3, 1) := by decide +kernel
theorem dX10_sizeOf_41 : decode cX10_sizeOf 41 = .ok (.iload_n 3, 1) := by decide +kernel
theorem dX10_sizeOf_42 : decode cX10_sizeOf 42 = .ok (.sipush 216, 3) := by decide +kernel
theorem dX10_sizeOf_45 : decode cX10_sizeOf 45 = .ok (.if_icmp .ge 83, 3) := by decide +kernel
theorem dX10_sizeOf_48 : decode cX10_sizeOf 48 = .ok (.aload_n 0, 1) := by decide +kernel
theorem dX10_sizeOf_49 : decode cX10_sizeOf 49 = .ok (.getfield 49, 3) := by decide +kernel
theorem dX10_sizeOf_52 : decode cX10_sizeOf 52 = .ok (.iload_n 3, 1) := by decide +kernel
theorem dX10_sizeOf_53 : decode cX10_sizeOf 53 = .ok (.baload, 1) := by decide +kernel
theorem dX10_sizeOf_54 : decode cX10_sizeOf 54 = .ok (.ifCond .eq 11, 3) := by decide +kernel
theorem dX10_sizeOf_57 : decode cX10_sizeOf 57 = .ok (.aload_n 0, 1) := by decide +kernel
theorem dX10_sizeOf_58 : decode cX10_sizeOf 58 = .ok (.iload_n 3, 1) := by decide +kernel
theorem dX10_sizeOf_59 : decode cX10_sizeOf 59 = .ok (.invokevirtual 199, 3) := by decide +kernel
theorem dX10_sizeOf_62 : decode cX10_sizeOf 62 = .ok (.goto 4, 3) := by decide +kernel
theorem dX10_sizeOf_65 : decode cX10_sizeOf 65 = .ok (.iconst 0, 1) := by decide +kernel
theorem dX10_sizeOf_66 : decode cX10_sizeOf 66 = .ok (.istore 4, 2) := by decide +kernel
theorem dX10_sizeOf_68 : decode cX10_sizeOf 68 = .ok (.iconst 0, 1) := by decide +kernel
theorem dX10_sizeOf_69 : decode cX10_sizeOf 69 = .ok (.istore 5, 2) := by decide +kernel
theorem dX10_sizeOf_71 : decode cX10_sizeOf 71 = .ok (.iload 5, 2) := by decide +kernel
theorem dX10_sizeOf_73 : decode cX10_sizeOf 73 = .ok (.iload 4, 2) := by decide +kernel
theorem dX10_sizeOf_75 : decode cX10_sizeOf 75 = .ok (.if_icmp .ge 47, 3) := by decide +kernel
theorem dX10_sizeOf_78 : decode cX10_sizeOf 78 = .ok (.iload_n 2, 1) := by decide +kernel
theorem dX10_sizeOf_79 : decode cX10_sizeOf 79 = .ok (.ifCond .ne 18, 3) := by decide +kernel
theorem dX10_sizeOf_82 : decode cX10_sizeOf 82 = .ok (.aload_n 0, 1) := by decide +kernel
theorem dX10_sizeOf_83 : decode cX10_sizeOf 83 = .ok (.getfield 49, 3) := by decide +kernel
theorem dX10_sizeOf_86 : decode cX10_sizeOf 86 = .ok (.aload_n 0, 1) := by decide +kernel
theorem dX10_sizeOf_87 : decode cX10_sizeOf 87 = .ok (.getfield 43, 3) := by decide +kernel
theorem dX10_sizeOf_90 : decode cX10_sizeOf 90 = .ok (.iload 5, 2) := by decide +kernel
theorem dX10_sizeOf_92 : decode cX10_sizeOf 92 = .ok (.iaload, 1) := by decide +kernel
theorem dX10_sizeOf_93 : decode cX10_sizeOf 93 = .ok (.baload, 1) := by decide +kernel
theorem dX10_sizeOf_94 : decode cX10_sizeOf 94 = .ok (.ifCond .ne 7, 3) := by decide +kernel
theorem dX10_sizeOf_97 : decode cX10_sizeOf 97 = .ok (.iconst 1, 1) := by decide +kernel
theorem dX10_sizeOf_98 : decode cX10_sizeOf 98 = .ok (.goto 4, 3) := by decide +kernel
theorem dX10_sizeOf_101 : decode cX10_sizeOf 101 = .ok (.iconst 0, 1) := by decide +kernel
theorem dX10_sizeOf_102 : decode cX10_sizeOf 102 = .ok (.istore_n 2, 1) := by decide +kernel
theorem dX10_sizeOf_103 : decode cX10_sizeOf 103 = .ok (.aload_n 0, 1) := by decide +kernel
theorem dX10_sizeOf_104 : decode cX10_sizeOf 104 = .ok (.getfield 49, 3) := by decide +kernel
theorem dX10_sizeOf_107 : decode cX10_sizeOf 107 = .ok (.aload_n 0, 1) := by decide +kernel
theorem dX10_sizeOf_108 : decode cX10_sizeOf 108 = .ok (.getfield 43, 3) := by decide +kernel
theorem dX10_sizeOf_111 : decode cX10_sizeOf 111 = .ok (.iload 5, 2) := by decide +kernel
theorem dX10_sizeOf_113 : decode cX10_sizeOf 113 = .ok (.iaload, 1) := by decide +kernel
theorem dX10_sizeOf_114 : decode cX10_sizeOf 114 = .ok (.iconst 1, 1) := by decide +kernel
theorem dX10_sizeOf_115 : decode cX10_sizeOf 115 = .ok (.bastore, 1) := by decide +kernel
theorem dX10_sizeOf_116 : decode cX10_sizeOf 116 = .ok (.iinc 5 1, 3) := by decide +kernel
theorem dX10_sizeOf_119 : decode cX10_sizeOf 119 = .ok (.goto (-48), 3) := by decide +kernel
theorem dX10_sizeOf_122 : decode cX10_sizeOf 122 = .ok (.iinc 3 1, 3) := by decide +kernel
theorem dX10_sizeOf_125 : decode cX10_sizeOf 125 = .ok (.goto (-84), 3) := by decide +kernel
theorem dX10_sizeOf_128 : decode cX10_sizeOf 128 = .ok (.goto (-95), 3) := by decide +kernel
theorem dX10_sizeOf_131 : decode cX10_sizeOf 131 = .ok (.iconst 0, 1) := by decide +kernel
theorem dX10_sizeOf_132 : decode cX10_sizeOf 132 = .ok (.istore_n 3, 1) := by decide +kernel
theorem dX10_sizeOf_133 : decode cX10_sizeOf 133 = .ok (.iconst 0, 1) := by decide +kernel
theorem dX10_sizeOf_134 : decode cX10_sizeOf 134 = .ok (.istore 4, 2) := by decide +kernel
theorem dX10_sizeOf_136 : decode cX10_sizeOf 136 = .ok (.iload 4, 2) := by decide +kernel
theorem dX10_sizeOf_138 : decode cX10_sizeOf 138 = .ok (.sipush 216, 3) := by decide +kernel
theorem dX10_sizeOf_141 : decode cX10_sizeOf 141 = .ok (.if_icmp .ge 27, 3) := by decide +kernel
theorem dX10_sizeOf_144 : decode cX10_sizeOf 144 = .ok (.iload_n 3, 1) := by decide +kernel
theorem dX10_sizeOf_145 : decode cX10_sizeOf 145 = .ok (.aload_n 0, 1) := by decide +kernel
theorem dX10_sizeOf_146 : decode cX10_sizeOf 146 = .ok (.getfield 49, 3) := by decide +kernel
theorem dX10_sizeOf_149 : decode cX10_sizeOf 149 = .ok (.iload 4, 2) := by decide +kernel
theorem dX10_sizeOf_151 : decode cX10_sizeOf 151 = .ok (.baload, 1) := by decide +kernel
theorem dX10_sizeOf_152 : decode cX10_sizeOf 152 = .ok (.ifCond .eq 7, 3) := by decide +kernel
theorem dX10_sizeOf_155 : decode cX10_sizeOf 155 = .ok (.iconst 1, 1) := by decide +kernel
theorem dX10_sizeOf_156 : decode cX10_sizeOf 156 = .ok (.goto 4, 3) := by decide +kernel
theorem dX10_sizeOf_159 : decode cX10_sizeOf 159 = .ok (.iconst 0, 1) := by decide +kernel
theorem dX10_sizeOf_160 : decode cX10_sizeOf 160 = .ok (.iadd, 1) := by decide +kernel
theorem dX10_sizeOf_161 : decode cX10_sizeOf 161 = .ok (.istore_n 3, 1) := by decide +kernel
theorem dX10_sizeOf_162 : decode cX10_sizeOf 162 = .ok (.iinc 4 1, 3) := by decide +kernel
theorem dX10_sizeOf_165 : decode cX10_sizeOf 165 = .ok (.goto (-29), 3) := by decide +kernel
theorem dX10_sizeOf_168 : decode cX10_sizeOf 168 = .ok (.iload_n 3, 1) := by decide +kernel
theorem dX10_sizeOf_169 : decode cX10_sizeOf 169 = .ok (.ireturn, 1) := by decide +kernel
theorem dX10_unlikeNeeds_0 : decode cX10_unlikeNeeds 0 = .ok (.aload_n 0, 1) := by decide +kernel
theorem dX10_unlikeNeeds_1 : decode cX10_unlikeNeeds 1 = .ok (.iload_n 1, 1) := by decide +kernel
theorem dX10_unlikeNeeds_2 : decode cX10_unlikeNeeds 2 = .ok (.invokevirtual 199, 3) := by decide +kernel
theorem dX10_unlikeNeeds_5 : decode cX10_unlikeNeeds 5 = .ok (.istore_n 2, 1) := by decide +kernel
theorem dX10_unlikeNeeds_6 : decode cX10_unlikeNeeds 6 = .ok (.iconst 0, 1) := by decide +kernel
theorem dX10_unlikeNeeds_7 : decode cX10_unlikeNeeds 7 = .ok (.istore_n 3, 1) := by decide +kernel
theorem dX10_unlikeNeeds_8 : decode cX10_unlikeNeeds 8 = .ok (.iconst 0, 1) := by decide +kernel
theorem dX10_unlikeNeeds_9 : decode cX10_unlikeNeeds 9 = .ok (.istore 4, 2) := by decide +kernel
theorem dX10_unlikeNeeds_11 : decode cX10_unlikeNeeds 11 = .ok (.iload 4, 2) := by decide +kernel
theorem dX10_unlikeNeeds_13 : decode cX10_unlikeNeeds 13 = .ok (.iload_n 2, 1) := by decide +kernel
theorem dX10_unlikeNeeds_14 : decode cX10_unlikeNeeds 14 = .ok (.if_icmp .ge 70, 3) := by decide +kernel
theorem dX10_unlikeNeeds_17 : decode cX10_unlikeNeeds 17 = .ok (.iconst 1, 1) := by decide +kernel
theorem dX10_unlikeNeeds_18 : decode cX10_unlikeNeeds 18 = .ok (.istore 5, 2) := by decide +kernel
theorem dX10_unlikeNeeds_20 : decode cX10_unlikeNeeds 20 = .ok (.iconst 0, 1) := by decide +kernel
theorem dX10_unlikeNeeds_21 : decode cX10_unlikeNeeds 21 = .ok (.istore 6, 2) := by decide +kernel
theorem dX10_unlikeNeeds_23 : decode cX10_unlikeNeeds 23 = .ok (.iload 6, 2) := by decide +kernel
theorem dX10_unlikeNeeds_25 : decode cX10_unlikeNeeds 25 = .ok (.iload 4, 2) := by decide +kernel
theorem dX10_unlikeNeeds_27 : decode cX10_unlikeNeeds 27 = .ok (.if_icmp .ge 38, 3) := by decide +kernel
theorem dX10_unlikeNeeds_30 : decode cX10_unlikeNeeds 30 = .ok (.iload 5, 2) := by decide +kernel
theorem dX10_unlikeNeeds_32 : decode cX10_unlikeNeeds 32 = .ok (.ifCond .eq 24, 3) := by decide +kernel
theorem dX10_unlikeNeeds_35 : decode cX10_unlikeNeeds 35 = .ok (.aload_n 0, 1) := by decide +kernel
theorem dX10_unlikeNeeds_36 : decode cX10_unlikeNeeds 36 = .ok (.getfield 43, 3) := by decide +kernel
theorem dX10_unlikeNeeds_39 : decode cX10_unlikeNeeds 39 = .ok (.iload 6, 2) := by decide +kernel
theorem dX10_unlikeNeeds_41 : decode cX10_unlikeNeeds 41 = .ok (.iaload, 1) := by decide +kernel
theorem dX10_unlikeNeeds_42 : decode cX10_unlikeNeeds 42 = .ok (.aload_n 0, 1) := by decide +kernel
theorem dX10_unlikeNeeds_43 : decode cX10_unlikeNeeds 43 = .ok (.getfield 43, 3) := by decide +kernel
theorem dX10_unlikeNeeds_46 : decode cX10_unlikeNeeds 46 = .ok (.iload 4, 2) := by decide +kernel
theorem dX10_unlikeNeeds_48 : decode cX10_unlikeNeeds 48 = .ok (.iaload, 1) := by decide +kernel
theorem dX10_unlikeNeeds_49 : decode cX10_unlikeNeeds 49 = .ok (.if_icmp .eq 7, 3) := by decide +kernel
theorem dX10_unlikeNeeds_52 : decode cX10_unlikeNeeds 52 = .ok (.iconst 1, 1) := by decide +kernel
theorem dX10_unlikeNeeds_53 : decode cX10_unlikeNeeds 53 = .ok (.goto 4, 3) := by decide +kernel
theorem dX10_unlikeNeeds_56 : decode cX10_unlikeNeeds 56 = .ok (.iconst 0, 1) := by decide +kernel
theorem dX10_unlikeNeeds_57 : decode cX10_unlikeNeeds 57 = .ok (.istore 5, 2) := by decide +kernel
theorem dX10_unlikeNeeds_59 : decode cX10_unlikeNeeds 59 = .ok (.iinc 6 1, 3) := by decide +kernel
theorem dX10_unlikeNeeds_62 : decode cX10_unlikeNeeds 62 = .ok (.goto (-39), 3) := by decide +kernel
theorem dX10_unlikeNeeds_65 : decode cX10_unlikeNeeds 65 = .ok (.iload_n 3, 1) := by decide +kernel
theorem dX10_unlikeNeeds_66 : decode cX10_unlikeNeeds 66 = .ok (.iload 5, 2) := by decide +kernel
theorem dX10_unlikeNeeds_68 : decode cX10_unlikeNeeds 68 = .ok (.ifCond .eq 7, 3) := by decide +kernel
theorem dX10_unlikeNeeds_71 : decode cX10_unlikeNeeds 71 = .ok (.iconst 1, 1) := by decide +kernel
theorem dX10_unlikeNeeds_72 : decode cX10_unlikeNeeds 72 = .ok (.goto 4, 3) := by decide +kernel
theorem dX10_unlikeNeeds_75 : decode cX10_unlikeNeeds 75 = .ok (.iconst 0, 1) := by decide +kernel
theorem dX10_unlikeNeeds_76 : decode cX10_unlikeNeeds 76 = .ok (.iadd, 1) := by decide +kernel
theorem dX10_unlikeNeeds_77 : decode cX10_unlikeNeeds 77 = .ok (.istore_n 3, 1) := by decide +kernel
theorem dX10_unlikeNeeds_78 : decode cX10_unlikeNeeds 78 = .ok (.iinc 4 1, 3) := by decide +kernel
theorem dX10_unlikeNeeds_81 : decode cX10_unlikeNeeds 81 = .ok (.goto (-70), 3) := by decide +kernel
theorem dX10_unlikeNeeds_84 : decode cX10_unlikeNeeds 84 = .ok (.iload_n 3, 1) := by decide +kernel
theorem dX10_unlikeNeeds_85 : decode cX10_unlikeNeeds 85 = .ok (.ireturn, 1) := by decide +kernel
theorem dX10_factOf_0 : decode cX10_factOf 0 = .ok (.aload_n 0, 1) := by decide +kernel
theorem dX10_factOf_1 : decode cX10_factOf 1 = .ok (.iload_n 1, 1) := by decide +kernel
theorem dX10_factOf_2 : decode cX10_factOf 2 = .ok (.iload_n 2, 1) := by decide +kernel
theorem dX10_factOf_3 : decode cX10_factOf 3 = .ok (.iload_n 3, 1) := by decide +kernel
theorem dX10_factOf_4 : decode cX10_factOf 4 = .ok (.invokestatic 172, 3) := by decide +kernel
theorem dX10_factOf_7 : decode cX10_factOf 7 = .ok (.ifCond .eq 7, 3) := by decide +kernel
theorem dX10_factOf_10 : decode cX10_factOf 10 = .ok (.iconst 0, 1) := by decide +kernel
theorem dX10_factOf_11 : decode cX10_factOf 11 = .ok (.goto 4, 3) := by decide +kernel
theorem dX10_factOf_14 : decode cX10_factOf 14 = .ok (.iconst 1, 1) := by decide +kernel
theorem dX10_factOf_15 : decode cX10_factOf 15 = .ok (.putfield 76, 3) := by decide +kernel
theorem dX10_factOf_18 : decode cX10_factOf 18 = .ok (.aload_n 0, 1) := by decide +kernel
theorem dX10_factOf_19 : decode cX10_factOf 19 = .ok (.getfield 76, 3) := by decide +kernel
theorem dX10_factOf_22 : decode cX10_factOf 22 = .ok (.ifCond .le 5, 3) := by decide +kernel
theorem dX10_factOf_25 : decode cX10_factOf 25 = .ok (.iconst 0, 1) := by decide +kernel
theorem dX10_factOf_26 : decode cX10_factOf 26 = .ok (.ireturn, 1) := by decide +kernel
theorem dX10_factOf_27 : decode cX10_factOf 27 = .ok (.aload_n 0, 1) := by decide +kernel
theorem dX10_factOf_28 : decode cX10_factOf 28 = .ok (.invokevirtual 166, 3) := by decide +kernel
theorem dX10_factOf_31 : decode cX10_factOf 31 = .ok (.iload_n 1, 1) := by decide +kernel
theorem dX10_factOf_32 : decode cX10_factOf 32 = .ok (.iload_n 2, 1) := by decide +kernel
theorem dX10_factOf_33 : decode cX10_factOf 33 = .ok (.iload_n 3, 1) := by decide +kernel
theorem dX10_factOf_34 : decode cX10_factOf 34 = .ok (.invokestatic 142, 3) := by decide +kernel
theorem dX10_factOf_37 : decode cX10_factOf 37 = .ok (.istore 5, 2) := by decide +kernel
theorem dX10_factOf_39 : decode cX10_factOf 39 = .ok (.aload_n 0, 1) := by decide +kernel
theorem dX10_factOf_40 : decode cX10_factOf 40 = .ok (.aload_n 0, 1) := by decide +kernel
theorem dX10_factOf_41 : decode cX10_factOf 41 = .ok (.getfield 25, 3) := by decide +kernel
theorem dX10_factOf_44 : decode cX10_factOf 44 = .ok (.iload 5, 2) := by decide +kernel
theorem dX10_factOf_46 : decode cX10_factOf 46 = .ok (.iaload, 1) := by decide +kernel
theorem dX10_factOf_47 : decode cX10_factOf 47 = .ok (.ifCond .ge 7, 3) := by decide +kernel
theorem dX10_factOf_50 : decode cX10_factOf 50 = .ok (.iconst 2, 1) := by decide +kernel
theorem dX10_factOf_51 : decode cX10_factOf 51 = .ok (.goto 18, 3) := by decide +kernel
theorem dX10_factOf_54 : decode cX10_factOf 54 = .ok (.iload 4, 2) := by decide +kernel
theorem dX10_factOf_56 : decode cX10_factOf 56 = .ok (.iconst 0, 1) := by decide +kernel
theorem dX10_factOf_57 : decode cX10_factOf 57 = .ok (.iconst 5, 1) := by decide +kernel
theorem dX10_factOf_58 : decode cX10_factOf 58 = .ok (.invokestatic 98, 3) := by decide +kernel
theorem dX10_factOf_61 : decode cX10_factOf 61 = .ok (.ifCond .ne 7, 3) := by decide +kernel
theorem dX10_factOf_64 : decode cX10_factOf 64 = .ok (.iconst 3, 1) := by decide +kernel
theorem dX10_factOf_65 : decode cX10_factOf 65 = .ok (.goto 4, 3) := by decide +kernel
theorem dX10_factOf_68 : decode cX10_factOf 68 = .ok (.iconst 0, 1) := by decide +kernel
theorem dX10_factOf_69 : decode cX10_factOf 69 = .ok (.putfield 76, 3) := by decide +kernel
theorem dX10_factOf_72 : decode cX10_factOf 72 = .ok (.aload_n 0, 1) := by decide +kernel
theorem dX10_factOf_73 : decode cX10_factOf 73 = .ok (.getfield 76, 3) := by decide +kernel
theorem dX10_factOf_76 : decode cX10_factOf 76 = .ok (.ifCond .le 5, 3) := by decide +kernel
theorem dX10_factOf_79 : decode cX10_factOf 79 = .ok (.iconst 0, 1) := by decide +kernel
theorem dX10_factOf_80 : decode cX10_factOf 80 = .ok (.ireturn, 1) := by decide +kernel
theorem dX10_factOf_81 : decode cX10_factOf 81 = .ok (.iload 4, 2) := by decide +kernel
theorem dX10_factOf_83 : decode cX10_factOf 83 = .ok (.tableswitch 104 0 4 #[33, 41, 63, 85, 97], 33) := by decide +kernel
theorem dX10_factOf_116 : decode cX10_factOf 116 = .ok (.aload_n 0, 1) := by decide +kernel
theorem dX10_factOf_117 : decode cX10_factOf 117 = .ok (.getfield 25, 3) := by decide +kernel
theorem dX10_factOf_120 : decode cX10_factOf 120 = .ok (.iload 5, 2) := by decide +kernel
theorem dX10_factOf_122 : decode cX10_factOf 122 = .ok (.iaload, 1) := by decide +kernel
theorem dX10_factOf_123 : decode cX10_factOf 123 = .ok (.ireturn, 1) := by decide +kernel
theorem dX10_factOf_124 : decode cX10_factOf 124 = .ok (.aload_n 0, 1) := by decide +kernel
theorem dX10_factOf_125 : decode cX10_factOf 125 = .ok (.getfield 25, 3) := by decide +kernel
theorem dX10_factOf_128 : decode cX10_factOf 128 = .ok (.iload 5, 2) := by decide +kernel
theorem dX10_factOf_130 : decode cX10_factOf 130 = .ok (.iaload, 1) := by decide +kernel
theorem dX10_factOf_131 : decode cX10_factOf 131 = .ok (.ifCond .ne 7, 3) := by decide +kernel
theorem dX10_factOf_134 : decode cX10_factOf 134 = .ok (.iconst (-1), 1) := by decide +kernel
theorem dX10_factOf_135 : decode cX10_factOf 135 = .ok (.goto 10, 3) := by decide +kernel
theorem dX10_factOf_138 : decode cX10_factOf 138 = .ok (.aload_n 0, 1) := by decide +kernel
theorem dX10_factOf_139 : decode cX10_factOf 139 = .ok (.getfield 28, 3) := by decide +kernel
theorem dX10_factOf_142 : decode cX10_factOf 142 = .ok (.iload 5, 2) := by decide +kernel
theorem dX10_factOf_144 : decode cX10_factOf 144 = .ok (.iaload, 1) := by decide +kernel
theorem dX10_factOf_145 : decode cX10_factOf 145 = .ok (.ireturn, 1) := by decide +kernel
theorem dX10_factOf_146 : decode cX10_factOf 146 = .ok (.aload_n 0, 1) := by decide +kernel
theorem dX10_factOf_147 : decode cX10_factOf 147 = .ok (.getfield 25, 3) := by decide +kernel
theorem dX10_factOf_150 : decode cX10_factOf 150 = .ok (.iload 5, 2) := by decide +kernel
theorem dX10_factOf_152 : decode cX10_factOf 152 = .ok (.iaload, 1) := by decide +kernel
theorem dX10_factOf_153 : decode cX10_factOf 153 = .ok (.ifCond .ne 7, 3) := by decide +kernel
theorem dX10_factOf_156 : decode cX10_factOf 156 = .ok (.iconst (-1), 1) := by decide +kernel
theorem dX10_factOf_157 : decode cX10_factOf 157 = .ok (.goto 10, 3) := by decide +kernel
theorem dX10_factOf_160 : decode cX10_factOf 160 = .ok (.aload_n 0, 1) := by decide +kernel
theorem dX10_factOf_161 : decode cX10_factOf 161 = .ok (.getfield 31, 3) := by decide +kernel
theorem dX10_factOf_164 : decode cX10_factOf 164 = .ok (.iload 5, 2) := by decide +kernel
theorem dX10_factOf_166 : decode cX10_factOf 166 = .ok (.iaload, 1) := by decide +kernel
theorem dX10_factOf_167 : decode cX10_factOf 167 = .ok (.ireturn, 1) := by decide +kernel
theorem dX10_factOf_168 : decode cX10_factOf 168 = .ok (.aload_n 0, 1) := by decide +kernel
theorem dX10_factOf_169 : decode cX10_factOf 169 = .ok (.invokevirtual 202, 3) := by decide +kernel
theorem dX10_factOf_172 : decode cX10_factOf 172 = .ok (.aload_n 0, 1) := by decide +kernel
theorem dX10_factOf_173 : decode cX10_factOf 173 = .ok (.getfield 46, 3) := by decide +kernel
theorem dX10_factOf_176 : decode cX10_factOf 176 = .ok (.iload 5, 2) := by decide +kernel
theorem dX10_factOf_178 : decode cX10_factOf 178 = .ok (.iaload, 1) := by decide +kernel
theorem dX10_factOf_179 : decode cX10_factOf 179 = .ok (.ireturn, 1) := by decide +kernel
theorem dX10_factOf_180 : decode cX10_factOf 180 = .ok (.aload_n 0, 1) := by decide +kernel
theorem dX10_factOf_181 : decode cX10_factOf 181 = .ok (.iload 5, 2) := by decide +kernel
theorem dX10_factOf_183 : decode cX10_factOf 183 = .ok (.invokevirtual 205, 3) := by decide +kernel
theorem dX10_factOf_186 : decode cX10_factOf 186 = .ok (.ireturn, 1) := by decide +kernel
theorem dX10_factOf_187 : decode cX10_factOf 187 = .ok (.aload_n 0, 1) := by decide +kernel
theorem dX10_factOf_188 : decode cX10_factOf 188 = .ok (.iload 5, 2) := by decide +kernel
theorem dX10_factOf_190 : decode cX10_factOf 190 = .ok (.invokevirtual 208, 3) := by decide +kernel
theorem dX10_factOf_193 : decode cX10_factOf 193 = .ok (.ireturn, 1) := by decide +kernel
theorem dX10_waysBy_0 : decode cX10_waysBy 0 = .ok (.iconst 0, 1) := by decide +kernel
theorem dX10_waysBy_1 : decode cX10_waysBy 1 = .ok (.istore 4, 2) := by decide +kernel
theorem dX10_waysBy_3 : decode cX10_waysBy 3 = .ok (.aload_n 0, 1) := by decide +kernel
theorem dX10_waysBy_4 : decode cX10_waysBy 4 = .ok (.iload_n 1, 1) := by decide +kernel
theorem dX10_waysBy_5 : decode cX10_waysBy 5 = .ok (.iconst 2, 1) := by decide +kernel
theorem dX10_waysBy_6 : decode cX10_waysBy 6 = .ok (.invokevirtual 149, 3) := by decide +kernel
theorem dX10_waysBy_9 : decode cX10_waysBy 9 = .ok (.ifCond .eq 8, 3) := by decide +kernel
theorem dX10_waysBy_12 : decode cX10_waysBy 12 = .ok (.bipush 6, 2) := by decide +kernel
theorem dX10_waysBy_14 : decode cX10_waysBy 14 = .ok (.goto 4, 3) := by decide +kernel
theorem dX10_waysBy_17 : decode cX10_waysBy 17 = .ok (.iconst 1, 1) := by decide +kernel
theorem dX10_waysBy_18 : decode cX10_waysBy 18 = .ok (.istore 5, 2) := by decide +kernel
theorem dX10_waysBy_20 : decode cX10_waysBy 20 = .ok (.iconst 0, 1) := by decide +kernel
theorem dX10_waysBy_21 : decode cX10_waysBy 21 = .ok (.istore 6, 2) := by decide +kernel
theorem dX10_waysBy_23 : decode cX10_waysBy 23 = .ok (.iload 6, 2) := by decide +kernel
theorem dX10_waysBy_25 : decode cX10_waysBy 25 = .ok (.iload 5, 2) := by decide +kernel
theorem dX10_waysBy_27 : decode cX10_waysBy 27 = .ok (.if_icmp .ge 31, 3) := by decide +kernel
theorem dX10_waysBy_30 : decode cX10_waysBy 30 = .ok (.iload 4, 2) := by decide +kernel
theorem dX10_waysBy_32 : decode cX10_waysBy 32 = .ok (.aload_n 0, 1) := by decide +kernel
theorem dX10_waysBy_33 : decode cX10_waysBy 33 = .ok (.iload_n 1, 1) := by decide +kernel
theorem dX10_waysBy_34 : decode cX10_waysBy 34 = .ok (.iload_n 2, 1) := by decide +kernel
theorem dX10_waysBy_35 : decode cX10_waysBy 35 = .ok (.iload_n 3, 1) := by decide +kernel
theorem dX10_waysBy_36 : decode cX10_waysBy 36 = .ok (.iload 6, 2) := by decide +kernel
theorem dX10_waysBy_38 : decode cX10_waysBy 38 = .ok (.invokevirtual 152, 3) := by decide +kernel
theorem dX10_waysBy_41 : decode cX10_waysBy 41 = .ok (.ifCond .eq 7, 3) := by decide +kernel
theorem dX10_waysBy_44 : decode cX10_waysBy 44 = .ok (.iconst 1, 1) := by decide +kernel
theorem dX10_waysBy_45 : decode cX10_waysBy 45 = .ok (.goto 4, 3) := by decide +kernel
theorem dX10_waysBy_48 : decode cX10_waysBy 48 = .ok (.iconst 0, 1) := by decide +kernel
theorem dX10_waysBy_49 : decode cX10_waysBy 49 = .ok (.iadd, 1) := by decide +kernel
theorem dX10_waysBy_50 : decode cX10_waysBy 50 = .ok (.istore 4, 2) := by decide +kernel
theorem dX10_waysBy_52 : decode cX10_waysBy 52 = .ok (.iinc 6 1, 3) := by decide +kernel
theorem dX10_waysBy_55 : decode cX10_waysBy 55 = .ok (.goto (-32), 3) := by decide +kernel
theorem dX10_waysBy_58 : decode cX10_waysBy 58 = .ok (.iload 4, 2) := by decide +kernel
theorem dX10_waysBy_60 : decode cX10_waysBy 60 = .ok (.ireturn, 1) := by decide +kernel
theorem dX10_ways_0 : decode cX10_ways 0 = .ok (.aload_n 0, 1) := by decide +kernel
theorem dX10_ways_1 : decode cX10_ways 1 = .ok (.iload_n 1, 1) := by decide +kernel
theorem dX10_ways_2 : decode cX10_ways 2 = .ok (.iload_n 2, 1) := by decide +kernel
theorem dX10_ways_3 : decode cX10_ways 3 = .ok (.iload_n 3, 1) := by decide +kernel
theorem dX10_ways_4 : decode cX10_ways 4 = .ok (.invokestatic 172, 3) := by decide +kernel
theorem dX10_ways_7 : decode cX10_ways 7 = .ok (.ifCond .eq 7, 3) := by decide +kernel
theorem dX10_ways_10 : decode cX10_ways 10 = .ok (.iconst 0, 1) := by decide +kernel
theorem dX10_ways_11 : decode cX10_ways 11 = .ok (.goto 4, 3) := by decide +kernel
theorem dX10_ways_14 : decode cX10_ways 14 = .ok (.iconst 1, 1) := by decide +kernel
theorem dX10_ways_15 : decode cX10_ways 15 = .ok (.putfield 76, 3) := by decide +kernel
theorem dX10_ways_18 : decode cX10_ways 18 = .ok (.aload_n 0, 1) := by decide +kernel
theorem dX10_ways_19 : decode cX10_ways 19 = .ok (.getfield 76, 3) := by decide +kernel
theorem dX10_ways_22 : decode cX10_ways 22 = .ok (.ifCond .le 5, 3) := by decide +kernel
theorem dX10_ways_25 : decode cX10_ways 25 = .ok (.iconst 0, 1) := by decide +kernel
theorem dX10_ways_26 : decode cX10_ways 26 = .ok (.ireturn, 1) := by decide +kernel
theorem dX10_ways_27 : decode cX10_ways 27 = .ok (.aload_n 0, 1) := by decide +kernel
theorem dX10_ways_28 : decode cX10_ways 28 = .ok (.invokevirtual 166, 3) := by decide +kernel
theorem dX10_ways_31 : decode cX10_ways 31 = .ok (.iconst 0, 1) := by decide +kernel
theorem dX10_ways_32 : decode cX10_ways 32 = .ok (.istore 4, 2) := by decide +kernel
theorem dX10_ways_34 : decode cX10_ways 34 = .ok (.iconst 0, 1) := by decide +kernel
theorem dX10_ways_35 : decode cX10_ways 35 = .ok (.istore 5, 2) := by decide +kernel
theorem dX10_ways_37 : decode cX10_ways 37 = .ok (.iload 5, 2) := by decide +kernel
theorem dX10_ways_39 : decode cX10_ways 39 = .ok (.aload_n 0, 1) := by decide +kernel
theorem dX10_ways_40 : decode cX10_ways 40 = .ok (.getfield 9, 3) := by decide +kernel
theorem dX10_ways_43 : decode cX10_ways 43 = .ok (.sipush 216, 3) := by decide +kernel
theorem dX10_ways_46 : decode cX10_ways 46 = .ok (.iaload, 1) := by decide +kernel
theorem dX10_ways_47 : decode cX10_ways 47 = .ok (.if_icmp .ge 36, 3) := by decide +kernel
theorem dX10_ways_50 : decode cX10_ways 50 = .ok (.iload 4, 2) := by decide +kernel
theorem dX10_ways_52 : decode cX10_ways 52 = .ok (.aload_n 0, 1) := by decide +kernel
theorem dX10_ways_53 : decode cX10_ways 53 = .ok (.iload 5, 2) := by decide +kernel
theorem dX10_ways_55 : decode cX10_ways 55 = .ok (.invokevirtual 130, 3) := by decide +kernel
theorem dX10_ways_58 : decode cX10_ways 58 = .ok (.iload_n 1, 1) := by decide +kernel
theorem dX10_ways_59 : decode cX10_ways 59 = .ok (.if_icmp .ne 14, 3) := by decide +kernel
theorem dX10_ways_62 : decode cX10_ways 62 = .ok (.aload_n 0, 1) := by decide +kernel
theorem dX10_ways_63 : decode cX10_ways 63 = .ok (.iload 5, 2) := by decide +kernel
theorem dX10_ways_65 : decode cX10_ways 65 = .ok (.iload_n 2, 1) := by decide +kernel
theorem dX10_ways_66 : decode cX10_ways 66 = .ok (.iload_n 3, 1) := by decide +kernel
theorem dX10_ways_67 : decode cX10_ways 67 = .ok (.invokevirtual 211, 3) := by decide +kernel
theorem dX10_ways_70 : decode cX10_ways 70 = .ok (.goto 4, 3) := by decide +kernel
theorem dX10_ways_73 : decode cX10_ways 73 = .ok (.iconst 0, 1) := by decide +kernel
theorem dX10_ways_74 : decode cX10_ways 74 = .ok (.iadd, 1) := by decide +kernel
theorem dX10_ways_75 : decode cX10_ways 75 = .ok (.istore 4, 2) := by decide +kernel
theorem dX10_ways_77 : decode cX10_ways 77 = .ok (.iinc 5 1, 3) := by decide +kernel
theorem dX10_ways_80 : decode cX10_ways 80 = .ok (.goto (-43), 3) := by decide +kernel
theorem dX10_ways_83 : decode cX10_ways 83 = .ok (.iload 4, 2) := by decide +kernel
theorem dX10_ways_85 : decode cX10_ways 85 = .ok (.ireturn, 1) := by decide +kernel
theorem dX10_would_0 : decode cX10_would 0 = .ok (.aload_n 0, 1) := by decide +kernel
theorem dX10_would_1 : decode cX10_would 1 = .ok (.iload_n 1, 1) := by decide +kernel
theorem dX10_would_2 : decode cX10_would 2 = .ok (.iload_n 2, 1) := by decide +kernel
theorem dX10_would_3 : decode cX10_would 3 = .ok (.iload_n 3, 1) := by decide +kernel
theorem dX10_would_4 : decode cX10_would 4 = .ok (.invokestatic 172, 3) := by decide +kernel
theorem dX10_would_7 : decode cX10_would 7 = .ok (.ifCond .eq 7, 3) := by decide +kernel
theorem dX10_would_10 : decode cX10_would 10 = .ok (.iconst 0, 1) := by decide +kernel
theorem dX10_would_11 : decode cX10_would 11 = .ok (.goto 4, 3) := by decide +kernel
theorem dX10_would_14 : decode cX10_would 14 = .ok (.iconst 1, 1) := by decide +kernel
theorem dX10_would_15 : decode cX10_would 15 = .ok (.putfield 76, 3) := by decide +kernel
theorem dX10_would_18 : decode cX10_would 18 = .ok (.aload_n 0, 1) := by decide +kernel
theorem dX10_would_19 : decode cX10_would 19 = .ok (.getfield 76, 3) := by decide +kernel
theorem dX10_would_22 : decode cX10_would 22 = .ok (.ifCond .le 5, 3) := by decide +kernel
theorem dX10_would_25 : decode cX10_would 25 = .ok (.iconst 0, 1) := by decide +kernel
theorem dX10_would_26 : decode cX10_would 26 = .ok (.ireturn, 1) := by decide +kernel
theorem dX10_would_27 : decode cX10_would 27 = .ok (.iconst 0, 1) := by decide +kernel
theorem dX10_would_28 : decode cX10_would 28 = .ok (.iload_n 1, 1) := by decide +kernel
theorem dX10_would_29 : decode cX10_would 29 = .ok (.iload_n 2, 1) := by decide +kernel
theorem dX10_would_30 : decode cX10_would 30 = .ok (.iload_n 3, 1) := by decide +kernel
theorem dX10_would_31 : decode cX10_would 31 = .ok (.invokestatic 142, 3) := by decide +kernel
theorem dX10_would_34 : decode cX10_would 34 = .ok (.iadd, 1) := by decide +kernel
theorem dX10_would_35 : decode cX10_would 35 = .ok (.istore 4, 2) := by decide +kernel
theorem dX10_would_37 : decode cX10_would 37 = .ok (.aload_n 0, 1) := by decide +kernel
theorem dX10_would_38 : decode cX10_would 38 = .ok (.invokevirtual 184, 3) := by decide +kernel
theorem dX10_would_41 : decode cX10_would 41 = .ok (.istore 5, 2) := by decide +kernel
theorem dX10_would_43 : decode cX10_would 43 = .ok (.aload_n 0, 1) := by decide +kernel
theorem dX10_would_44 : decode cX10_would 44 = .ok (.getfield 9, 3) := by decide +kernel
theorem dX10_would_47 : decode cX10_would 47 = .ok (.iload 4, 2) := by decide +kernel
theorem dX10_would_49 : decode cX10_would 49 = .ok (.iconst 1, 1) := by decide +kernel
theorem dX10_would_50 : decode cX10_would 50 = .ok (.aload_n 0, 1) := by decide +kernel
theorem dX10_would_51 : decode cX10_would 51 = .ok (.getfield 9, 3) := by decide +kernel
theorem dX10_would_54 : decode cX10_would 54 = .ok (.iload 4, 2) := by decide +kernel
theorem dX10_would_56 : decode cX10_would 56 = .ok (.iaload, 1) := by decide +kernel
theorem dX10_would_57 : decode cX10_would 57 = .ok (.isub, 1) := by decide +kernel
theorem dX10_would_58 : decode cX10_would 58 = .ok (.iastore, 1) := by decide +kernel
theorem dX10_would_59 : decode cX10_would 59 = .ok (.aload_n 0, 1) := by decide +kernel
theorem dX10_would_60 : decode cX10_would 60 = .ok (.invokevirtual 184, 3) := by decide +kernel
theorem dX10_would_63 : decode cX10_would 63 = .ok (.istore 6, 2) := by decide +kernel
theorem dX10_would_65 : decode cX10_would 65 = .ok (.aload_n 0, 1) := by decide +kernel
theorem dX10_would_66 : decode cX10_would 66 = .ok (.getfield 9, 3) := by decide +kernel
theorem dX10_would_69 : decode cX10_would 69 = .ok (.iload 4, 2) := by decide +kernel
theorem dX10_would_71 : decode cX10_would 71 = .ok (.iconst 1, 1) := by decide +kernel
theorem dX10_would_72 : decode cX10_would 72 = .ok (.aload_n 0, 1) := by decide +kernel
theorem dX10_would_73 : decode cX10_would 73 = .ok (.getfield 9, 3) := by decide +kernel
theorem dX10_would_76 : decode cX10_would 76 = .ok (.iload 4, 2) := by decide +kernel
theorem dX10_would_78 : decode cX10_would 78 = .ok (.iaload, 1) := by decide +kernel
theorem dX10_would_79 : decode cX10_would 79 = .ok (.isub, 1) := by decide +kernel
theorem dX10_would_80 : decode cX10_would 80 = .ok (.iastore, 1) := by decide +kernel
theorem dX10_would_81 : decode cX10_would 81 = .ok (.iload 6, 2) := by decide +kernel
theorem dX10_would_83 : decode cX10_would 83 = .ok (.iload 5, 2) := by decide +kernel
theorem dX10_would_85 : decode cX10_would 85 = .ok (.isub, 1) := by decide +kernel
theorem dX10_would_86 : decode cX10_would 86 = .ok (.ireturn, 1) := by decide +kernel
theorem dX10_kin_0 : decode cX10_kin 0 = .ok (.aload_n 0, 1) := by decide +kernel
theorem dX10_kin_1 : decode cX10_kin 1 = .ok (.iload_n 1, 1) := by decide +kernel
theorem dX10_kin_2 : decode cX10_kin 2 = .ok (.invokestatic 102, 3) := by decide +kernel
theorem dX10_kin_5 : decode cX10_kin 5 = .ok (.ifCond .eq 14, 3) := by decide +kernel
theorem dX10_kin_8 : decode cX10_kin 8 = .ok (.iload_n 2, 1) := by decide +kernel
theorem dX10_kin_9 : decode cX10_kin 9 = .ok (.invokestatic 106, 3) := by decide +kernel
theorem dX10_kin_12 : decode cX10_kin 12 = .ok (.ifCond .eq 7, 3) := by decide +kernel
theorem dX10_kin_15 : decode cX10_kin 15 = .ok (.iconst 0, 1) := by decide +kernel
theorem dX10_kin_16 : decode cX10_kin 16 = .ok (.goto 4, 3) := by decide +kernel
theorem dX10_kin_19 : decode cX10_kin 19 = .ok (.iconst 1, 1) := by decide +kernel
theorem dX10_kin_20 : decode cX10_kin 20 = .ok (.putfield 76, 3) := by decide +kernel
theorem dX10_kin_23 : decode cX10_kin 23 = .ok (.iconst 0, 1) := by decide +kernel
theorem dX10_kin_24 : decode cX10_kin 24 = .ok (.istore_n 3, 1) := by decide +kernel
theorem dX10_kin_25 : decode cX10_kin 25 = .ok (.aload_n 0, 1) := by decide +kernel
theorem dX10_kin_26 : decode cX10_kin 26 = .ok (.getfield 76, 3) := by decide +kernel
theorem dX10_kin_29 : decode cX10_kin 29 = .ok (.ifCond .ne 7, 3) := by decide +kernel
theorem dX10_kin_32 : decode cX10_kin 32 = .ok (.aload_n 0, 1) := by decide +kernel
theorem dX10_kin_33 : decode cX10_kin 33 = .ok (.invokevirtual 166, 3) := by decide +kernel
theorem dX10_kin_36 : decode cX10_kin 36 = .ok (.iconst 0, 1) := by decide +kernel
theorem dX10_kin_37 : decode cX10_kin 37 = .ok (.istore 4, 2) := by decide +kernel
theorem dX10_kin_39 : decode cX10_kin 39 = .ok (.iload 4, 2) := by decide +kernel
theorem dX10_kin_41 : decode cX10_kin 41 = .ok (.bipush 6, 2) := by decide +kernel
theorem dX10_kin_43 : decode cX10_kin 43 = .ok (.if_icmp .ge 42, 3) := by decide +kernel
theorem dX10_kin_46 : decode cX10_kin 46 = .ok (.aload_n 0, 1) := by decide +kernel
theorem dX10_kin_47 : decode cX10_kin 47 = .ok (.getfield 76, 3) := by decide +kernel
theorem dX10_kin_50 : decode cX10_kin 50 = .ok (.ifCond .ne 35, 3) := by decide +kernel
theorem dX10_kin_53 : decode cX10_kin 53 = .ok (.iload_n 3, 1) := by decide +kernel
theorem dX10_kin_54 : decode cX10_kin 54 = .ok (.aload_n 0, 1) := by decide +kernel
theorem dX10_kin_55 : decode cX10_kin 55 = .ok (.getfield 25, 3) := by decide +kernel
theorem dX10_kin_58 : decode cX10_kin 58 = .ok (.iload_n 1, 1) := by decide +kernel
theorem dX10_kin_59 : decode cX10_kin 59 = .ok (.iload_n 2, 1) := by decide +kernel
theorem dX10_kin_60 : decode cX10_kin 60 = .ok (.iload 4, 2) := by decide +kernel
theorem dX10_kin_62 : decode cX10_kin 62 = .ok (.invokestatic 142, 3) := by decide +kernel
theorem dX10_kin_65 : decode cX10_kin 65 = .ok (.iaload, 1) := by decide +kernel
theorem dX10_kin_66 : decode cX10_kin 66 = .ok (.ifCond .lt 10, 3) := by decide +kernel
theorem dX10_kin_69 : decode cX10_kin 69 = .ok (.iconst 1, 1) := by decide +kernel
theorem dX10_kin_70 : decode cX10_kin 70 = .ok (.iload 4, 2) := by decide +kernel
theorem dX10_kin_72 : decode cX10_kin 72 = .ok (.ishl, 1) := by decide +kernel
theorem dX10_kin_73 : decode cX10_kin 73 = .ok (.goto 4, 3) := by decide +kernel
theorem dX10_kin_76 : decode cX10_kin 76 = .ok (.iconst 0, 1) := by decide +kernel
theorem dX10_kin_77 : decode cX10_kin 77 = .ok (.ior, 1) := by decide +kernel
theorem dX10_kin_78 : decode cX10_kin 78 = .ok (.istore_n 3, 1) := by decide +kernel
theorem dX10_kin_79 : decode cX10_kin 79 = .ok (.iinc 4 1, 3) := by decide +kernel
theorem dX10_kin_82 : decode cX10_kin 82 = .ok (.goto (-43), 3) := by decide +kernel
theorem dX10_kin_85 : decode cX10_kin 85 = .ok (.iload_n 3, 1) := by decide +kernel
theorem dX10_kin_86 : decode cX10_kin 86 = .ok (.ireturn, 1) := by decide +kernel
theorem dX10_inRules_0 : decode cX10_inRules 0 = .ok (.iconst 0, 1) := by decide +kernel
theorem dX10_inRules_1 : decode cX10_inRules 1 = .ok (.istore_n 3, 1) := by decide +kernel
theorem dX10_inRules_2 : decode cX10_inRules 2 = .ok (.iconst 0, 1) := by decide +kernel
theorem dX10_inRules_3 : decode cX10_inRules 3 = .ok (.istore 4, 2) := by decide +kernel
theorem dX10_inRules_5 : decode cX10_inRules 5 = .ok (.iload 4, 2) := by decide +kernel
theorem dX10_inRules_7 : decode cX10_inRules 7 = .ok (.aload_n 0, 1) := by decide +kernel
theorem dX10_inRules_8 : decode cX10_inRules 8 = .ok (.getfield 9, 3) := by decide +kernel
theorem dX10_inRules_11 : decode cX10_inRules 11 = .ok (.sipush 216, 3) := by decide +kernel
theorem dX10_inRules_14 : decode cX10_inRules 14 = .ok (.iaload, 1) := by decide +kernel
theorem dX10_inRules_15 : decode cX10_inRules 15 = .ok (.if_icmp .ge 82, 3) := by decide +kernel
theorem dX10_inRules_18 : decode cX10_inRules 18 = .ok (.iload_n 3, 1) := by decide +kernel
theorem dX10_inRules_19 : decode cX10_inRules 19 = .ok (.iload_n 2, 1) := by decide +kernel
theorem dX10_inRules_20 : decode cX10_inRules 20 = .ok (.ifCond .eq 17, 3) := by decide +kernel
theorem dX10_inRules_23 : decode cX10_inRules 23 = .ok (.aload_n 0, 1) := by decide +kernel
theorem dX10_inRules_24 : decode cX10_inRules 24 = .ok (.iload 4, 2) := by decide +kernel
theorem dX10_inRules_26 : decode cX10_inRules 26 = .ok (.invokevirtual 130, 3) := by decide +kernel
theorem dX10_inRules_29 : decode cX10_inRules 29 = .ok (.iload_n 1, 1) := by decide +kernel
theorem dX10_inRules_30 : decode cX10_inRules 30 = .ok (.if_icmp .ne 7, 3) := by decide +kernel
theorem dX10_inRules_33 : decode cX10_inRules 33 = .ok (.iconst 1, 1) := by decide +kernel
theorem dX10_inRules_34 : decode cX10_inRules 34 = .ok (.goto 4, 3) := by decide +kernel
theorem dX10_inRules_37 : decode cX10_inRules 37 = .ok (.iconst 0, 1) := by decide +kernel
theorem dX10_inRules_38 : decode cX10_inRules 38 = .ok (.iadd, 1) := by decide +kernel
theorem dX10_inRules_39 : decode cX10_inRules 39 = .ok (.istore_n 3, 1) := by decide +kernel
theorem dX10_inRules_40 : decode cX10_inRules 40 = .ok (.iconst 0, 1) := by decide +kernel
theorem dX10_inRules_41 : decode cX10_inRules 41 = .ok (.istore 5, 2) := by decide +kernel
theorem dX10_inRules_43 : decode cX10_inRules 43 = .ok (.iload 5, 2) := by decide +kernel
theorem dX10_inRules_45 : decode cX10_inRules 45 = .ok (.iconst 3, 1) := by decide +kernel
theorem dX10_inRules_46 : decode cX10_inRules 46 = .ok (.if_icmp .ge 45, 3) := by decide +kernel
theorem dX10_inRules_49 : decode cX10_inRules 49 = .ok (.iload_n 2, 1) := by decide +kernel
theorem dX10_inRules_50 : decode cX10_inRules 50 = .ok (.ifCond .ne 41, 3) := by decide +kernel
theorem dX10_inRules_53 : decode cX10_inRules 53 = .ok (.aload_n 0, 1) := by decide +kernel
theorem dX10_inRules_54 : decode cX10_inRules 54 = .ok (.iload 4, 2) := by decide +kernel
theorem dX10_inRules_56 : decode cX10_inRules 56 = .ok (.iload 5, 2) := by decide +kernel
theorem dX10_inRules_58 : decode cX10_inRules 58 = .ok (.invokevirtual 119, 3) := by decide +kernel
theorem dX10_inRules_61 : decode cX10_inRules 61 = .ok (.istore 6, 2) := by decide +kernel
theorem dX10_inRules_63 : decode cX10_inRules 63 = .ok (.iload_n 3, 1) := by decide +kernel
theorem dX10_inRules_64 : decode cX10_inRules 64 = .ok (.iload 6, 2) := by decide +kernel
theorem dX10_inRules_66 : decode cX10_inRules 66 = .ok (.ifCond .eq 16, 3) := by decide +kernel
theorem dX10_inRules_69 : decode cX10_inRules 69 = .ok (.iload 6, 2) := by decide +kernel
theorem dX10_inRules_71 : decode cX10_inRules 71 = .ok (.invokestatic 127, 3) := by decide +kernel
theorem dX10_inRules_74 : decode cX10_inRules 74 = .ok (.iload_n 1, 1) := by decide +kernel
theorem dX10_inRules_75 : decode cX10_inRules 75 = .ok (.if_icmp .ne 7, 3) := by decide +kernel
theorem dX10_inRules_78 : decode cX10_inRules 78 = .ok (.iconst 1, 1) := by decide +kernel
theorem dX10_inRules_79 : decode cX10_inRules 79 = .ok (.goto 4, 3) := by decide +kernel
theorem dX10_inRules_82 : decode cX10_inRules 82 = .ok (.iconst 0, 1) := by decide +kernel
theorem dX10_inRules_83 : decode cX10_inRules 83 = .ok (.iadd, 1) := by decide +kernel
theorem dX10_inRules_84 : decode cX10_inRules 84 = .ok (.istore_n 3, 1) := by decide +kernel
theorem dX10_inRules_85 : decode cX10_inRules 85 = .ok (.iinc 5 1, 3) := by decide +kernel
theorem dX10_inRules_88 : decode cX10_inRules 88 = .ok (.goto (-45), 3) := by decide +kernel
theorem dX10_inRules_91 : decode cX10_inRules 91 = .ok (.iinc 4 1, 3) := by decide +kernel
theorem dX10_inRules_94 : decode cX10_inRules 94 = .ok (.goto (-89), 3) := by decide +kernel
theorem dX10_inRules_97 : decode cX10_inRules 97 = .ok (.iload_n 3, 1) := by decide +kernel
theorem dX10_inRules_98 : decode cX10_inRules 98 = .ok (.ireturn, 1) := by decide +kernel
theorem dX10_greatestStage_0 : decode cX10_greatestStage 0 = .ok (.iconst 0, 1) := by decide +kernel
theorem dX10_greatestStage_1 : decode cX10_greatestStage 1 = .ok (.istore_n 2, 1) := by decide +kernel
theorem dX10_greatestStage_2 : decode cX10_greatestStage 2 = .ok (.iconst 0, 1) := by decide +kernel
theorem dX10_greatestStage_3 : decode cX10_greatestStage 3 = .ok (.istore_n 3, 1) := by decide +kernel
theorem dX10_greatestStage_4 : decode cX10_greatestStage 4 = .ok (.iload_n 3, 1) := by decide +kernel
theorem dX10_greatestStage_5 : decode cX10_greatestStage 5 = .ok (.sipush 216, 3) := by decide +kernel
theorem dX10_greatestStage_8 : decode cX10_greatestStage 8 = .ok (.if_icmp .ge 36, 3) := by decide +kernel
theorem dX10_greatestStage_11 : decode cX10_greatestStage 11 = .ok (.iload_n 1, 1) := by decide +kernel
theorem dX10_greatestStage_12 : decode cX10_greatestStage 12 = .ok (.ifCond .lt 11, 3) := by decide +kernel
theorem dX10_greatestStage_15 : decode cX10_greatestStage 15 = .ok (.iload_n 3, 1) := by decide +kernel
theorem dX10_greatestStage_16 : decode cX10_greatestStage 16 = .ok (.bipush 36, 2) := by decide +kernel
theorem dX10_greatestStage_18 : decode cX10_greatestStage 18 = .ok (.idiv, 1) := by decide +kernel
theorem dX10_greatestStage_19 : decode cX10_greatestStage 19 = .ok (.iload_n 1, 1) := by decide +kernel
theorem dX10_greatestStage_20 : decode cX10_greatestStage 20 = .ok (.if_icmp .ne 16, 3) := by decide +kernel
theorem dX10_greatestStage_23 : decode cX10_greatestStage 23 = .ok (.iload_n 2, 1) := by decide +kernel
theorem dX10_greatestStage_24 : decode cX10_greatestStage 24 = .ok (.aload_n 0, 1) := by decide +kernel
theorem dX10_greatestStage_25 : decode cX10_greatestStage 25 = .ok (.getfield 25, 3) := by decide +kernel
theorem dX10_greatestStage_28 : decode cX10_greatestStage 28 = .ok (.iload_n 3, 1) := by decide +kernel
theorem dX10_greatestStage_29 : decode cX10_greatestStage 29 = .ok (.iaload, 1) := by decide +kernel
theorem dX10_greatestStage_30 : decode cX10_greatestStage 30 = .ok (.invokestatic 139, 3) := by decide +kernel
theorem dX10_greatestStage_33 : decode cX10_greatestStage 33 = .ok (.goto 4, 3) := by decide +kernel
theorem dX10_greatestStage_36 : decode cX10_greatestStage 36 = .ok (.iload_n 2, 1) := by decide +kernel
theorem dX10_greatestStage_37 : decode cX10_greatestStage 37 = .ok (.istore_n 2, 1) := by decide +kernel
theorem dX10_greatestStage_38 : decode cX10_greatestStage 38 = .ok (.iinc 3 1, 3) := by decide +kernel
theorem dX10_greatestStage_41 : decode cX10_greatestStage 41 = .ok (.goto (-37), 3) := by decide +kernel
theorem dX10_greatestStage_44 : decode cX10_greatestStage 44 = .ok (.iload_n 2, 1) := by decide +kernel
theorem dX10_greatestStage_45 : decode cX10_greatestStage 45 = .ok (.ireturn, 1) := by decide +kernel
theorem dX10_relationOf_0 : decode cX10_relationOf 0 = .ok (.aload_n 0, 1) := by decide +kernel
theorem dX10_relationOf_1 : decode cX10_relationOf 1 = .ok (.iload_n 1, 1) := by decide +kernel
theorem dX10_relationOf_2 : decode cX10_relationOf 2 = .ok (.invokestatic 102, 3) := by decide +kernel
theorem dX10_relationOf_5 : decode cX10_relationOf 5 = .ok (.ifCond .ne 7, 3) := by decide +kernel
theorem dX10_relationOf_8 : decode cX10_relationOf 8 = .ok (.iconst 1, 1) := by decide +kernel
theorem dX10_relationOf_9 : decode cX10_relationOf 9 = .ok (.goto 17, 3) := by decide +kernel
theorem dX10_relationOf_12 : decode cX10_relationOf 12 = .ok (.iload_n 2, 1) := by decide +kernel
theorem dX10_relationOf_13 : decode cX10_relationOf 13 = .ok (.iconst 0, 1) := by decide +kernel
theorem dX10_relationOf_14 : decode cX10_relationOf 14 = .ok (.iconst 5, 1) := by decide +kernel
theorem dX10_relationOf_15 : decode cX10_relationOf 15 = .ok (.invokestatic 98, 3) := by decide +kernel
theorem dX10_relationOf_18 : decode cX10_relationOf 18 = .ok (.ifCond .ne 7, 3) := by decide +kernel
theorem dX10_relationOf_21 : decode cX10_relationOf 21 = .ok (.iconst 2, 1) := by decide +kernel
theorem dX10_relationOf_22 : decode cX10_relationOf 22 = .ok (.goto 4, 3) := by decide +kernel
theorem dX10_relationOf_25 : decode cX10_relationOf 25 = .ok (.iconst 0, 1) := by decide +kernel
theorem dX10_relationOf_26 : decode cX10_relationOf 26 = .ok (.putfield 76, 3) := by decide +kernel
theorem dX10_relationOf_29 : decode cX10_relationOf 29 = .ok (.aload_n 0, 1) := by decide +kernel
theorem dX10_relationOf_30 : decode cX10_relationOf 30 = .ok (.getfield 76, 3) := by decide +kernel
theorem dX10_relationOf_33 : decode cX10_relationOf 33 = .ok (.ifCond .le 5, 3) := by decide +kernel
theorem dX10_relationOf_36 : decode cX10_relationOf 36 = .ok (.iconst 0, 1) := by decide +kernel
theorem dX10_relationOf_37 : decode cX10_relationOf 37 = .ok (.ireturn, 1) := by decide +kernel
theorem dX10_relationOf_38 : decode cX10_relationOf 38 = .ok (.aload_n 0, 1) := by decide +kernel
theorem dX10_relationOf_39 : decode cX10_relationOf 39 = .ok (.invokevirtual 166, 3) := by decide +kernel
theorem dX10_relationOf_42 : decode cX10_relationOf 42 = .ok (.iload_n 2, 1) := by decide +kernel
theorem dX10_relationOf_43 : decode cX10_relationOf 43 = .ok (.tableswitch 66 0 4 #[33, 39, 45, 52, 59], 33) := by decide +kernel
theorem dX10_relationOf_76 : decode cX10_relationOf 76 = .ok (.aload_n 0, 1) := by decide +kernel
theorem dX10_relationOf_77 : decode cX10_relationOf 77 = .ok (.iload_n 1, 1) := by decide +kernel
theorem dX10_relationOf_78 : decode cX10_relationOf 78 = .ok (.invokevirtual 169, 3) := by decide +kernel
theorem dX10_relationOf_81 : decode cX10_relationOf 81 = .ok (.ireturn, 1) := by decide +kernel
theorem dX10_relationOf_82 : decode cX10_relationOf 82 = .ok (.aload_n 0, 1) := by decide +kernel
theorem dX10_relationOf_83 : decode cX10_relationOf 83 = .ok (.iload_n 1, 1) := by decide +kernel
theorem dX10_relationOf_84 : decode cX10_relationOf 84 = .ok (.invokevirtual 178, 3) := by decide +kernel
theorem dX10_relationOf_87 : decode cX10_relationOf 87 = .ok (.ireturn, 1) := by decide +kernel
theorem dX10_relationOf_88 : decode cX10_relationOf 88 = .ok (.aload_n 0, 1) := by decide +kernel
theorem dX10_relationOf_89 : decode cX10_relationOf 89 = .ok (.getfield 22, 3) := by decide +kernel
theorem dX10_relationOf_92 : decode cX10_relationOf 92 = .ok (.iload_n 1, 1) := by decide +kernel
theorem dX10_relationOf_93 : decode cX10_relationOf 93 = .ok (.iaload, 1) := by decide +kernel
theorem dX10_relationOf_94 : decode cX10_relationOf 94 = .ok (.ireturn, 1) := by decide +kernel
theorem dX10_relationOf_95 : decode cX10_relationOf 95 = .ok (.aload_n 0, 1) := by decide +kernel
theorem dX10_relationOf_96 : decode cX10_relationOf 96 = .ok (.iload_n 1, 1) := by decide +kernel
theorem dX10_relationOf_97 : decode cX10_relationOf 97 = .ok (.iconst 1, 1) := by decide +kernel
theorem dX10_relationOf_98 : decode cX10_relationOf 98 = .ok (.invokevirtual 214, 3) := by decide +kernel
theorem dX10_relationOf_101 : decode cX10_relationOf 101 = .ok (.ireturn, 1) := by decide +kernel
theorem dX10_relationOf_102 : decode cX10_relationOf 102 = .ok (.aload_n 0, 1) := by decide +kernel
theorem dX10_relationOf_103 : decode cX10_relationOf 103 = .ok (.iload_n 1, 1) := by decide +kernel
theorem dX10_relationOf_104 : decode cX10_relationOf 104 = .ok (.iconst 0, 1) := by decide +kernel
theorem dX10_relationOf_105 : decode cX10_relationOf 105 = .ok (.invokevirtual 214, 3) := by decide +kernel
theorem dX10_relationOf_108 : decode cX10_relationOf 108 = .ok (.ireturn, 1) := by decide +kernel
theorem dX10_relationOf_109 : decode cX10_relationOf 109 = .ok (.aload_n 0, 1) := by decide +kernel
theorem dX10_relationOf_110 : decode cX10_relationOf 110 = .ok (.iload_n 1, 1) := by decide +kernel
theorem dX10_relationOf_111 : decode cX10_relationOf 111 = .ok (.invokevirtual 217, 3) := by decide +kernel
theorem dX10_relationOf_114 : decode cX10_relationOf 114 = .ok (.ireturn, 1) := by decide +kernel
theorem dX10_ranked_0 : decode cX10_ranked 0 = .ok (.aload_n 0, 1) := by decide +kernel
theorem dX10_ranked_1 : decode cX10_ranked 1 = .ok (.iload_n 1, 1) := by decide +kernel
theorem dX10_ranked_2 : decode cX10_ranked 2 = .ok (.iconst 0, 1) := by decide +kernel
theorem dX10_ranked_3 : decode cX10_ranked 3 = .ok (.iconst 5, 1) := by decide +kernel
theorem dX10_ranked_4 : decode cX10_ranked 4 = .ok (.invokestatic 98, 3) := by decide +kernel
theorem dX10_ranked_7 : decode cX10_ranked 7 = .ok (.ifCond .eq 7, 3) := by decide +kernel
theorem dX10_ranked_10 : decode cX10_ranked 10 = .ok (.iconst 0, 1) := by decide +kernel
theorem dX10_ranked_11 : decode cX10_ranked 11 = .ok (.goto 4, 3) := by decide +kernel
theorem dX10_ranked_14 : decode cX10_ranked 14 = .ok (.iconst 1, 1) := by decide +kernel
theorem dX10_ranked_15 : decode cX10_ranked 15 = .ok (.putfield 76, 3) := by decide +kernel
theorem dX10_ranked_18 : decode cX10_ranked 18 = .ok (.aload_n 0, 1) := by decide +kernel
theorem dX10_ranked_19 : decode cX10_ranked 19 = .ok (.getfield 76, 3) := by decide +kernel
theorem dX10_ranked_22 : decode cX10_ranked 22 = .ok (.ifCond .le 5, 3) := by decide +kernel
theorem dX10_ranked_25 : decode cX10_ranked 25 = .ok (.iconst 0, 1) := by decide +kernel
theorem dX10_ranked_26 : decode cX10_ranked 26 = .ok (.ireturn, 1) := by decide +kernel
theorem dX10_ranked_27 : decode cX10_ranked 27 = .ok (.aload_n 0, 1) := by decide +kernel
theorem dX10_ranked_28 : decode cX10_ranked 28 = .ok (.invokevirtual 166, 3) := by decide +kernel
theorem dX10_ranked_31 : decode cX10_ranked 31 = .ok (.iconst 0, 1) := by decide +kernel
theorem dX10_ranked_32 : decode cX10_ranked 32 = .ok (.istore_n 2, 1) := by decide +kernel
theorem dX10_ranked_33 : decode cX10_ranked 33 = .ok (.iconst 0, 1) := by decide +kernel
theorem dX10_ranked_34 : decode cX10_ranked 34 = .ok (.istore_n 3, 1) := by decide +kernel
theorem dX10_ranked_35 : decode cX10_ranked 35 = .ok (.iload_n 3, 1) := by decide +kernel
theorem dX10_ranked_36 : decode cX10_ranked 36 = .ok (.bipush 6, 2) := by decide +kernel
theorem dX10_ranked_38 : decode cX10_ranked 38 = .ok (.if_icmp .ge 80, 3) := by decide +kernel
theorem dX10_ranked_41 : decode cX10_ranked 41 = .ok (.iconst 0, 1) := by decide +kernel
theorem dX10_ranked_42 : decode cX10_ranked 42 = .ok (.istore 4, 2) := by decide +kernel
theorem dX10_ranked_44 : decode cX10_ranked 44 = .ok (.iconst 0, 1) := by decide +kernel
theorem dX10_ranked_45 : decode cX10_ranked 45 = .ok (.istore 5, 2) := by decide +kernel
theorem dX10_ranked_47 : decode cX10_ranked 47 = .ok (.iload 5, 2) := by decide +kernel
theorem dX10_ranked_49 : decode cX10_ranked 49 = .ok (.bipush 6, 2) := by decide +kernel
theorem dX10_ranked_51 : decode cX10_ranked 51 = .ok (.if_icmp .ge 49, 3) := by decide +kernel
theorem dX10_ranked_54 : decode cX10_ranked 54 = .ok (.aload_n 0, 1) := by decide +kernel
theorem dX10_ranked_55 : decode cX10_ranked 55 = .ok (.iload 5, 2) := by decide +kernel
theorem dX10_ranked_57 : decode cX10_ranked 57 = .ok (.invokevirtual 169, 3) := by decide +kernel
theorem dX10_ranked_60 : decode cX10_ranked 60 = .ok (.aload_n 0, 1) := by decide +kernel
theorem dX10_ranked_61 : decode cX10_ranked 61 = .ok (.iload_n 3, 1) := by decide +kernel
theorem dX10_ranked_62 : decode cX10_ranked 62 = .ok (.invokevirtual 169, 3) := by decide +kernel
theorem dX10_ranked_65 : decode cX10_ranked 65 = .ok (.isub, 1) := by decide +kernel
theorem dX10_ranked_66 : decode cX10_ranked 66 = .ok (.istore 6, 2) := by decide +kernel
theorem dX10_ranked_68 : decode cX10_ranked 68 = .ok (.iload 4, 2) := by decide +kernel
theorem dX10_ranked_70 : decode cX10_ranked 70 = .ok (.iload 6, 2) := by decide +kernel
theorem dX10_ranked_72 : decode cX10_ranked 72 = .ok (.ifCond .gt 14, 3) := by decide +kernel
theorem dX10_ranked_75 : decode cX10_ranked 75 = .ok (.iload 6, 2) := by decide +kernel
theorem dX10_ranked_77 : decode cX10_ranked 77 = .ok (.ifCond .ne 13, 3) := by decide +kernel
theorem dX10_ranked_80 : decode cX10_ranked 80 = .ok (.iload 5, 2) := by decide +kernel
theorem dX10_ranked_82 : decode cX10_ranked 82 = .ok (.iload_n 3, 1) := by decide +kernel
theorem dX10_ranked_83 : decode cX10_ranked 83 = .ok (.if_icmp .ge 7, 3) := by decide +kernel
theorem dX10_ranked_86 : decode cX10_ranked 86 = .ok (.iconst 1, 1) := by decide +kernel
theorem dX10_ranked_87 : decode cX10_ranked 87 = .ok (.goto 4, 3) := by decide +kernel
theorem dX10_ranked_90 : decode cX10_ranked 90 = .ok (.iconst 0, 1) := by decide +kernel
theorem dX10_ranked_91 : decode cX10_ranked 91 = .ok (.iadd, 1) := by decide +kernel
theorem dX10_ranked_92 : decode cX10_ranked 92 = .ok (.istore 4, 2) := by decide +kernel
theorem dX10_ranked_94 : decode cX10_ranked 94 = .ok (.iinc 5 1, 3) := by decide +kernel
theorem dX10_ranked_97 : decode cX10_ranked 97 = .ok (.goto (-50), 3) := by decide +kernel
theorem dX10_ranked_100 : decode cX10_ranked 100 = .ok (.iload 4, 2) := by decide +kernel
theorem dX10_ranked_102 : decode cX10_ranked 102 = .ok (.iload_n 1, 1) := by decide +kernel
theorem dX10_ranked_103 : decode cX10_ranked 103 = .ok (.if_icmp .ne 7, 3) := by decide +kernel
theorem dX10_ranked_106 : decode cX10_ranked 106 = .ok (.iload_n 3, 1) := by decide +kernel
theorem dX10_ranked_107 : decode cX10_ranked 107 = .ok (.goto 4, 3) := by decide +kernel
theorem dX10_ranked_110 : decode cX10_ranked 110 = .ok (.iload_n 2, 1) := by decide +kernel
theorem dX10_ranked_111 : decode cX10_ranked 111 = .ok (.istore_n 2, 1) := by decide +kernel
theorem dX10_ranked_112 : decode cX10_ranked 112 = .ok (.iinc 3 1, 3) := by decide +kernel
theorem dX10_ranked_115 : decode cX10_ranked 115 = .ok (.goto (-80), 3) := by decide +kernel
theorem dX10_ranked_118 : decode cX10_ranked 118 = .ok (.iload_n 2, 1) := by decide +kernel
theorem dX10_ranked_119 : decode cX10_ranked 119 = .ok (.ireturn, 1) := by decide +kernel
theorem dX10_isMutual_0 : decode cX10_isMutual 0 = .ok (.aload_n 0, 1) := by decide +kernel
theorem dX10_isMutual_1 : decode cX10_isMutual 1 = .ok (.iload_n 1, 1) := by decide +kernel
theorem dX10_isMutual_2 : decode cX10_isMutual 2 = .ok (.invokestatic 102, 3) := by decide +kernel
theorem dX10_isMutual_5 : decode cX10_isMutual 5 = .ok (.ifCond .eq 7, 3) := by decide +kernel
theorem dX10_isMutual_8 : decode cX10_isMutual 8 = .ok (.iconst 0, 1) := by decide +kernel
theorem dX10_isMutual_9 : decode cX10_isMutual 9 = .ok (.goto 4, 3) := by decide +kernel
theorem dX10_isMutual_12 : decode cX10_isMutual 12 = .ok (.iconst 1, 1) := by decide +kernel
theorem dX10_isMutual_13 : decode cX10_isMutual 13 = .ok (.putfield 76, 3) := by decide +kernel
theorem dX10_isMutual_16 : decode cX10_isMutual 16 = .ok (.aload_n 0, 1) := by decide +kernel
theorem dX10_isMutual_17 : decode cX10_isMutual 17 = .ok (.getfield 76, 3) := by decide +kernel
theorem dX10_isMutual_20 : decode cX10_isMutual 20 = .ok (.ifCond .le 5, 3) := by decide +kernel
theorem dX10_isMutual_23 : decode cX10_isMutual 23 = .ok (.iconst 0, 1) := by decide +kernel
theorem dX10_isMutual_24 : decode cX10_isMutual 24 = .ok (.ireturn, 1) := by decide +kernel
theorem dX10_isMutual_25 : decode cX10_isMutual 25 = .ok (.aload_n 0, 1) := by decide +kernel
theorem dX10_isMutual_26 : decode cX10_isMutual 26 = .ok (.invokevirtual 166, 3) := by decide +kernel
theorem dX10_isMutual_29 : decode cX10_isMutual 29 = .ok (.iconst 1, 1) := by decide +kernel
theorem dX10_isMutual_30 : decode cX10_isMutual 30 = .ok (.istore_n 2, 1) := by decide +kernel
theorem dX10_isMutual_31 : decode cX10_isMutual 31 = .ok (.iconst 0, 1) := by decide +kernel
theorem dX10_isMutual_32 : decode cX10_isMutual 32 = .ok (.istore_n 3, 1) := by decide +kernel
theorem dX10_isMutual_33 : decode cX10_isMutual 33 = .ok (.iload_n 3, 1) := by decide +kernel
theorem dX10_isMutual_34 : decode cX10_isMutual 34 = .ok (.bipush 36, 2) := by decide +kernel
theorem dX10_isMutual_36 : decode cX10_isMutual 36 = .ok (.if_icmp .ge 76, 3) := by decide +kernel
theorem dX10_isMutual_39 : decode cX10_isMutual 39 = .ok (.iload_n 3, 1) := by decide +kernel
theorem dX10_isMutual_40 : decode cX10_isMutual 40 = .ok (.bipush 6, 2) := by decide +kernel
theorem dX10_isMutual_42 : decode cX10_isMutual 42 = .ok (.idiv, 1) := by decide +kernel
theorem dX10_isMutual_43 : decode cX10_isMutual 43 = .ok (.istore 4, 2) := by decide +kernel
theorem dX10_isMutual_45 : decode cX10_isMutual 45 = .ok (.iload_n 3, 1) := by decide +kernel
theorem dX10_isMutual_46 : decode cX10_isMutual 46 = .ok (.bipush 6, 2) := by decide +kernel
theorem dX10_isMutual_48 : decode cX10_isMutual 48 = .ok (.irem, 1) := by decide +kernel
theorem dX10_isMutual_49 : decode cX10_isMutual 49 = .ok (.istore 5, 2) := by decide +kernel
theorem dX10_isMutual_51 : decode cX10_isMutual 51 = .ok (.iload_n 2, 1) := by decide +kernel
theorem dX10_isMutual_52 : decode cX10_isMutual 52 = .ok (.ifCond .eq 52, 3) := by decide +kernel
theorem dX10_isMutual_55 : decode cX10_isMutual 55 = .ok (.aload_n 0, 1) := by decide +kernel
theorem dX10_isMutual_56 : decode cX10_isMutual 56 = .ok (.getfield 25, 3) := by decide +kernel
theorem dX10_isMutual_59 : decode cX10_isMutual 59 = .ok (.iload_n 1, 1) := by decide +kernel
theorem dX10_isMutual_60 : decode cX10_isMutual 60 = .ok (.iload 4, 2) := by decide +kernel
theorem dX10_isMutual_62 : decode cX10_isMutual 62 = .ok (.iload 5, 2) := by decide +kernel
theorem dX10_isMutual_64 : decode cX10_isMutual 64 = .ok (.invokestatic 142, 3) := by decide +kernel
theorem dX10_isMutual_67 : decode cX10_isMutual 67 = .ok (.iaload, 1) := by decide +kernel
theorem dX10_isMutual_68 : decode cX10_isMutual 68 = .ok (.ifCond .lt 7, 3) := by decide +kernel
theorem dX10_isMutual_71 : decode cX10_isMutual 71 = .ok (.iconst 1, 1) := by decide +kernel
theorem dX10_isMutual_72 : decode cX10_isMutual 72 = .ok (.goto 4, 3) := by decide +kernel
theorem dX10_isMutual_75 : decode cX10_isMutual 75 = .ok (.iconst 0, 1) := by decide +kernel
theorem dX10_isMutual_76 : decode cX10_isMutual 76 = .ok (.aload_n 0, 1) := by decide +kernel
theorem dX10_isMutual_77 : decode cX10_isMutual 77 = .ok (.getfield 25, 3) := by decide +kernel
theorem dX10_isMutual_80 : decode cX10_isMutual 80 = .ok (.iload_n 1, 1) := by decide +kernel
theorem dX10_isMutual_81 : decode cX10_isMutual 81 = .ok (.iload 5, 2) := by decide +kernel
theorem dX10_isMutual_83 : decode cX10_isMutual 83 = .ok (.iload 4, 2) := by decide +kernel
theorem dX10_isMutual_85 : decode cX10_isMutual 85 = .ok (.invokestatic 142, 3) := by decide +kernel
theorem dX10_isMutual_88 : decode cX10_isMutual 88 = .ok (.iaload, 1) := by decide +kernel
theorem dX10_isMutual_89 : decode cX10_isMutual 89 = .ok (.ifCond .lt 7, 3) := by decide +kernel
theorem dX10_isMutual_92 : decode cX10_isMutual 92 = .ok (.iconst 1, 1) := by decide +kernel
theorem dX10_isMutual_93 : decode cX10_isMutual 93 = .ok (.goto 4, 3) := by decide +kernel
theorem dX10_isMutual_96 : decode cX10_isMutual 96 = .ok (.iconst 0, 1) := by decide +kernel
theorem dX10_isMutual_97 : decode cX10_isMutual 97 = .ok (.if_icmp .ne 7, 3) := by decide +kernel
theorem dX10_isMutual_100 : decode cX10_isMutual 100 = .ok (.iconst 1, 1) := by decide +kernel
theorem dX10_isMutual_101 : decode cX10_isMutual 101 = .ok (.goto 4, 3) := by decide +kernel
theorem dX10_isMutual_104 : decode cX10_isMutual 104 = .ok (.iconst 0, 1) := by decide +kernel
theorem dX10_isMutual_105 : decode cX10_isMutual 105 = .ok (.istore_n 2, 1) := by decide +kernel
theorem dX10_isMutual_106 : decode cX10_isMutual 106 = .ok (.iinc 3 1, 3) := by decide +kernel
theorem dX10_isMutual_109 : decode cX10_isMutual 109 = .ok (.goto (-76), 3) := by decide +kernel
theorem dX10_isMutual_112 : decode cX10_isMutual 112 = .ok (.iload_n 2, 1) := by decide +kernel
theorem dX10_isMutual_113 : decode cX10_isMutual 113 = .ok (.ireturn, 1) := by decide +kernel
theorem dX10_writes_0 : decode cX10_writes 0 = .ok (.iload_n 2, 1) := by decide +kernel
theorem dX10_writes_1 : decode cX10_writes 1 = .ok (.invokestatic 109, 3) := by decide +kernel
theorem dX10_writes_4 : decode cX10_writes 4 = .ok (.iconst 1, 1) := by decide +kernel
theorem dX10_writes_5 : decode cX10_writes 5 = .ok (.bipush 54, 2) := by decide +kernel
theorem dX10_writes_7 : decode cX10_writes 7 = .ok (.invokestatic 98, 3) := by decide +kernel
theorem dX10_writes_10 : decode cX10_writes 10 = .ok (.ifCond .eq 34, 3) := by decide +kernel
theorem dX10_writes_13 : decode cX10_writes 13 = .ok (.iload_n 3, 1) := by decide +kernel
theorem dX10_writes_14 : decode cX10_writes 14 = .ok (.invokestatic 109, 3) := by decide +kernel
theorem dX10_writes_17 : decode cX10_writes 17 = .ok (.iconst 0, 1) := by decide +kernel
theorem dX10_writes_18 : decode cX10_writes 18 = .ok (.bipush 54, 2) := by decide +kernel
theorem dX10_writes_20 : decode cX10_writes 20 = .ok (.invokestatic 98, 3) := by decide +kernel
theorem dX10_writes_23 : decode cX10_writes 23 = .ok (.ifCond .eq 21, 3) := by decide +kernel
theorem dX10_writes_26 : decode cX10_writes 26 = .ok (.iload 4, 2) := by decide +kernel
theorem dX10_writes_28 : decode cX10_writes 28 = .ok (.invokestatic 109, 3) := by decide +kernel
theorem dX10_writes_31 : decode cX10_writes 31 = .ok (.iconst 0, 1) := by decide +kernel
theorem dX10_writes_32 : decode cX10_writes 32 = .ok (.bipush 54, 2) := by decide +kernel
theorem dX10_writes_34 : decode cX10_writes 34 = .ok (.invokestatic 98, 3) := by decide +kernel
theorem dX10_writes_37 : decode cX10_writes 37 = .ok (.ifCond .eq 7, 3) := by decide +kernel
theorem dX10_writes_40 : decode cX10_writes 40 = .ok (.iconst 1, 1) := by decide +kernel
theorem dX10_writes_41 : decode cX10_writes 41 = .ok (.goto 4, 3) := by decide +kernel
theorem dX10_writes_44 : decode cX10_writes 44 = .ok (.iconst 0, 1) := by decide +kernel
theorem dX10_writes_45 : decode cX10_writes 45 = .ok (.istore 5, 2) := by decide +kernel
theorem dX10_writes_47 : decode cX10_writes 47 = .ok (.iload_n 1, 1) := by decide +kernel
theorem dX10_writes_48 : decode cX10_writes 48 = .ok (.invokestatic 102, 3) := by decide +kernel
theorem dX10_writes_51 : decode cX10_writes 51 = .ok (.ifCond .eq 17, 3) := by decide +kernel
theorem dX10_writes_54 : decode cX10_writes 54 = .ok (.iload 5, 2) := by decide +kernel
theorem dX10_writes_56 : decode cX10_writes 56 = .ok (.ifCond .eq 12, 3) := by decide +kernel
theorem dX10_writes_59 : decode cX10_writes 59 = .ok (.iload_n 3, 1) := by decide +kernel
theorem dX10_writes_60 : decode cX10_writes 60 = .ok (.ifCond .ne 10, 3) := by decide +kernel
theorem dX10_writes_63 : decode cX10_writes 63 = .ok (.iload 4, 2) := by decide +kernel
theorem dX10_writes_65 : decode cX10_writes 65 = .ok (.ifCond .eq 5, 3) := by decide +kernel
theorem dX10_writes_68 : decode cX10_writes 68 = .ok (.iconst 0, 1) := by decide +kernel
theorem dX10_writes_69 : decode cX10_writes 69 = .ok (.ireturn, 1) := by decide +kernel
theorem dX10_writes_70 : decode cX10_writes 70 = .ok (.sipush 217, 3) := by decide +kernel
theorem dX10_writes_73 : decode cX10_writes 73 = .ok (.iconst 4, 1) := by decide +kernel
theorem dX10_writes_74 : decode cX10_writes 74 = .ok (.aload_n 0, 1) := by decide +kernel
theorem dX10_writes_75 : decode cX10_writes 75 = .ok (.getfield 9, 3) := by decide +kernel
theorem dX10_writes_78 : decode cX10_writes 78 = .ok (.sipush 216, 3) := by decide +kernel
theorem dX10_writes_81 : decode cX10_writes 81 = .ok (.iaload, 1) := by decide +kernel
theorem dX10_writes_82 : decode cX10_writes 82 = .ok (.imul, 1) := by decide +kernel
theorem dX10_writes_83 : decode cX10_writes 83 = .ok (.iadd, 1) := by decide +kernel
theorem dX10_writes_84 : decode cX10_writes 84 = .ok (.istore 6, 2) := by decide +kernel
theorem dX10_writes_86 : decode cX10_writes 86 = .ok (.aload_n 0, 1) := by decide +kernel
theorem dX10_writes_87 : decode cX10_writes 87 = .ok (.getfield 9, 3) := by decide +kernel
theorem dX10_writes_90 : decode cX10_writes 90 = .ok (.sipush 216, 3) := by decide +kernel
theorem dX10_writes_93 : decode cX10_writes 93 = .ok (.iaload, 1) := by decide +kernel
theorem dX10_writes_94 : decode cX10_writes 94 = .ok (.bipush 10, 2) := by decide +kernel
theorem dX10_writes_96 : decode cX10_writes 96 = .ok (.if_icmp .ge 42, 3) := by decide +kernel
theorem dX10_writes_99 : decode cX10_writes 99 = .ok (.aload_n 0, 1) := by decide +kernel
theorem dX10_writes_100 : decode cX10_writes 100 = .ok (.getfield 9, 3) := by decide +kernel
theorem dX10_writes_103 : decode cX10_writes 103 = .ok (.iload 6, 2) := by decide +kernel
theorem dX10_writes_105 : decode cX10_writes 105 = .ok (.iload_n 1, 1) := by decide +kernel
theorem dX10_writes_106 : decode cX10_writes 106 = .ok (.iastore, 1) := by decide +kernel
theorem dX10_writes_107 : decode cX10_writes 107 = .ok (.aload_n 0, 1) := by decide +kernel
theorem dX10_writes_108 : decode cX10_writes 108 = .ok (.getfield 9, 3) := by decide +kernel
theorem dX10_writes_111 : decode cX10_writes 111 = .ok (.iload 6, 2) := by decide +kernel
theorem dX10_writes_113 : decode cX10_writes 113 = .ok (.iconst 1, 1) := by decide +kernel
theorem dX10_writes_114 : decode cX10_writes 114 = .ok (.iadd, 1) := by decide +kernel
theorem dX10_writes_115 : decode cX10_writes 115 = .ok (.iload_n 2, 1) := by decide +kernel
theorem dX10_writes_116 : decode cX10_writes 116 = .ok (.iastore, 1) := by decide +kernel
theorem dX10_writes_117 : decode cX10_writes 117 = .ok (.aload_n 0, 1) := by decide +kernel
theorem dX10_writes_118 : decode cX10_writes 118 = .ok (.getfield 9, 3) := by decide +kernel
theorem dX10_writes_121 : decode cX10_writes 121 = .ok (.iload 6, 2) := by decide +kernel
theorem dX10_writes_123 : decode cX10_writes 123 = .ok (.iconst 2, 1) := by decide +kernel
theorem dX10_writes_124 : decode cX10_writes 124 = .ok (.iadd, 1) := by decide +kernel
theorem dX10_writes_125 : decode cX10_writes 125 = .ok (.iload_n 3, 1) := by decide +kernel
theorem dX10_writes_126 : decode cX10_writes 126 = .ok (.iastore, 1) := by decide +kernel
theorem dX10_writes_127 : decode cX10_writes 127 = .ok (.aload_n 0, 1) := by decide +kernel
theorem dX10_writes_128 : decode cX10_writes 128 = .ok (.getfield 9, 3) := by decide +kernel
theorem dX10_writes_131 : decode cX10_writes 131 = .ok (.iload 6, 2) := by decide +kernel
theorem dX10_writes_133 : decode cX10_writes 133 = .ok (.iconst 3, 1) := by decide +kernel
theorem dX10_writes_134 : decode cX10_writes 134 = .ok (.iadd, 1) := by decide +kernel
theorem dX10_writes_135 : decode cX10_writes 135 = .ok (.iload 4, 2) := by decide +kernel
theorem dX10_writes_137 : decode cX10_writes 137 = .ok (.iastore, 1) := by decide +kernel
theorem dX10_writes_138 : decode cX10_writes 138 = .ok (.iconst 1, 1) := by decide +kernel
theorem dX10_writes_139 : decode cX10_writes 139 = .ok (.ireturn, 1) := by decide +kernel
theorem dX10_unsafe_0 : decode cX10_unsafe 0 = .ok (.iconst (-1), 1) := by decide +kernel
theorem dX10_unsafe_1 : decode cX10_unsafe 1 = .ok (.istore_n 1, 1) := by decide +kernel
theorem dX10_unsafe_2 : decode cX10_unsafe 2 = .ok (.iconst 2, 1) := by decide +kernel
theorem dX10_unsafe_3 : decode cX10_unsafe 3 = .ok (.istore_n 2, 1) := by decide +kernel
theorem dX10_unsafe_4 : decode cX10_unsafe 4 = .ok (.iload_n 2, 1) := by decide +kernel
theorem dX10_unsafe_5 : decode cX10_unsafe 5 = .ok (.ifCond .lt 123, 3) := by decide +kernel
theorem dX10_unsafe_8 : decode cX10_unsafe 8 = .ok (.iload_n 2, 1) := by decide +kernel
theorem dX10_unsafe_9 : decode cX10_unsafe 9 = .ok (.iconst 2, 1) := by decide +kernel
theorem dX10_unsafe_10 : decode cX10_unsafe 10 = .ok (.if_icmp .ge 7, 3) := by decide +kernel
theorem dX10_unsafe_13 : decode cX10_unsafe 13 = .ok (.iconst 1, 1) := by decide +kernel
theorem dX10_unsafe_14 : decode cX10_unsafe 14 = .ok (.goto 4, 3) := by decide +kernel
theorem dX10_unsafe_17 : decode cX10_unsafe 17 = .ok (.iconst 0, 1) := by decide +kernel
theorem dX10_unsafe_18 : decode cX10_unsafe 18 = .ok (.istore_n 3, 1) := by decide +kernel
theorem dX10_unsafe_19 : decode cX10_unsafe 19 = .ok (.iconst 0, 1) := by decide +kernel
theorem dX10_unsafe_20 : decode cX10_unsafe 20 = .ok (.istore 4, 2) := by decide +kernel
theorem dX10_unsafe_22 : decode cX10_unsafe 22 = .ok (.iconst 0, 1) := by decide +kernel
theorem dX10_unsafe_23 : decode cX10_unsafe 23 = .ok (.istore 5, 2) := by decide +kernel
theorem dX10_unsafe_25 : decode cX10_unsafe 25 = .ok (.iload 5, 2) := by decide +kernel
theorem dX10_unsafe_27 : decode cX10_unsafe 27 = .ok (.iconst 3, 1) := by decide +kernel
theorem dX10_unsafe_28 : decode cX10_unsafe 28 = .ok (.if_icmp .ge 79, 3) := by decide +kernel
theorem dX10_unsafe_31 : decode cX10_unsafe 31 = .ok (.iload_n 3, 1) := by decide +kernel
theorem dX10_unsafe_32 : decode cX10_unsafe 32 = .ok (.ifCond .ne 27, 3) := by decide +kernel
theorem dX10_unsafe_35 : decode cX10_unsafe 35 = .ok (.aload_n 0, 1) := by decide +kernel
theorem dX10_unsafe_36 : decode cX10_unsafe 36 = .ok (.getfield 53, 3) := by decide +kernel
theorem dX10_unsafe_39 : decode cX10_unsafe 39 = .ok (.iload 5, 2) := by decide +kernel
theorem dX10_unsafe_41 : decode cX10_unsafe 41 = .ok (.iaload, 1) := by decide +kernel
theorem dX10_unsafe_42 : decode cX10_unsafe 42 = .ok (.ifCond .ge 21, 3) := by decide +kernel
theorem dX10_unsafe_45 : decode cX10_unsafe 45 = .ok (.aload_n 0, 1) := by decide +kernel
theorem dX10_unsafe_46 : decode cX10_unsafe 46 = .ok (.getfield 53, 3) := by decide +kernel
theorem dX10_unsafe_49 : decode cX10_unsafe 49 = .ok (.iload 5, 2) := by decide +kernel
theorem dX10_unsafe_51 : decode cX10_unsafe 51 = .ok (.iaload, 1) := by decide +kernel
theorem dX10_unsafe_52 : decode cX10_unsafe 52 = .ok (.iload_n 2, 1) := by decide +kernel
theorem dX10_unsafe_53 : decode cX10_unsafe 53 = .ok (.invokestatic 123, 3) := by decide +kernel
theorem dX10_unsafe_56 : decode cX10_unsafe 56 = .ok (.ifCond .eq 7, 3) := by decide +kernel
theorem dX10_unsafe_59 : decode cX10_unsafe 59 = .ok (.iconst 1, 1) := by decide +kernel
theorem dX10_unsafe_60 : decode cX10_unsafe 60 = .ok (.goto 4, 3) := by decide +kernel
theorem dX10_unsafe_63 : decode cX10_unsafe 63 = .ok (.iconst 0, 1) := by decide +kernel
theorem dX10_unsafe_64 : decode cX10_unsafe 64 = .ok (.istore_n 3, 1) := by decide +kernel
theorem dX10_unsafe_65 : decode cX10_unsafe 65 = .ok (.iload 4, 2) := by decide +kernel
theorem dX10_unsafe_67 : decode cX10_unsafe 67 = .ok (.ifCond .ne 27, 3) := by decide +kernel
theorem dX10_unsafe_70 : decode cX10_unsafe 70 = .ok (.aload_n 0, 1) := by decide +kernel
theorem dX10_unsafe_71 : decode cX10_unsafe 71 = .ok (.getfield 53, 3) := by decide +kernel
theorem dX10_unsafe_74 : decode cX10_unsafe 74 = .ok (.iload 5, 2) := by decide +kernel
theorem dX10_unsafe_76 : decode cX10_unsafe 76 = .ok (.iaload, 1) := by decide +kernel
theorem dX10_unsafe_77 : decode cX10_unsafe 77 = .ok (.ifCond .le 21, 3) := by decide +kernel
theorem dX10_unsafe_80 : decode cX10_unsafe 80 = .ok (.aload_n 0, 1) := by decide +kernel
theorem dX10_unsafe_81 : decode cX10_unsafe 81 = .ok (.getfield 53, 3) := by decide +kernel
theorem dX10_unsafe_84 : decode cX10_unsafe 84 = .ok (.iload 5, 2) := by decide +kernel
theorem dX10_unsafe_86 : decode cX10_unsafe 86 = .ok (.iaload, 1) := by decide +kernel
theorem dX10_unsafe_87 : decode cX10_unsafe 87 = .ok (.iload_n 2, 1) := by decide +kernel
theorem dX10_unsafe_88 : decode cX10_unsafe 88 = .ok (.invokestatic 123, 3) := by decide +kernel
theorem dX10_unsafe_91 : decode cX10_unsafe 91 = .ok (.ifCond .eq 7, 3) := by decide +kernel
theorem dX10_unsafe_94 : decode cX10_unsafe 94 = .ok (.iconst 1, 1) := by decide +kernel
theorem dX10_unsafe_95 : decode cX10_unsafe 95 = .ok (.goto 4, 3) := by decide +kernel
theorem dX10_unsafe_98 : decode cX10_unsafe 98 = .ok (.iconst 0, 1) := by decide +kernel
theorem dX10_unsafe_99 : decode cX10_unsafe 99 = .ok (.istore 4, 2) := by decide +kernel
theorem dX10_unsafe_101 : decode cX10_unsafe 101 = .ok (.iinc 5 1, 3) := by decide +kernel
theorem dX10_unsafe_104 : decode cX10_unsafe 104 = .ok (.goto (-79), 3) := by decide +kernel
theorem dX10_unsafe_107 : decode cX10_unsafe 107 = .ok (.iload_n 3, 1) := by decide +kernel
theorem dX10_unsafe_108 : decode cX10_unsafe 108 = .ok (.ifCond .eq 12, 3) := by decide +kernel
theorem dX10_unsafe_111 : decode cX10_unsafe 111 = .ok (.iload 4, 2) := by decide +kernel
theorem dX10_unsafe_113 : decode cX10_unsafe 113 = .ok (.ifCond .ne 7, 3) := by decide +kernel
theorem dX10_unsafe_116 : decode cX10_unsafe 116 = .ok (.iload_n 2, 1) := by decide +kernel
theorem dX10_unsafe_117 : decode cX10_unsafe 117 = .ok (.goto 4, 3) := by decide +kernel
theorem dX10_unsafe_120 : decode cX10_unsafe 120 = .ok (.iload_n 1, 1) := by decide +kernel
theorem dX10_unsafe_121 : decode cX10_unsafe 121 = .ok (.istore_n 1, 1) := by decide +kernel
theorem dX10_unsafe_122 : decode cX10_unsafe 122 = .ok (.iinc 2 (-1), 3) := by decide +kernel
theorem dX10_unsafe_125 : decode cX10_unsafe 125 = .ok (.goto (-121), 3) := by decide +kernel
theorem dX10_unsafe_128 : decode cX10_unsafe 128 = .ok (.iload_n 1, 1) := by decide +kernel
theorem dX10_unsafe_129 : decode cX10_unsafe 129 = .ok (.ireturn, 1) := by decide +kernel
theorem dX10_likeRule_0 : decode cX10_likeRule 0 = .ok (.iconst (-1), 1) := by decide +kernel
theorem dX10_likeRule_1 : decode cX10_likeRule 1 = .ok (.istore_n 2, 1) := by decide +kernel
theorem dX10_likeRule_2 : decode cX10_likeRule 2 = .ok (.aload_n 0, 1) := by decide +kernel
theorem dX10_likeRule_3 : decode cX10_likeRule 3 = .ok (.getfield 9, 3) := by decide +kernel
theorem dX10_likeRule_6 : decode cX10_likeRule 6 = .ok (.sipush 216, 3) := by decide +kernel
theorem dX10_likeRule_9 : decode cX10_likeRule 9 = .ok (.iaload, 1) := by decide +kernel
theorem dX10_likeRule_10 : decode cX10_likeRule 10 = .ok (.iconst 1, 1) := by decide +kernel
theorem dX10_likeRule_11 : decode cX10_likeRule 11 = .ok (.isub, 1) := by decide +kernel
theorem dX10_likeRule_12 : decode cX10_likeRule 12 = .ok (.istore_n 3, 1) := by decide +kernel
theorem dX10_likeRule_13 : decode cX10_likeRule 13 = .ok (.iload_n 3, 1) := by decide +kernel
theorem dX10_likeRule_14 : decode cX10_likeRule 14 = .ok (.ifCond .lt 80, 3) := by decide +kernel
theorem dX10_likeRule_17 : decode cX10_likeRule 17 = .ok (.aload_n 0, 1) := by decide +kernel
theorem dX10_likeRule_18 : decode cX10_likeRule 18 = .ok (.iload_n 3, 1) := by decide +kernel
theorem dX10_likeRule_19 : decode cX10_likeRule 19 = .ok (.invokevirtual 130, 3) := by decide +kernel
theorem dX10_likeRule_22 : decode cX10_likeRule 22 = .ok (.iload_n 1, 1) := by decide +kernel
theorem dX10_likeRule_23 : decode cX10_likeRule 23 = .ok (.if_icmp .ne 7, 3) := by decide +kernel
theorem dX10_likeRule_26 : decode cX10_likeRule 26 = .ok (.iconst 1, 1) := by decide +kernel
theorem dX10_likeRule_27 : decode cX10_likeRule 27 = .ok (.goto 4, 3) := by decide +kernel
theorem dX10_likeRule_30 : decode cX10_likeRule 30 = .ok (.iconst 0, 1) := by decide +kernel
theorem dX10_likeRule_31 : decode cX10_likeRule 31 = .ok (.istore 4, 2) := by decide +kernel
theorem dX10_likeRule_33 : decode cX10_likeRule 33 = .ok (.iconst 0, 1) := by decide +kernel
theorem dX10_likeRule_34 : decode cX10_likeRule 34 = .ok (.istore 5, 2) := by decide +kernel
theorem dX10_likeRule_36 : decode cX10_likeRule 36 = .ok (.iload 5, 2) := by decide +kernel
theorem dX10_likeRule_38 : decode cX10_likeRule 38 = .ok (.iconst 3, 1) := by decide +kernel
theorem dX10_likeRule_39 : decode cX10_likeRule 39 = .ok (.if_icmp .ge 38, 3) := by decide +kernel
theorem dX10_likeRule_42 : decode cX10_likeRule 42 = .ok (.iload 4, 2) := by decide +kernel
theorem dX10_likeRule_44 : decode cX10_likeRule 44 = .ok (.ifCond .eq 24, 3) := by decide +kernel
theorem dX10_likeRule_47 : decode cX10_likeRule 47 = .ok (.aload_n 0, 1) := by decide +kernel
theorem dX10_likeRule_48 : decode cX10_likeRule 48 = .ok (.iload_n 3, 1) := by decide +kernel
theorem dX10_likeRule_49 : decode cX10_likeRule 49 = .ok (.iload 5, 2) := by decide +kernel
theorem dX10_likeRule_51 : decode cX10_likeRule 51 = .ok (.invokevirtual 119, 3) := by decide +kernel
theorem dX10_likeRule_54 : decode cX10_likeRule 54 = .ok (.aload_n 0, 1) := by decide +kernel
theorem dX10_likeRule_55 : decode cX10_likeRule 55 = .ok (.getfield 53, 3) := by decide +kernel
theorem dX10_likeRule_58 : decode cX10_likeRule 58 = .ok (.iload 5, 2) := by decide +kernel
theorem dX10_likeRule_60 : decode cX10_likeRule 60 = .ok (.iaload, 1) := by decide +kernel
theorem dX10_likeRule_61 : decode cX10_likeRule 61 = .ok (.if_icmp .ne 7, 3) := by decide +kernel
theorem dX10_likeRule_64 : decode cX10_likeRule 64 = .ok (.iconst 1, 1) := by decide +kernel
theorem dX10_likeRule_65 : decode cX10_likeRule 65 = .ok (.goto 4, 3) := by decide +kernel
theorem dX10_likeRule_68 : decode cX10_likeRule 68 = .ok (.iconst 0, 1) := by decide +kernel
theorem dX10_likeRule_69 : decode cX10_likeRule 69 = .ok (.istore 4, 2) := by decide +kernel
theorem dX10_likeRule_71 : decode cX10_likeRule 71 = .ok (.iinc 5 1, 3) := by decide +kernel
theorem dX10_likeRule_74 : decode cX10_likeRule 74 = .ok (.goto (-38), 3) := by decide +kernel
theorem dX10_likeRule_77 : decode cX10_likeRule 77 = .ok (.iload 4, 2) := by decide +kernel
theorem dX10_likeRule_79 : decode cX10_likeRule 79 = .ok (.ifCond .eq 7, 3) := by decide +kernel
theorem dX10_likeRule_82 : decode cX10_likeRule 82 = .ok (.iload_n 3, 1) := by decide +kernel
theorem dX10_likeRule_83 : decode cX10_likeRule 83 = .ok (.goto 4, 3) := by decide +kernel
theorem dX10_likeRule_86 : decode cX10_likeRule 86 = .ok (.iload_n 2, 1) := by decide +kernel
theorem dX10_likeRule_87 : decode cX10_likeRule 87 = .ok (.istore_n 2, 1) := by decide +kernel
theorem dX10_likeRule_88 : decode cX10_likeRule 88 = .ok (.iinc 3 (-1), 3) := by decide +kernel
theorem dX10_likeRule_91 : decode cX10_likeRule 91 = .ok (.goto (-78), 3) := by decide +kernel
theorem dX10_likeRule_94 : decode cX10_likeRule 94 = .ok (.iload_n 2, 1) := by decide +kernel
theorem dX10_likeRule_95 : decode cX10_likeRule 95 = .ok (.ireturn, 1) := by decide +kernel
theorem dX10_doRule_0 : decode cX10_doRule 0 = .ok (.aload_n 0, 1) := by decide +kernel
theorem dX10_doRule_1 : decode cX10_doRule 1 = .ok (.iload_n 1, 1) := by decide +kernel
theorem dX10_doRule_2 : decode cX10_doRule 2 = .ok (.iload_n 2, 1) := by decide +kernel
theorem dX10_doRule_3 : decode cX10_doRule 3 = .ok (.iload_n 3, 1) := by decide +kernel
theorem dX10_doRule_4 : decode cX10_doRule 4 = .ok (.iload 4, 2) := by decide +kernel
theorem dX10_doRule_6 : decode cX10_doRule 6 = .ok (.invokevirtual 220, 3) := by decide +kernel
theorem dX10_doRule_9 : decode cX10_doRule 9 = .ok (.ifCond .ne 9, 3) := by decide +kernel
theorem dX10_doRule_12 : decode cX10_doRule 12 = .ok (.aload_n 0, 1) := by decide +kernel
theorem dX10_doRule_13 : decode cX10_doRule 13 = .ok (.iconst 1, 1) := by decide +kernel
theorem dX10_doRule_14 : decode cX10_doRule 14 = .ok (.invokevirtual 175, 3) := by decide +kernel
theorem dX10_doRule_17 : decode cX10_doRule 17 = .ok (.ireturn, 1) := by decide +kernel
theorem dX10_doRule_18 : decode cX10_doRule 18 = .ok (.aload_n 0, 1) := by decide +kernel
theorem dX10_doRule_19 : decode cX10_doRule 19 = .ok (.getfield 9, 3) := by decide +kernel
theorem dX10_doRule_22 : decode cX10_doRule 22 = .ok (.sipush 216, 3) := by decide +kernel
theorem dX10_doRule_25 : decode cX10_doRule 25 = .ok (.iaload, 1) := by decide +kernel
theorem dX10_doRule_26 : decode cX10_doRule 26 = .ok (.istore 5, 2) := by decide +kernel
theorem dX10_doRule_28 : decode cX10_doRule 28 = .ok (.aload_n 0, 1) := by decide +kernel
theorem dX10_doRule_29 : decode cX10_doRule 29 = .ok (.getfield 53, 3) := by decide +kernel
theorem dX10_doRule_32 : decode cX10_doRule 32 = .ok (.iconst 0, 1) := by decide +kernel
theorem dX10_doRule_33 : decode cX10_doRule 33 = .ok (.iload_n 2, 1) := by decide +kernel
theorem dX10_doRule_34 : decode cX10_doRule 34 = .ok (.iastore, 1) := by decide +kernel
theorem dX10_doRule_35 : decode cX10_doRule 35 = .ok (.aload_n 0, 1) := by decide +kernel
theorem dX10_doRule_36 : decode cX10_doRule 36 = .ok (.getfield 53, 3) := by decide +kernel
theorem dX10_doRule_39 : decode cX10_doRule 39 = .ok (.iconst 1, 1) := by decide +kernel
theorem dX10_doRule_40 : decode cX10_doRule 40 = .ok (.iload_n 3, 1) := by decide +kernel
theorem dX10_doRule_41 : decode cX10_doRule 41 = .ok (.iastore, 1) := by decide +kernel
theorem dX10_doRule_42 : decode cX10_doRule 42 = .ok (.aload_n 0, 1) := by decide +kernel
theorem dX10_doRule_43 : decode cX10_doRule 43 = .ok (.getfield 53, 3) := by decide +kernel
theorem dX10_doRule_46 : decode cX10_doRule 46 = .ok (.iconst 2, 1) := by decide +kernel
theorem dX10_doRule_47 : decode cX10_doRule 47 = .ok (.iload 4, 2) := by decide +kernel
theorem dX10_doRule_49 : decode cX10_doRule 49 = .ok (.iastore, 1) := by decide +kernel
theorem dX10_doRule_50 : decode cX10_doRule 50 = .ok (.aload_n 0, 1) := by decide +kernel
theorem dX10_doRule_51 : decode cX10_doRule 51 = .ok (.invokevirtual 223, 3) := by decide +kernel
theorem dX10_doRule_54 : decode cX10_doRule 54 = .ok (.ifCond .lt 13, 3) := by decide +kernel
theorem dX10_doRule_57 : decode cX10_doRule 57 = .ok (.aload_n 0, 1) := by decide +kernel
theorem dX10_doRule_58 : decode cX10_doRule 58 = .ok (.iconst 4, 1) := by decide +kernel
theorem dX10_doRule_59 : decode cX10_doRule 59 = .ok (.aload_n 0, 1) := by decide +kernel
theorem dX10_doRule_60 : decode cX10_doRule 60 = .ok (.invokevirtual 223, 3) := by decide +kernel
theorem dX10_doRule_63 : decode cX10_doRule 63 = .ok (.invokevirtual 181, 3) := by decide +kernel
theorem dX10_doRule_66 : decode cX10_doRule 66 = .ok (.ireturn, 1) := by decide +kernel
theorem dX10_doRule_67 : decode cX10_doRule 67 = .ok (.aload_n 0, 1) := by decide +kernel
theorem dX10_doRule_68 : decode cX10_doRule 68 = .ok (.iload_n 1, 1) := by decide +kernel
theorem dX10_doRule_69 : decode cX10_doRule 69 = .ok (.invokevirtual 226, 3) := by decide +kernel
theorem dX10_doRule_72 : decode cX10_doRule 72 = .ok (.ifCond .lt 15, 3) := by decide +kernel
theorem dX10_doRule_75 : decode cX10_doRule 75 = .ok (.aload_n 0, 1) := by decide +kernel
theorem dX10_doRule_76 : decode cX10_doRule 76 = .ok (.bipush 6, 2) := by decide +kernel
theorem dX10_doRule_78 : decode cX10_doRule 78 = .ok (.aload_n 0, 1) := by decide +kernel
theorem dX10_doRule_79 : decode cX10_doRule 79 = .ok (.iload_n 1, 1) := by decide +kernel
theorem dX10_doRule_80 : decode cX10_doRule 80 = .ok (.invokevirtual 226, 3) := by decide +kernel
theorem dX10_doRule_83 : decode cX10_doRule 83 = .ok (.invokevirtual 181, 3) := by decide +kernel
theorem dX10_doRule_86 : decode cX10_doRule 86 = .ok (.ireturn, 1) := by decide +kernel
theorem dX10_doRule_87 : decode cX10_doRule 87 = .ok (.iload 5, 2) := by decide +kernel
theorem dX10_doRule_89 : decode cX10_doRule 89 = .ok (.bipush 10, 2) := by decide +kernel
theorem dX10_doRule_91 : decode cX10_doRule 91 = .ok (.if_icmp .ne 11, 3) := by decide +kernel
theorem dX10_doRule_94 : decode cX10_doRule 94 = .ok (.aload_n 0, 1) := by decide +kernel
theorem dX10_doRule_95 : decode cX10_doRule 95 = .ok (.iconst 1, 1) := by decide +kernel
theorem dX10_doRule_96 : decode cX10_doRule 96 = .ok (.bipush 10, 2) := by decide +kernel
theorem dX10_doRule_98 : decode cX10_doRule 98 = .ok (.invokevirtual 181, 3) := by decide +kernel
theorem dX10_doRule_101 : decode cX10_doRule 101 = .ok (.ireturn, 1) := by decide +kernel
theorem dX10_doRule_102 : decode cX10_doRule 102 = .ok (.aload_n 0, 1) := by decide +kernel
theorem dX10_doRule_103 : decode cX10_doRule 103 = .ok (.iload 5, 2) := by decide +kernel
theorem dX10_doRule_105 : decode cX10_doRule 105 = .ok (.iconst 1, 1) := by decide +kernel
theorem dX10_doRule_106 : decode cX10_doRule 106 = .ok (.iadd, 1) := by decide +kernel
theorem dX10_doRule_107 : decode cX10_doRule 107 = .ok (.invokevirtual 136, 3) := by decide +kernel
theorem dX10_doRule_110 : decode cX10_doRule 110 = .ok (.ifCond .ne 10, 3) := by decide +kernel
theorem dX10_doRule_113 : decode cX10_doRule 113 = .ok (.aload_n 0, 1) := by decide +kernel
theorem dX10_doRule_114 : decode cX10_doRule 114 = .ok (.iconst 5, 1) := by decide +kernel
theorem dX10_doRule_115 : decode cX10_doRule 115 = .ok (.iload_n 1, 1) := by decide +kernel
theorem dX10_doRule_116 : decode cX10_doRule 116 = .ok (.invokevirtual 181, 3) := by decide +kernel
theorem dX10_doRule_119 : decode cX10_doRule 119 = .ok (.ireturn, 1) := by decide +kernel
theorem dX10_doRule_120 : decode cX10_doRule 120 = .ok (.aload_n 0, 1) := by decide +kernel
theorem dX10_doRule_121 : decode cX10_doRule 121 = .ok (.getfield 9, 3) := by decide +kernel
theorem dX10_doRule_124 : decode cX10_doRule 124 = .ok (.sipush 216, 3) := by decide +kernel
theorem dX10_doRule_127 : decode cX10_doRule 127 = .ok (.dup2, 1) := by decide +kernel
theorem dX10_doRule_128 : decode cX10_doRule 128 = .ok (.iaload, 1) := by decide +kernel
theorem dX10_doRule_129 : decode cX10_doRule 129 = .ok (.iconst 1, 1) := by decide +kernel
theorem dX10_doRule_130 : decode cX10_doRule 130 = .ok (.iadd, 1) := by decide +kernel
theorem dX10_doRule_131 : decode cX10_doRule 131 = .ok (.iastore, 1) := by decide +kernel
theorem dX10_doRule_132 : decode cX10_doRule 132 = .ok (.iload 5, 2) := by decide +kernel
theorem dX10_doRule_134 : decode cX10_doRule 134 = .ok (.ireturn, 1) := by decide +kernel
theorem dX10_rule_0 : decode cX10_rule 0 = .ok (.aload_n 0, 1) := by decide +kernel
theorem dX10_rule_1 : decode cX10_rule 1 = .ok (.invokevirtual 187, 3) := by decide +kernel
theorem dX10_rule_4 : decode cX10_rule 4 = .ok (.aload_n 0, 1) := by decide +kernel
theorem dX10_rule_5 : decode cX10_rule 5 = .ok (.aload_n 0, 1) := by decide +kernel
theorem dX10_rule_6 : decode cX10_rule 6 = .ok (.iload_n 1, 1) := by decide +kernel
theorem dX10_rule_7 : decode cX10_rule 7 = .ok (.iload_n 2, 1) := by decide +kernel
theorem dX10_rule_8 : decode cX10_rule 8 = .ok (.iload_n 3, 1) := by decide +kernel
theorem dX10_rule_9 : decode cX10_rule 9 = .ok (.iload 4, 2) := by decide +kernel
theorem dX10_rule_11 : decode cX10_rule 11 = .ok (.invokevirtual 229, 3) := by decide +kernel
theorem dX10_rule_14 : decode cX10_rule 14 = .ok (.invokevirtual 193, 3) := by decide +kernel
theorem dX10_rule_17 : decode cX10_rule 17 = .ok (.ireturn, 1) := by decide +kernel
theorem dX10_isRule_0 : decode cX10_isRule 0 = .ok (.iload_n 1, 1) := by decide +kernel
theorem dX10_isRule_1 : decode cX10_isRule 1 = .ok (.iconst 0, 1) := by decide +kernel
theorem dX10_isRule_2 : decode cX10_isRule 2 = .ok (.aload_n 0, 1) := by decide +kernel
theorem dX10_isRule_3 : decode cX10_isRule 3 = .ok (.getfield 9, 3) := by decide +kernel
theorem dX10_isRule_6 : decode cX10_isRule 6 = .ok (.sipush 216, 3) := by decide +kernel
theorem dX10_isRule_9 : decode cX10_isRule 9 = .ok (.iaload, 1) := by decide +kernel
theorem dX10_isRule_10 : decode cX10_isRule 10 = .ok (.iconst 1, 1) := by decide +kernel
theorem dX10_isRule_11 : decode cX10_isRule 11 = .ok (.isub, 1) := by decide +kernel
theorem dX10_isRule_12 : decode cX10_isRule 12 = .ok (.invokestatic 98, 3) := by decide +kernel
theorem dX10_isRule_15 : decode cX10_isRule 15 = .ok (.ireturn, 1) := by decide +kernel
theorem dX10_doDrop_0 : decode cX10_doDrop 0 = .ok (.aload_n 0, 1) := by decide +kernel
theorem dX10_doDrop_1 : decode cX10_doDrop 1 = .ok (.iload_n 1, 1) := by decide +kernel
theorem dX10_doDrop_2 : decode cX10_doDrop 2 = .ok (.invokevirtual 233, 3) := by decide +kernel
theorem dX10_doDrop_5 : decode cX10_doDrop 5 = .ok (.ifCond .ne 9, 3) := by decide +kernel
theorem dX10_doDrop_8 : decode cX10_doDrop 8 = .ok (.aload_n 0, 1) := by decide +kernel
theorem dX10_doDrop_9 : decode cX10_doDrop 9 = .ok (.iconst 1, 1) := by decide +kernel
theorem dX10_doDrop_10 : decode cX10_doDrop 10 = .ok (.invokevirtual 175, 3) := by decide +kernel
theorem dX10_doDrop_13 : decode cX10_doDrop 13 = .ok (.ireturn, 1) := by decide +kernel
theorem dX10_doDrop_14 : decode cX10_doDrop 14 = .ok (.sipush 217, 3) := by decide +kernel
theorem dX10_doDrop_17 : decode cX10_doDrop 17 = .ok (.iconst 4, 1) := by decide +kernel
theorem dX10_doDrop_18 : decode cX10_doDrop 18 = .ok (.iload_n 1, 1) := by decide +kernel
theorem dX10_doDrop_19 : decode cX10_doDrop 19 = .ok (.iconst 1, 1) := by decide +kernel
theorem dX10_doDrop_20 : decode cX10_doDrop 20 = .ok (.iadd, 1) := by decide +kernel
theorem dX10_doDrop_21 : decode cX10_doDrop 21 = .ok (.imul, 1) := by decide +kernel
theorem dX10_doDrop_22 : decode cX10_doDrop 22 = .ok (.iadd, 1) := by decide +kernel
theorem dX10_doDrop_23 : decode cX10_doDrop 23 = .ok (.istore_n 2, 1) := by decide +kernel
theorem dX10_doDrop_24 : decode cX10_doDrop 24 = .ok (.aload_n 0, 1) := by decide +kernel
theorem dX10_doDrop_25 : decode cX10_doDrop 25 = .ok (.getfield 9, 3) := by decide +kernel
theorem dX10_doDrop_28 : decode cX10_doDrop 28 = .ok (.iload_n 2, 1) := by decide +kernel
theorem dX10_doDrop_29 : decode cX10_doDrop 29 = .ok (.aload_n 0, 1) := by decide +kernel
theorem dX10_doDrop_30 : decode cX10_doDrop 30 = .ok (.getfield 9, 3) := by decide +kernel
theorem dX10_doDrop_33 : decode cX10_doDrop 33 = .ok (.iload_n 2, 1) := by decide +kernel
theorem dX10_doDrop_34 : decode cX10_doDrop 34 = .ok (.iconst 4, 1) := by decide +kernel
theorem dX10_doDrop_35 : decode cX10_doDrop 35 = .ok (.isub, 1) := by decide +kernel
theorem dX10_doDrop_36 : decode cX10_doDrop 36 = .ok (.iconst 4, 1) := by decide +kernel
theorem dX10_doDrop_37 : decode cX10_doDrop 37 = .ok (.aload_n 0, 1) := by decide +kernel
theorem dX10_doDrop_38 : decode cX10_doDrop 38 = .ok (.getfield 9, 3) := by decide +kernel
theorem dX10_doDrop_41 : decode cX10_doDrop 41 = .ok (.sipush 216, 3) := by decide +kernel
theorem dX10_doDrop_44 : decode cX10_doDrop 44 = .ok (.iaload, 1) := by decide +kernel
theorem dX10_doDrop_45 : decode cX10_doDrop 45 = .ok (.iload_n 1, 1) := by decide +kernel
theorem dX10_doDrop_46 : decode cX10_doDrop 46 = .ok (.isub, 1) := by decide +kernel
theorem dX10_doDrop_47 : decode cX10_doDrop 47 = .ok (.iconst 1, 1) := by decide +kernel
theorem dX10_doDrop_48 : decode cX10_doDrop 48 = .ok (.isub, 1) := by decide +kernel
theorem dX10_doDrop_49 : decode cX10_doDrop 49 = .ok (.imul, 1) := by decide +kernel
theorem dX10_doDrop_50 : decode cX10_doDrop 50 = .ok (.invokestatic 79, 3) := by decide +kernel
theorem dX10_doDrop_53 : decode cX10_doDrop 53 = .ok (.aload_n 0, 1) := by decide +kernel
theorem dX10_doDrop_54 : decode cX10_doDrop 54 = .ok (.getfield 9, 3) := by decide +kernel
theorem dX10_doDrop_57 : decode cX10_doDrop 57 = .ok (.sipush 216, 3) := by decide +kernel
theorem dX10_doDrop_60 : decode cX10_doDrop 60 = .ok (.dup2, 1) := by decide +kernel
theorem dX10_doDrop_61 : decode cX10_doDrop 61 = .ok (.iaload, 1) := by decide +kernel
theorem dX10_doDrop_62 : decode cX10_doDrop 62 = .ok (.iconst 1, 1) := by decide +kernel
theorem dX10_doDrop_63 : decode cX10_doDrop 63 = .ok (.isub, 1) := by decide +kernel
theorem dX10_doDrop_64 : decode cX10_doDrop 64 = .ok (.iastore, 1) := by decide +kernel
theorem dX10_doDrop_65 : decode cX10_doDrop 65 = .ok (.aload_n 0, 1) := by decide +kernel
theorem dX10_doDrop_66 : decode cX10_doDrop 66 = .ok (.invokevirtual 184, 3) := by decide +kernel
theorem dX10_doDrop_69 : decode cX10_doDrop 69 = .ok (.ireturn, 1) := by decide +kernel
theorem dX10_drop_0 : decode cX10_drop 0 = .ok (.aload_n 0, 1) := by decide +kernel
theorem dX10_drop_1 : decode cX10_drop 1 = .ok (.invokevirtual 187, 3) := by decide +kernel
theorem dX10_drop_4 : decode cX10_drop 4 = .ok (.aload_n 0, 1) := by decide +kernel
theorem dX10_drop_5 : decode cX10_drop 5 = .ok (.aload_n 0, 1) := by decide +kernel
theorem dX10_drop_6 : decode cX10_drop 6 = .ok (.iload_n 1, 1) := by decide +kernel
theorem dX10_drop_7 : decode cX10_drop 7 = .ok (.invokevirtual 236, 3) := by decide +kernel
theorem dX10_drop_10 : decode cX10_drop 10 = .ok (.invokevirtual 193, 3) := by decide +kernel
theorem dX10_drop_13 : decode cX10_drop 13 = .ok (.ireturn, 1) := by decide +kernel
theorem dX10_factsBy_0 : decode cX10_factsBy 0 = .ok (.iconst 0, 1) := by decide +kernel
theorem dX10_factsBy_1 : decode cX10_factsBy 1 = .ok (.istore_n 3, 1) := by decide +kernel
theorem dX10_factsBy_2 : decode cX10_factsBy 2 = .ok (.iconst 0, 1) := by decide +kernel
theorem dX10_factsBy_3 : decode cX10_factsBy 3 = .ok (.istore 4, 2) := by decide +kernel
theorem dX10_factsBy_5 : decode cX10_factsBy 5 = .ok (.iload 4, 2) := by decide +kernel
theorem dX10_factsBy_7 : decode cX10_factsBy 7 = .ok (.sipush 216, 3) := by decide +kernel
theorem dX10_factsBy_10 : decode cX10_factsBy 10 = .ok (.if_icmp .ge 108, 3) := by decide +kernel
theorem dX10_factsBy_13 : decode cX10_factsBy 13 = .ok (.iload 4, 2) := by decide +kernel
theorem dX10_factsBy_15 : decode cX10_factsBy 15 = .ok (.bipush 36, 2) := by decide +kernel
theorem dX10_factsBy_17 : decode cX10_factsBy 17 = .ok (.idiv, 1) := by decide +kernel
theorem dX10_factsBy_18 : decode cX10_factsBy 18 = .ok (.aload_n 0, 1) := by decide +kernel
theorem dX10_factsBy_19 : decode cX10_factsBy 19 = .ok (.iload_n 1, 1) := by decide +kernel
theorem dX10_factsBy_20 : decode cX10_factsBy 20 = .ok (.invokevirtual 130, 3) := by decide +kernel
theorem dX10_factsBy_23 : decode cX10_factsBy 23 = .ok (.if_icmp .ne 7, 3) := by decide +kernel
theorem dX10_factsBy_26 : decode cX10_factsBy 26 = .ok (.iconst 1, 1) := by decide +kernel
theorem dX10_factsBy_27 : decode cX10_factsBy 27 = .ok (.goto 4, 3) := by decide +kernel
theorem dX10_factsBy_30 : decode cX10_factsBy 30 = .ok (.iconst 0, 1) := by decide +kernel
theorem dX10_factsBy_31 : decode cX10_factsBy 31 = .ok (.istore 5, 2) := by decide +kernel
theorem dX10_factsBy_33 : decode cX10_factsBy 33 = .ok (.iload_n 2, 1) := by decide +kernel
theorem dX10_factsBy_34 : decode cX10_factsBy 34 = .ok (.ifCond .eq 37, 3) := by decide +kernel
theorem dX10_factsBy_37 : decode cX10_factsBy 37 = .ok (.iload 5, 2) := by decide +kernel
theorem dX10_factsBy_39 : decode cX10_factsBy 39 = .ok (.ifCond .eq 28, 3) := by decide +kernel
theorem dX10_factsBy_42 : decode cX10_factsBy 42 = .ok (.aload_n 0, 1) := by decide +kernel
theorem dX10_factsBy_43 : decode cX10_factsBy 43 = .ok (.iload_n 1, 1) := by decide +kernel
theorem dX10_factsBy_44 : decode cX10_factsBy 44 = .ok (.iload 4, 2) := by decide +kernel
theorem dX10_factsBy_46 : decode cX10_factsBy 46 = .ok (.bipush 6, 2) := by decide +kernel
theorem dX10_factsBy_48 : decode cX10_factsBy 48 = .ok (.idiv, 1) := by decide +kernel
theorem dX10_factsBy_49 : decode cX10_factsBy 49 = .ok (.bipush 6, 2) := by decide +kernel
theorem dX10_factsBy_51 : decode cX10_factsBy 51 = .ok (.irem, 1) := by decide +kernel
theorem dX10_factsBy_52 : decode cX10_factsBy 52 = .ok (.iload 4, 2) := by decide +kernel
theorem dX10_factsBy_54 : decode cX10_factsBy 54 = .ok (.bipush 6, 2) := by decide +kernel
theorem dX10_factsBy_56 : decode cX10_factsBy 56 = .ok (.irem, 1) := by decide +kernel
theorem dX10_factsBy_57 : decode cX10_factsBy 57 = .ok (.invokevirtual 156, 3) := by decide +kernel
theorem dX10_factsBy_60 : decode cX10_factsBy 60 = .ok (.ifCond .lt 7, 3) := by decide +kernel
theorem dX10_factsBy_63 : decode cX10_factsBy 63 = .ok (.iconst 1, 1) := by decide +kernel
theorem dX10_factsBy_64 : decode cX10_factsBy 64 = .ok (.goto 33, 3) := by decide +kernel
theorem dX10_factsBy_67 : decode cX10_factsBy 67 = .ok (.iconst 0, 1) := by decide +kernel
theorem dX10_factsBy_68 : decode cX10_factsBy 68 = .ok (.goto 29, 3) := by decide +kernel
theorem dX10_factsBy_71 : decode cX10_factsBy 71 = .ok (.aload_n 0, 1) := by decide +kernel
theorem dX10_factsBy_72 : decode cX10_factsBy 72 = .ok (.getfield 25, 3) := by decide +kernel
theorem dX10_factsBy_75 : decode cX10_factsBy 75 = .ok (.iload 4, 2) := by decide +kernel
theorem dX10_factsBy_77 : decode cX10_factsBy 77 = .ok (.iaload, 1) := by decide +kernel
theorem dX10_factsBy_78 : decode cX10_factsBy 78 = .ok (.ifCond .le 18, 3) := by decide +kernel
theorem dX10_factsBy_81 : decode cX10_factsBy 81 = .ok (.aload_n 0, 1) := by decide +kernel
theorem dX10_factsBy_82 : decode cX10_factsBy 82 = .ok (.getfield 28, 3) := by decide +kernel
theorem dX10_factsBy_85 : decode cX10_factsBy 85 = .ok (.iload 4, 2) := by decide +kernel
theorem dX10_factsBy_87 : decode cX10_factsBy 87 = .ok (.iaload, 1) := by decide +kernel
theorem dX10_factsBy_88 : decode cX10_factsBy 88 = .ok (.iload_n 1, 1) := by decide +kernel
theorem dX10_factsBy_89 : decode cX10_factsBy 89 = .ok (.if_icmp .ne 7, 3) := by decide +kernel
theorem dX10_factsBy_92 : decode cX10_factsBy 92 = .ok (.iconst 1, 1) := by decide +kernel
theorem dX10_factsBy_93 : decode cX10_factsBy 93 = .ok (.goto 4, 3) := by decide +kernel
theorem dX10_factsBy_96 : decode cX10_factsBy 96 = .ok (.iconst 0, 1) := by decide +kernel
theorem dX10_factsBy_97 : decode cX10_factsBy 97 = .ok (.istore 6, 2) := by decide +kernel
theorem dX10_factsBy_99 : decode cX10_factsBy 99 = .ok (.iload_n 3, 1) := by decide +kernel
theorem dX10_factsBy_100 : decode cX10_factsBy 100 = .ok (.iload 6, 2) := by decide +kernel
theorem dX10_factsBy_102 : decode cX10_factsBy 102 = .ok (.ifCond .eq 7, 3) := by decide +kernel
theorem dX10_factsBy_105 : decode cX10_factsBy 105 = .ok (.iconst 1, 1) := by decide +kernel
theorem dX10_factsBy_106 : decode cX10_factsBy 106 = .ok (.goto 4, 3) := by decide +kernel
theorem dX10_factsBy_109 : decode cX10_factsBy 109 = .ok (.iconst 0, 1) := by decide +kernel
theorem dX10_factsBy_110 : decode cX10_factsBy 110 = .ok (.iadd, 1) := by decide +kernel
theorem dX10_factsBy_111 : decode cX10_factsBy 111 = .ok (.istore_n 3, 1) := by decide +kernel
theorem dX10_factsBy_112 : decode cX10_factsBy 112 = .ok (.iinc 4 1, 3) := by decide +kernel
theorem dX10_factsBy_115 : decode cX10_factsBy 115 = .ok (.goto (-110), 3) := by decide +kernel
theorem dX10_factsBy_118 : decode cX10_factsBy 118 = .ok (.iload_n 3, 1) := by decide +kernel
theorem dX10_factsBy_119 : decode cX10_factsBy 119 = .ok (.ireturn, 1) := by decide +kernel
theorem dX10_ruleOf_0 : decode cX10_ruleOf 0 = .ok (.aload_n 0, 1) := by decide +kernel
theorem dX10_ruleOf_1 : decode cX10_ruleOf 1 = .ok (.aload_n 0, 1) := by decide +kernel
theorem dX10_ruleOf_2 : decode cX10_ruleOf 2 = .ok (.iload_n 1, 1) := by decide +kernel
theorem dX10_ruleOf_3 : decode cX10_ruleOf 3 = .ok (.invokevirtual 233, 3) := by decide +kernel
theorem dX10_ruleOf_6 : decode cX10_ruleOf 6 = .ok (.ifCond .ne 7, 3) := by decide +kernel
theorem dX10_ruleOf_9 : decode cX10_ruleOf 9 = .ok (.iconst 1, 1) := by decide +kernel
theorem dX10_ruleOf_10 : decode cX10_ruleOf 10 = .ok (.goto 17, 3) := by decide +kernel
theorem dX10_ruleOf_13 : decode cX10_ruleOf 13 = .ok (.iload_n 2, 1) := by decide +kernel
theorem dX10_ruleOf_14 : decode cX10_ruleOf 14 = .ok (.iconst 0, 1) := by decide +kernel
theorem dX10_ruleOf_15 : decode cX10_ruleOf 15 = .ok (.iconst 3, 1) := by decide +kernel
theorem dX10_ruleOf_16 : decode cX10_ruleOf 16 = .ok (.invokestatic 98, 3) := by decide +kernel
theorem dX10_ruleOf_19 : decode cX10_ruleOf 19 = .ok (.ifCond .ne 7, 3) := by decide +kernel
theorem dX10_ruleOf_22 : decode cX10_ruleOf 22 = .ok (.iconst 2, 1) := by decide +kernel
theorem dX10_ruleOf_23 : decode cX10_ruleOf 23 = .ok (.goto 4, 3) := by decide +kernel
theorem dX10_ruleOf_26 : decode cX10_ruleOf 26 = .ok (.iconst 0, 1) := by decide +kernel
theorem dX10_ruleOf_27 : decode cX10_ruleOf 27 = .ok (.putfield 76, 3) := by decide +kernel
theorem dX10_ruleOf_30 : decode cX10_ruleOf 30 = .ok (.aload_n 0, 1) := by decide +kernel
theorem dX10_ruleOf_31 : decode cX10_ruleOf 31 = .ok (.getfield 76, 3) := by decide +kernel
theorem dX10_ruleOf_34 : decode cX10_ruleOf 34 = .ok (.ifCond .le 5, 3) := by decide +kernel
theorem dX10_ruleOf_37 : decode cX10_ruleOf 37 = .ok (.iconst 0, 1) := by decide +kernel
theorem dX10_ruleOf_38 : decode cX10_ruleOf 38 = .ok (.ireturn, 1) := by decide +kernel
theorem dX10_ruleOf_39 : decode cX10_ruleOf 39 = .ok (.aload_n 0, 1) := by decide +kernel
theorem dX10_ruleOf_40 : decode cX10_ruleOf 40 = .ok (.invokevirtual 166, 3) := by decide +kernel
theorem dX10_ruleOf_43 : decode cX10_ruleOf 43 = .ok (.iload_n 2, 1) := by decide +kernel
theorem dX10_ruleOf_44 : decode cX10_ruleOf 44 = .ok (.ifCond .ne 11, 3) := by decide +kernel
theorem dX10_ruleOf_47 : decode cX10_ruleOf 47 = .ok (.aload_n 0, 1) := by decide +kernel
theorem dX10_ruleOf_48 : decode cX10_ruleOf 48 = .ok (.iload_n 1, 1) := by decide +kernel
theorem dX10_ruleOf_49 : decode cX10_ruleOf 49 = .ok (.invokevirtual 130, 3) := by decide +kernel
theorem dX10_ruleOf_52 : decode cX10_ruleOf 52 = .ok (.goto 32, 3) := by decide +kernel
theorem dX10_ruleOf_55 : decode cX10_ruleOf 55 = .ok (.iload_n 2, 1) := by decide +kernel
theorem dX10_ruleOf_56 : decode cX10_ruleOf 56 = .ok (.iconst 1, 1) := by decide +kernel
theorem dX10_ruleOf_57 : decode cX10_ruleOf 57 = .ok (.if_icmp .ne 12, 3) := by decide +kernel
theorem dX10_ruleOf_60 : decode cX10_ruleOf 60 = .ok (.aload_n 0, 1) := by decide +kernel
theorem dX10_ruleOf_61 : decode cX10_ruleOf 61 = .ok (.iload_n 1, 1) := by decide +kernel
theorem dX10_ruleOf_62 : decode cX10_ruleOf 62 = .ok (.iconst 0, 1) := by decide +kernel
theorem dX10_ruleOf_63 : decode cX10_ruleOf 63 = .ok (.invokevirtual 239, 3) := by decide +kernel
theorem dX10_ruleOf_66 : decode cX10_ruleOf 66 = .ok (.goto 18, 3) := by decide +kernel
theorem dX10_ruleOf_69 : decode cX10_ruleOf 69 = .ok (.aload_n 0, 1) := by decide +kernel
theorem dX10_ruleOf_70 : decode cX10_ruleOf 70 = .ok (.iload_n 1, 1) := by decide +kernel
theorem dX10_ruleOf_71 : decode cX10_ruleOf 71 = .ok (.iload_n 2, 1) := by decide +kernel
theorem dX10_ruleOf_72 : decode cX10_ruleOf 72 = .ok (.iconst 3, 1) := by decide +kernel
theorem dX10_ruleOf_73 : decode cX10_ruleOf 73 = .ok (.if_icmp .ne 7, 3) := by decide +kernel
theorem dX10_ruleOf_76 : decode cX10_ruleOf 76 = .ok (.iconst 1, 1) := by decide +kernel
theorem dX10_ruleOf_77 : decode cX10_ruleOf 77 = .ok (.goto 4, 3) := by decide +kernel
theorem dX10_ruleOf_80 : decode cX10_ruleOf 80 = .ok (.iconst 0, 1) := by decide +kernel
theorem dX10_ruleOf_81 : decode cX10_ruleOf 81 = .ok (.invokevirtual 242, 3) := by decide +kernel
theorem dX10_ruleOf_84 : decode cX10_ruleOf 84 = .ok (.ireturn, 1) := by decide +kernel
theorem dX10_condition_0 : decode cX10_condition 0 = .ok (.aload_n 0, 1) := by decide +kernel
theorem dX10_condition_1 : decode cX10_condition 1 = .ok (.aload_n 0, 1) := by decide +kernel
theorem dX10_condition_2 : decode cX10_condition 2 = .ok (.iload_n 1, 1) := by decide +kernel
theorem dX10_condition_3 : decode cX10_condition 3 = .ok (.invokevirtual 233, 3) := by decide +kernel
theorem dX10_condition_6 : decode cX10_condition 6 = .ok (.ifCond .ne 7, 3) := by decide +kernel
theorem dX10_condition_9 : decode cX10_condition 9 = .ok (.iconst 1, 1) := by decide +kernel
theorem dX10_condition_10 : decode cX10_condition 10 = .ok (.goto 24, 3) := by decide +kernel
theorem dX10_condition_13 : decode cX10_condition 13 = .ok (.iload_n 2, 1) := by decide +kernel
theorem dX10_condition_14 : decode cX10_condition 14 = .ok (.iconst 0, 1) := by decide +kernel
theorem dX10_condition_15 : decode cX10_condition 15 = .ok (.aload_n 0, 1) := by decide +kernel
theorem dX10_condition_16 : decode cX10_condition 16 = .ok (.iload_n 1, 1) := by decide +kernel
theorem dX10_condition_17 : decode cX10_condition 17 = .ok (.iconst 0, 1) := by decide +kernel
theorem dX10_condition_18 : decode cX10_condition 18 = .ok (.invokevirtual 239, 3) := by decide +kernel
theorem dX10_condition_21 : decode cX10_condition 21 = .ok (.iconst 1, 1) := by decide +kernel
theorem dX10_condition_22 : decode cX10_condition 22 = .ok (.isub, 1) := by decide +kernel
theorem dX10_condition_23 : decode cX10_condition 23 = .ok (.invokestatic 98, 3) := by decide +kernel
theorem dX10_condition_26 : decode cX10_condition 26 = .ok (.ifCond .ne 7, 3) := by decide +kernel
theorem dX10_condition_29 : decode cX10_condition 29 = .ok (.iconst 2, 1) := by decide +kernel
theorem dX10_condition_30 : decode cX10_condition 30 = .ok (.goto 4, 3) := by decide +kernel
theorem dX10_condition_33 : decode cX10_condition 33 = .ok (.iconst 0, 1) := by decide +kernel
theorem dX10_condition_34 : decode cX10_condition 34 = .ok (.putfield 76, 3) := by decide +kernel
theorem dX10_condition_37 : decode cX10_condition 37 = .ok (.aload_n 0, 1) := by decide +kernel
theorem dX10_condition_38 : decode cX10_condition 38 = .ok (.getfield 76, 3) := by decide +kernel
theorem dX10_condition_41 : decode cX10_condition 41 = .ok (.ifCond .le 7, 3) := by decide +kernel
theorem dX10_condition_44 : decode cX10_condition 44 = .ok (.iconst 0, 1) := by decide +kernel
theorem dX10_condition_45 : decode cX10_condition 45 = .ok (.goto 9, 3) := by decide +kernel
theorem dX10_condition_48 : decode cX10_condition 48 = .ok (.aload_n 0, 1) := by decide +kernel
theorem dX10_condition_49 : decode cX10_condition 49 = .ok (.iload_n 1, 1) := by decide +kernel
theorem dX10_condition_50 : decode cX10_condition 50 = .ok (.iload_n 2, 1) := by decide +kernel
theorem dX10_condition_51 : decode cX10_condition 51 = .ok (.invokevirtual 119, 3) := by decide +kernel
theorem dX10_condition_54 : decode cX10_condition 54 = .ok (.ireturn, 1) := by decide +kernel
theorem dX10_wouldLayer_0 : decode cX10_wouldLayer 0 = .ok (.aload_n 0, 1) := by decide +kernel
theorem dX10_wouldLayer_1 : decode cX10_wouldLayer 1 = .ok (.getfield 9, 3) := by decide +kernel
theorem dX10_wouldLayer_4 : decode cX10_wouldLayer 4 = .ok (.iconst 0, 1) := by decide +kernel
theorem dX10_wouldLayer_5 : decode cX10_wouldLayer 5 = .ok (.aload_n 0, 1) := by decide +kernel
theorem dX10_wouldLayer_6 : decode cX10_wouldLayer 6 = .ok (.getfield 56, 3) := by decide +kernel
theorem dX10_wouldLayer_9 : decode cX10_wouldLayer 9 = .ok (.iconst 0, 1) := by decide +kernel
theorem dX10_wouldLayer_10 : decode cX10_wouldLayer 10 = .ok (.sipush 257, 3) := by decide +kernel
theorem dX10_wouldLayer_13 : decode cX10_wouldLayer 13 = .ok (.invokestatic 79, 3) := by decide +kernel
theorem dX10_wouldLayer_16 : decode cX10_wouldLayer 16 = .ok (.aload_n 0, 1) := by decide +kernel
theorem dX10_wouldLayer_17 : decode cX10_wouldLayer 17 = .ok (.aload_n 0, 1) := by decide +kernel
theorem dX10_wouldLayer_18 : decode cX10_wouldLayer 18 = .ok (.iload_n 1, 1) := by decide +kernel
theorem dX10_wouldLayer_19 : decode cX10_wouldLayer 19 = .ok (.iload_n 2, 1) := by decide +kernel
theorem dX10_wouldLayer_20 : decode cX10_wouldLayer 20 = .ok (.iload_n 3, 1) := by decide +kernel
theorem dX10_wouldLayer_21 : decode cX10_wouldLayer 21 = .ok (.iload 4, 2) := by decide +kernel
theorem dX10_wouldLayer_23 : decode cX10_wouldLayer 23 = .ok (.invokevirtual 220, 3) := by decide +kernel
theorem dX10_wouldLayer_26 : decode cX10_wouldLayer 26 = .ok (.ifCond .eq 7, 3) := by decide +kernel
theorem dX10_wouldLayer_29 : decode cX10_wouldLayer 29 = .ok (.iconst 0, 1) := by decide +kernel
theorem dX10_wouldLayer_30 : decode cX10_wouldLayer 30 = .ok (.goto 4, 3) := by decide +kernel
theorem dX10_wouldLayer_33 : decode cX10_wouldLayer 33 = .ok (.iconst 1, 1) := by decide +kernel
theorem dX10_wouldLayer_34 : decode cX10_wouldLayer 34 = .ok (.putfield 76, 3) := by decide +kernel
theorem dX10_wouldLayer_37 : decode cX10_wouldLayer 37 = .ok (.iconst 0, 1) := by decide +kernel
theorem dX10_wouldLayer_38 : decode cX10_wouldLayer 38 = .ok (.istore 5, 2) := by decide +kernel
theorem dX10_wouldLayer_40 : decode cX10_wouldLayer 40 = .ok (.aload_n 0, 1) := by decide +kernel
theorem dX10_wouldLayer_41 : decode cX10_wouldLayer 41 = .ok (.getfield 76, 3) := by decide +kernel
theorem dX10_wouldLayer_44 : decode cX10_wouldLayer 44 = .ok (.ifCond .ne 56, 3) := by decide +kernel
theorem dX10_wouldLayer_47 : decode cX10_wouldLayer 47 = .ok (.aload_n 0, 1) := by decide +kernel
theorem dX10_wouldLayer_48 : decode cX10_wouldLayer 48 = .ok (.getfield 9, 3) := by decide +kernel
theorem dX10_wouldLayer_51 : decode cX10_wouldLayer 51 = .ok (.sipush 216, 3) := by decide +kernel
theorem dX10_wouldLayer_54 : decode cX10_wouldLayer 54 = .ok (.iaload, 1) := by decide +kernel
theorem dX10_wouldLayer_55 : decode cX10_wouldLayer 55 = .ok (.bipush 10, 2) := by decide +kernel
theorem dX10_wouldLayer_57 : decode cX10_wouldLayer 57 = .ok (.if_icmp .ge 20, 3) := by decide +kernel
theorem dX10_wouldLayer_60 : decode cX10_wouldLayer 60 = .ok (.aload_n 0, 1) := by decide +kernel
theorem dX10_wouldLayer_61 : decode cX10_wouldLayer 61 = .ok (.aload_n 0, 1) := by decide +kernel
theorem dX10_wouldLayer_62 : decode cX10_wouldLayer 62 = .ok (.getfield 9, 3) := by decide +kernel
theorem dX10_wouldLayer_65 : decode cX10_wouldLayer 65 = .ok (.sipush 216, 3) := by decide +kernel
theorem dX10_wouldLayer_68 : decode cX10_wouldLayer 68 = .ok (.iaload, 1) := by decide +kernel
theorem dX10_wouldLayer_69 : decode cX10_wouldLayer 69 = .ok (.iconst 1, 1) := by decide +kernel
theorem dX10_wouldLayer_70 : decode cX10_wouldLayer 70 = .ok (.iadd, 1) := by decide +kernel
theorem dX10_wouldLayer_71 : decode cX10_wouldLayer 71 = .ok (.invokevirtual 136, 3) := by decide +kernel
theorem dX10_wouldLayer_74 : decode cX10_wouldLayer 74 = .ok (.goto 24, 3) := by decide +kernel
theorem dX10_wouldLayer_77 : decode cX10_wouldLayer 77 = .ok (.aload_n 0, 1) := by decide +kernel
theorem dX10_wouldLayer_78 : decode cX10_wouldLayer 78 = .ok (.iload_n 1, 1) := by decide +kernel
theorem dX10_wouldLayer_79 : decode cX10_wouldLayer 79 = .ok (.iconst 3, 1) := by decide +kernel
theorem dX10_wouldLayer_80 : decode cX10_wouldLayer 80 = .ok (.newarray .int, 2) := by decide +kernel
theorem dX10_wouldLayer_82 : decode cX10_wouldLayer 82 = .ok (.dup, 1) := by decide +kernel
theorem dX10_wouldLayer_83 : decode cX10_wouldLayer 83 = .ok (.iconst 0, 1) := by decide +kernel
theorem dX10_wouldLayer_84 : decode cX10_wouldLayer 84 = .ok (.iload_n 2, 1) := by decide +kernel
theorem dX10_wouldLayer_85 : decode cX10_wouldLayer 85 = .ok (.iastore, 1) := by decide +kernel
theorem dX10_wouldLayer_86 : decode cX10_wouldLayer 86 = .ok (.dup, 1) := by decide +kernel
theorem dX10_wouldLayer_87 : decode cX10_wouldLayer 87 = .ok (.iconst 1, 1) := by decide +kernel
theorem dX10_wouldLayer_88 : decode cX10_wouldLayer 88 = .ok (.iload_n 3, 1) := by decide +kernel
theorem dX10_wouldLayer_89 : decode cX10_wouldLayer 89 = .ok (.iastore, 1) := by decide +kernel
theorem dX10_wouldLayer_90 : decode cX10_wouldLayer 90 = .ok (.dup, 1) := by decide +kernel
theorem dX10_wouldLayer_91 : decode cX10_wouldLayer 91 = .ok (.iconst 2, 1) := by decide +kernel
theorem dX10_wouldLayer_92 : decode cX10_wouldLayer 92 = .ok (.iload 4, 2) := by decide +kernel
theorem dX10_wouldLayer_94 : decode cX10_wouldLayer 94 = .ok (.iastore, 1) := by decide +kernel
theorem dX10_wouldLayer_95 : decode cX10_wouldLayer 95 = .ok (.invokevirtual 245, 3) := by decide +kernel
theorem dX10_wouldLayer_98 : decode cX10_wouldLayer 98 = .ok (.istore 5, 2) := by decide +kernel
theorem dX10_wouldLayer_100 : decode cX10_wouldLayer 100 = .ok (.aload_n 0, 1) := by decide +kernel
theorem dX10_wouldLayer_101 : decode cX10_wouldLayer 101 = .ok (.getfield 56, 3) := by decide +kernel
theorem dX10_wouldLayer_104 : decode cX10_wouldLayer 104 = .ok (.iconst 0, 1) := by decide +kernel
theorem dX10_wouldLayer_105 : decode cX10_wouldLayer 105 = .ok (.aload_n 0, 1) := by decide +kernel
theorem dX10_wouldLayer_106 : decode cX10_wouldLayer 106 = .ok (.getfield 9, 3) := by decide +kernel
theorem dX10_wouldLayer_109 : decode cX10_wouldLayer 109 = .ok (.iconst 0, 1) := by decide +kernel
theorem dX10_wouldLayer_110 : decode cX10_wouldLayer 110 = .ok (.sipush 257, 3) := by decide +kernel
theorem dX10_wouldLayer_113 : decode cX10_wouldLayer 113 = .ok (.invokestatic 79, 3) := by decide +kernel
theorem dX10_wouldLayer_116 : decode cX10_wouldLayer 116 = .ok (.iload 5, 2) := by decide +kernel
theorem dX10_wouldLayer_118 : decode cX10_wouldLayer 118 = .ok (.ireturn, 1) := by decide +kernel
theorem dX10_layersWith_0 : decode cX10_layersWith 0 = .ok (.iconst 1, 1) := by decide +kernel
theorem dX10_layersWith_1 : decode cX10_layersWith 1 = .ok (.istore_n 3, 1) := by decide +kernel
theorem dX10_layersWith_2 : decode cX10_layersWith 2 = .ok (.aload_n 2, 1) := by decide +kernel
theorem dX10_layersWith_3 : decode cX10_layersWith 3 = .ok (.astore 4, 2) := by decide +kernel
theorem dX10_layersWith_5 : decode cX10_layersWith 5 = .ok (.aload 4, 2) := by decide +kernel
theorem dX10_layersWith_7 : decode cX10_layersWith 7 = .ok (.arraylength, 1) := by decide +kernel
theorem dX10_layersWith_8 : decode cX10_layersWith 8 = .ok (.istore 5, 2) := by decide +kernel
theorem dX10_layersWith_10 : decode cX10_layersWith 10 = .ok (.iconst 0, 1) := by decide +kernel
theorem dX10_layersWith_11 : decode cX10_layersWith 11 = .ok (.istore 6, 2) := by decide +kernel
theorem dX10_layersWith_13 : decode cX10_layersWith 13 = .ok (.iload 6, 2) := by decide +kernel
theorem dX10_layersWith_15 : decode cX10_layersWith 15 = .ok (.iload 5, 2) := by decide +kernel
theorem dX10_layersWith_17 : decode cX10_layersWith 17 = .ok (.if_icmp .ge 97, 3) := by decide +kernel
theorem dX10_layersWith_20 : decode cX10_layersWith 20 = .ok (.aload 4, 2) := by decide +kernel
theorem dX10_layersWith_22 : decode cX10_layersWith 22 = .ok (.iload 6, 2) := by decide +kernel
theorem dX10_layersWith_24 : decode cX10_layersWith 24 = .ok (.iaload, 1) := by decide +kernel
theorem dX10_layersWith_25 : decode cX10_layersWith 25 = .ok (.istore 7, 2) := by decide +kernel
theorem dX10_layersWith_27 : decode cX10_layersWith 27 = .ok (.iload 7, 2) := by decide +kernel
theorem dX10_layersWith_29 : decode cX10_layersWith 29 = .ok (.ifCond .eq 79, 3) := by decide +kernel
theorem dX10_layersWith_32 : decode cX10_layersWith 32 = .ok (.aload_n 0, 1) := by decide +kernel
theorem dX10_layersWith_33 : decode cX10_layersWith 33 = .ok (.iload_n 1, 1) := by decide +kernel
theorem dX10_layersWith_34 : decode cX10_layersWith 34 = .ok (.iload 7, 2) := by decide +kernel
theorem dX10_layersWith_36 : decode cX10_layersWith 36 = .ok (.invokestatic 127, 3) := by decide +kernel
theorem dX10_layersWith_39 : decode cX10_layersWith 39 = .ok (.iconst 0, 1) := by decide +kernel
theorem dX10_layersWith_40 : decode cX10_layersWith 40 = .ok (.invokevirtual 249, 3) := by decide +kernel
theorem dX10_layersWith_43 : decode cX10_layersWith 43 = .ok (.istore 8, 2) := by decide +kernel
theorem dX10_layersWith_45 : decode cX10_layersWith 45 = .ok (.aload_n 0, 1) := by decide +kernel
theorem dX10_layersWith_46 : decode cX10_layersWith 46 = .ok (.iload_n 1, 1) := by decide +kernel
theorem dX10_layersWith_47 : decode cX10_layersWith 47 = .ok (.iload 7, 2) := by decide +kernel
theorem dX10_layersWith_49 : decode cX10_layersWith 49 = .ok (.invokestatic 127, 3) := by decide +kernel
theorem dX10_layersWith_52 : decode cX10_layersWith 52 = .ok (.iconst 1, 1) := by decide +kernel
theorem dX10_layersWith_53 : decode cX10_layersWith 53 = .ok (.invokevirtual 249, 3) := by decide +kernel
theorem dX10_layersWith_56 : decode cX10_layersWith 56 = .ok (.istore 9, 2) := by decide +kernel
theorem dX10_layersWith_58 : decode cX10_layersWith 58 = .ok (.iload_n 3, 1) := by decide +kernel
theorem dX10_layersWith_59 : decode cX10_layersWith 59 = .ok (.ifCond .eq 22, 3) := by decide +kernel
theorem dX10_layersWith_62 : decode cX10_layersWith 62 = .ok (.iload 9, 2) := by decide +kernel
theorem dX10_layersWith_64 : decode cX10_layersWith 64 = .ok (.ifCond .ne 17, 3) := by decide +kernel
theorem dX10_layersWith_67 : decode cX10_layersWith 67 = .ok (.iload 8, 2) := by decide +kernel
theorem dX10_layersWith_69 : decode cX10_layersWith 69 = .ok (.ifCond .eq 8, 3) := by decide +kernel
theorem dX10_layersWith_72 : decode cX10_layersWith 72 = .ok (.iload 7, 2) := by decide +kernel
theorem dX10_layersWith_74 : decode cX10_layersWith 74 = .ok (.ifCond .lt 7, 3) := by decide +kernel
theorem dX10_layersWith_77 : decode cX10_layersWith 77 = .ok (.iconst 1, 1) := by decide +kernel
theorem dX10_layersWith_78 : decode cX10_layersWith 78 = .ok (.goto 4, 3) := by decide +kernel
theorem dX10_layersWith_81 : decode cX10_layersWith 81 = .ok (.iconst 0, 1) := by decide +kernel
theorem dX10_layersWith_82 : decode cX10_layersWith 82 = .ok (.istore_n 3, 1) := by decide +kernel
theorem dX10_layersWith_83 : decode cX10_layersWith 83 = .ok (.iload_n 3, 1) := by decide +kernel
theorem dX10_layersWith_84 : decode cX10_layersWith 84 = .ok (.ifCond .eq 22, 3) := by decide +kernel
theorem dX10_layersWith_87 : decode cX10_layersWith 87 = .ok (.iload 7, 2) := by decide +kernel
theorem dX10_layersWith_89 : decode cX10_layersWith 89 = .ok (.ifCond .le 13, 3) := by decide +kernel
theorem dX10_layersWith_92 : decode cX10_layersWith 92 = .ok (.iload 8, 2) := by decide +kernel
theorem dX10_layersWith_94 : decode cX10_layersWith 94 = .ok (.ifCond .eq 8, 3) := by decide +kernel
theorem dX10_layersWith_97 : decode cX10_layersWith 97 = .ok (.iload 9, 2) := by decide +kernel
theorem dX10_layersWith_99 : decode cX10_layersWith 99 = .ok (.ifCond .ne 7, 3) := by decide +kernel
theorem dX10_layersWith_102 : decode cX10_layersWith 102 = .ok (.iconst 1, 1) := by decide +kernel
theorem dX10_layersWith_103 : decode cX10_layersWith 103 = .ok (.goto 4, 3) := by decide +kernel
theorem dX10_layersWith_106 : decode cX10_layersWith 106 = .ok (.iconst 0, 1) := by decide +kernel
theorem dX10_layersWith_107 : decode cX10_layersWith 107 = .ok (.istore_n 3, 1) := by decide +kernel
theorem dX10_layersWith_108 : decode cX10_layersWith 108 = .ok (.iinc 6 1, 3) := by decide +kernel
theorem dX10_layersWith_111 : decode cX10_layersWith 111 = .ok (.goto (-98), 3) := by decide +kernel
theorem dX10_layersWith_114 : decode cX10_layersWith 114 = .ok (.iload_n 3, 1) := by decide +kernel
theorem dX10_layersWith_115 : decode cX10_layersWith 115 = .ok (.ifCond .eq 16, 3) := by decide +kernel
theorem dX10_layersWith_118 : decode cX10_layersWith 118 = .ok (.aload_n 0, 1) := by decide +kernel
theorem dX10_layersWith_119 : decode cX10_layersWith 119 = .ok (.iload_n 1, 1) := by decide +kernel
theorem dX10_layersWith_120 : decode cX10_layersWith 120 = .ok (.aload_n 2, 1) := by decide +kernel
theorem dX10_layersWith_121 : decode cX10_layersWith 121 = .ok (.invokevirtual 253, 3) := by decide +kernel
theorem dX10_layersWith_124 : decode cX10_layersWith 124 = .ok (.ifCond .ne 7, 3) := by decide +kernel
theorem dX10_layersWith_127 : decode cX10_layersWith 127 = .ok (.iconst 1, 1) := by decide +kernel
theorem dX10_layersWith_128 : decode cX10_layersWith 128 = .ok (.goto 4, 3) := by decide +kernel
theorem dX10_layersWith_131 : decode cX10_layersWith 131 = .ok (.iconst 0, 1) := by decide +kernel
theorem dX10_layersWith_132 : decode cX10_layersWith 132 = .ok (.ireturn, 1) := by decide +kernel
theorem dX10_twice_0 : decode cX10_twice 0 = .ok (.iconst 0, 1) := by decide +kernel
theorem dX10_twice_1 : decode cX10_twice 1 = .ok (.istore_n 3, 1) := by decide +kernel
theorem dX10_twice_2 : decode cX10_twice 2 = .ok (.iconst 0, 1) := by decide +kernel
theorem dX10_twice_3 : decode cX10_twice 3 = .ok (.istore 4, 2) := by decide +kernel
theorem dX10_twice_5 : decode cX10_twice 5 = .ok (.aload_n 2, 1) := by decide +kernel
theorem dX10_twice_6 : decode cX10_twice 6 = .ok (.astore 5, 2) := by decide +kernel
theorem dX10_twice_8 : decode cX10_twice 8 = .ok (.aload 5, 2) := by decide +kernel
theorem dX10_twice_10 : decode cX10_twice 10 = .ok (.arraylength, 1) := by decide +kernel
theorem dX10_twice_11 : decode cX10_twice 11 = .ok (.istore 6, 2) := by decide +kernel
theorem dX10_twice_13 : decode cX10_twice 13 = .ok (.iconst 0, 1) := by decide +kernel
theorem dX10_twice_14 : decode cX10_twice 14 = .ok (.istore 7, 2) := by decide +kernel
theorem dX10_twice_16 : decode cX10_twice 16 = .ok (.iload 7, 2) := by decide +kernel
theorem dX10_twice_18 : decode cX10_twice 18 = .ok (.iload 6, 2) := by decide +kernel
theorem dX10_twice_20 : decode cX10_twice 20 = .ok (.if_icmp .ge 79, 3) := by decide +kernel
theorem dX10_twice_23 : decode cX10_twice 23 = .ok (.aload 5, 2) := by decide +kernel
theorem dX10_twice_25 : decode cX10_twice 25 = .ok (.iload 7, 2) := by decide +kernel
theorem dX10_twice_27 : decode cX10_twice 27 = .ok (.iaload, 1) := by decide +kernel
theorem dX10_twice_28 : decode cX10_twice 28 = .ok (.istore 8, 2) := by decide +kernel
theorem dX10_twice_30 : decode cX10_twice 30 = .ok (.iload 8, 2) := by decide +kernel
theorem dX10_twice_32 : decode cX10_twice 32 = .ok (.ifCond .eq 21, 3) := by decide +kernel
theorem dX10_twice_35 : decode cX10_twice 35 = .ok (.aload_n 0, 1) := by decide +kernel
theorem dX10_twice_36 : decode cX10_twice 36 = .ok (.iload_n 1, 1) := by decide +kernel
theorem dX10_twice_37 : decode cX10_twice 37 = .ok (.iload 8, 2) := by decide +kernel
theorem dX10_twice_39 : decode cX10_twice 39 = .ok (.invokestatic 127, 3) := by decide +kernel
theorem dX10_twice_42 : decode cX10_twice 42 = .ok (.iconst 0, 1) := by decide +kernel
theorem dX10_twice_43 : decode cX10_twice 43 = .ok (.invokevirtual 249, 3) := by decide +kernel
theorem dX10_twice_46 : decode cX10_twice 46 = .ok (.ifCond .eq 7, 3) := by decide +kernel
theorem dX10_twice_49 : decode cX10_twice 49 = .ok (.iconst 1, 1) := by decide +kernel
theorem dX10_twice_50 : decode cX10_twice 50 = .ok (.goto 4, 3) := by decide +kernel
theorem dX10_twice_53 : decode cX10_twice 53 = .ok (.iconst 0, 1) := by decide +kernel
theorem dX10_twice_54 : decode cX10_twice 54 = .ok (.istore 9, 2) := by decide +kernel
theorem dX10_twice_56 : decode cX10_twice 56 = .ok (.iload_n 3, 1) := by decide +kernel
theorem dX10_twice_57 : decode cX10_twice 57 = .ok (.ifCond .ne 8, 3) := by decide +kernel
theorem dX10_twice_60 : decode cX10_twice 60 = .ok (.iload 9, 2) := by decide +kernel
theorem dX10_twice_62 : decode cX10_twice 62 = .ok (.ifCond .eq 7, 3) := by decide +kernel
theorem dX10_twice_65 : decode cX10_twice 65 = .ok (.iconst 1, 1) := by decide +kernel
theorem dX10_twice_66 : decode cX10_twice 66 = .ok (.goto 4, 3) := by decide +kernel
theorem dX10_twice_69 : decode cX10_twice 69 = .ok (.iconst 0, 1) := by decide +kernel
theorem dX10_twice_70 : decode cX10_twice 70 = .ok (.istore_n 3, 1) := by decide +kernel
theorem dX10_twice_71 : decode cX10_twice 71 = .ok (.iload 4, 2) := by decide +kernel
theorem dX10_twice_73 : decode cX10_twice 73 = .ok (.ifCond .ne 13, 3) := by decide +kernel
theorem dX10_twice_76 : decode cX10_twice 76 = .ok (.iload 9, 2) := by decide +kernel
theorem dX10_twice_78 : decode cX10_twice 78 = .ok (.ifCond .eq 12, 3) := by decide +kernel
theorem dX10_twice_81 : decode cX10_twice 81 = .ok (.iload 8, 2) := by decide +kernel
theorem dX10_twice_83 : decode cX10_twice 83 = .ok (.ifCond .ge 7, 3) := by decide +kernel
theorem dX10_twice_86 : decode cX10_twice 86 = .ok (.iconst 1, 1) := by decide +kernel
theorem dX10_twice_87 : decode cX10_twice 87 = .ok (.goto 4, 3) := by decide +kernel
theorem dX10_twice_90 : decode cX10_twice 90 = .ok (.iconst 0, 1) := by decide +kernel
theorem dX10_twice_91 : decode cX10_twice 91 = .ok (.istore 4, 2) := by decide +kernel
theorem dX10_twice_93 : decode cX10_twice 93 = .ok (.iinc 7 1, 3) := by decide +kernel
theorem dX10_twice_96 : decode cX10_twice 96 = .ok (.goto (-80), 3) := by decide +kernel
theorem dX10_twice_99 : decode cX10_twice 99 = .ok (.iload_n 3, 1) := by decide +kernel
theorem dX10_twice_100 : decode cX10_twice 100 = .ok (.ifCond .eq 12, 3) := by decide +kernel
theorem dX10_twice_103 : decode cX10_twice 103 = .ok (.iload 4, 2) := by decide +kernel
theorem dX10_twice_105 : decode cX10_twice 105 = .ok (.ifCond .eq 7, 3) := by decide +kernel
theorem dX10_twice_108 : decode cX10_twice 108 = .ok (.iconst 1, 1) := by decide +kernel
theorem dX10_twice_109 : decode cX10_twice 109 = .ok (.goto 4, 3) := by decide +kernel
theorem dX10_twice_112 : decode cX10_twice 112 = .ok (.iconst 0, 1) := by decide +kernel
theorem dX10_twice_113 : decode cX10_twice 113 = .ok (.ireturn, 1) := by decide +kernel
theorem dX10_reaches_0 : decode cX10_reaches 0 = .ok (.iconst 0, 1) := by decide +kernel
theorem dX10_reaches_1 : decode cX10_reaches 1 = .ok (.istore 4, 2) := by decide +kernel
theorem dX10_reaches_3 : decode cX10_reaches 3 = .ok (.iload 4, 2) := by decide +kernel
theorem dX10_reaches_5 : decode cX10_reaches 5 = .ok (.bipush 6, 2) := by decide +kernel
theorem dX10_reaches_7 : decode cX10_reaches 7 = .ok (.if_icmp .ge 27, 3) := by decide +kernel
theorem dX10_reaches_10 : decode cX10_reaches 10 = .ok (.aload_n 0, 1) := by decide +kernel
theorem dX10_reaches_11 : decode cX10_reaches 11 = .ok (.getfield 59, 3) := by decide +kernel
theorem dX10_reaches_14 : decode cX10_reaches 14 = .ok (.iload 4, 2) := by decide +kernel
theorem dX10_reaches_16 : decode cX10_reaches 16 = .ok (.iload 4, 2) := by decide +kernel
theorem dX10_reaches_18 : decode cX10_reaches 18 = .ok (.iload_n 1, 1) := by decide +kernel
theorem dX10_reaches_19 : decode cX10_reaches 19 = .ok (.if_icmp .ne 7, 3) := by decide +kernel
theorem dX10_reaches_22 : decode cX10_reaches 22 = .ok (.iconst 1, 1) := by decide +kernel
theorem dX10_reaches_23 : decode cX10_reaches 23 = .ok (.goto 4, 3) := by decide +kernel
theorem dX10_reaches_26 : decode cX10_reaches 26 = .ok (.iconst 0, 1) := by decide +kernel
theorem dX10_reaches_27 : decode cX10_reaches 27 = .ok (.iastore, 1) := by decide +kernel
theorem dX10_reaches_28 : decode cX10_reaches 28 = .ok (.iinc 4 1, 3) := by decide +kernel
theorem dX10_reaches_31 : decode cX10_reaches 31 = .ok (.goto (-28), 3) := by decide +kernel
theorem dX10_reaches_34 : decode cX10_reaches 34 = .ok (.iconst 1, 1) := by decide +kernel
theorem dX10_reaches_35 : decode cX10_reaches 35 = .ok (.istore 4, 2) := by decide +kernel
theorem dX10_reaches_37 : decode cX10_reaches 37 = .ok (.iload 4, 2) := by decide +kernel
theorem dX10_reaches_39 : decode cX10_reaches 39 = .ok (.ifCond .eq 122, 3) := by decide +kernel
theorem dX10_reaches_42 : decode cX10_reaches 42 = .ok (.iconst 0, 1) := by decide +kernel
theorem dX10_reaches_43 : decode cX10_reaches 43 = .ok (.istore 4, 2) := by decide +kernel
theorem dX10_reaches_45 : decode cX10_reaches 45 = .ok (.iconst 0, 1) := by decide +kernel
theorem dX10_reaches_46 : decode cX10_reaches 46 = .ok (.istore 5, 2) := by decide +kernel
theorem dX10_reaches_48 : decode cX10_reaches 48 = .ok (.iload 5, 2) := by decide +kernel
theorem dX10_reaches_50 : decode cX10_reaches 50 = .ok (.aload_n 0, 1) := by decide +kernel
theorem dX10_reaches_51 : decode cX10_reaches 51 = .ok (.getfield 9, 3) := by decide +kernel
theorem dX10_reaches_54 : decode cX10_reaches 54 = .ok (.sipush 216, 3) := by decide +kernel
theorem dX10_reaches_57 : decode cX10_reaches 57 = .ok (.iaload, 1) := by decide +kernel
theorem dX10_reaches_58 : decode cX10_reaches 58 = .ok (.iconst 3, 1) := by decide +kernel
theorem dX10_reaches_59 : decode cX10_reaches 59 = .ok (.imul, 1) := by decide +kernel
theorem dX10_reaches_60 : decode cX10_reaches 60 = .ok (.if_icmp .ge 98, 3) := by decide +kernel
theorem dX10_reaches_63 : decode cX10_reaches 63 = .ok (.aload_n 0, 1) := by decide +kernel
theorem dX10_reaches_64 : decode cX10_reaches 64 = .ok (.iload 5, 2) := by decide +kernel
theorem dX10_reaches_66 : decode cX10_reaches 66 = .ok (.iconst 3, 1) := by decide +kernel
theorem dX10_reaches_67 : decode cX10_reaches 67 = .ok (.idiv, 1) := by decide +kernel
theorem dX10_reaches_68 : decode cX10_reaches 68 = .ok (.iload 5, 2) := by decide +kernel
theorem dX10_reaches_70 : decode cX10_reaches 70 = .ok (.iconst 3, 1) := by decide +kernel
theorem dX10_reaches_71 : decode cX10_reaches 71 = .ok (.irem, 1) := by decide +kernel
theorem dX10_reaches_72 : decode cX10_reaches 72 = .ok (.invokevirtual 119, 3) := by decide +kernel
theorem dX10_reaches_75 : decode cX10_reaches 75 = .ok (.istore 6, 2) := by decide +kernel
theorem dX10_reaches_77 : decode cX10_reaches 77 = .ok (.iload 6, 2) := by decide +kernel
theorem dX10_reaches_79 : decode cX10_reaches 79 = .ok (.ifCond .ne 7, 3) := by decide +kernel
theorem dX10_reaches_82 : decode cX10_reaches 82 = .ok (.iconst 0, 1) := by decide +kernel
theorem dX10_reaches_83 : decode cX10_reaches 83 = .ok (.goto 13, 3) := by decide +kernel
theorem dX10_reaches_86 : decode cX10_reaches 86 = .ok (.aload_n 0, 1) := by decide +kernel
theorem dX10_reaches_87 : decode cX10_reaches 87 = .ok (.getfield 59, 3) := by decide +kernel
theorem dX10_reaches_90 : decode cX10_reaches 90 = .ok (.iload 6, 2) := by decide +kernel
theorem dX10_reaches_92 : decode cX10_reaches 92 = .ok (.invokestatic 127, 3) := by decide +kernel
theorem dX10_reaches_95 : decode cX10_reaches 95 = .ok (.iaload, 1) := by decide +kernel
theorem dX10_reaches_96 : decode cX10_reaches 96 = .ok (.istore 7, 2) := by decide +kernel
theorem dX10_reaches_98 : decode cX10_reaches 98 = .ok (.iload 7, 2) := by decide +kernel
theorem dX10_reaches_100 : decode cX10_reaches 100 = .ok (.ifCond .le 12, 3) := by decide +kernel
theorem dX10_reaches_103 : decode cX10_reaches 103 = .ok (.iload 6, 2) := by decide +kernel
theorem dX10_reaches_105 : decode cX10_reaches 105 = .ok (.ifCond .ge 7, 3) := by decide +kernel
theorem dX10_reaches_108 : decode cX10_reaches 108 = .ok (.iconst 2, 1) := by decide +kernel
theorem dX10_reaches_109 : decode cX10_reaches 109 = .ok (.goto 5, 3) := by decide +kernel
theorem dX10_reaches_112 : decode cX10_reaches 112 = .ok (.iload 7, 2) := by decide +kernel
theorem dX10_reaches_114 : decode cX10_reaches 114 = .ok (.istore 8, 2) := by decide +kernel
theorem dX10_reaches_116 : decode cX10_reaches 116 = .ok (.iload 8, 2) := by decide +kernel
theorem dX10_reaches_118 : decode cX10_reaches 118 = .ok (.aload_n 0, 1) := by decide +kernel
theorem dX10_reaches_119 : decode cX10_reaches 119 = .ok (.getfield 59, 3) := by decide +kernel
theorem dX10_reaches_122 : decode cX10_reaches 122 = .ok (.aload_n 0, 1) := by decide +kernel
theorem dX10_reaches_123 : decode cX10_reaches 123 = .ok (.iload 5, 2) := by decide +kernel
theorem dX10_reaches_125 : decode cX10_reaches 125 = .ok (.iconst 3, 1) := by decide +kernel
theorem dX10_reaches_126 : decode cX10_reaches 126 = .ok (.idiv, 1) := by decide +kernel
theorem dX10_reaches_127 : decode cX10_reaches 127 = .ok (.invokevirtual 130, 3) := by decide +kernel
theorem dX10_reaches_130 : decode cX10_reaches 130 = .ok (.iaload, 1) := by decide +kernel
theorem dX10_reaches_131 : decode cX10_reaches 131 = .ok (.if_icmp .le 21, 3) := by decide +kernel
theorem dX10_reaches_134 : decode cX10_reaches 134 = .ok (.aload_n 0, 1) := by decide +kernel
theorem dX10_reaches_135 : decode cX10_reaches 135 = .ok (.getfield 59, 3) := by decide +kernel
theorem dX10_reaches_138 : decode cX10_reaches 138 = .ok (.aload_n 0, 1) := by decide +kernel
theorem dX10_reaches_139 : decode cX10_reaches 139 = .ok (.iload 5, 2) := by decide +kernel
theorem dX10_reaches_141 : decode cX10_reaches 141 = .ok (.iconst 3, 1) := by decide +kernel
theorem dX10_reaches_142 : decode cX10_reaches 142 = .ok (.idiv, 1) := by decide +kernel
theorem dX10_reaches_143 : decode cX10_reaches 143 = .ok (.invokevirtual 130, 3) := by decide +kernel
theorem dX10_reaches_146 : decode cX10_reaches 146 = .ok (.iload 8, 2) := by decide +kernel
theorem dX10_reaches_148 : decode cX10_reaches 148 = .ok (.iastore, 1) := by decide +kernel
theorem dX10_reaches_149 : decode cX10_reaches 149 = .ok (.iconst 1, 1) := by decide +kernel
theorem dX10_reaches_150 : decode cX10_reaches 150 = .ok (.istore 4, 2) := by decide +kernel
theorem dX10_reaches_152 : decode cX10_reaches 152 = .ok (.iinc 5 1, 3) := by decide +kernel
theorem dX10_reaches_155 : decode cX10_reaches 155 = .ok (.goto (-107), 3) := by decide +kernel
theorem dX10_reaches_158 : decode cX10_reaches 158 = .ok (.goto (-121), 3) := by decide +kernel
theorem dX10_reaches_161 : decode cX10_reaches 161 = .ok (.aload_n 0, 1) := by decide +kernel
theorem dX10_reaches_162 : decode cX10_reaches 162 = .ok (.getfield 59, 3) := by decide +kernel
theorem dX10_reaches_165 : decode cX10_reaches 165 = .ok (.iload_n 2, 1) := by decide +kernel
theorem dX10_reaches_166 : decode cX10_reaches 166 = .ok (.iaload, 1) := by decide +kernel
theorem dX10_reaches_167 : decode cX10_reaches 167 = .ok (.iload_n 3, 1) := by decide +kernel
theorem dX10_reaches_168 : decode cX10_reaches 168 = .ok (.ifCond .eq 7, 3) := by decide +kernel
theorem dX10_reaches_171 : decode cX10_reaches 171 = .ok (.iconst 2, 1) := by decide +kernel
theorem dX10_reaches_172 : decode cX10_reaches 172 = .ok (.goto 4, 3) := by decide +kernel
theorem dX10_reaches_175 : decode cX10_reaches 175 = .ok (.iconst 1, 1) := by decide +kernel
theorem dX10_reaches_176 : decode cX10_reaches 176 = .ok (.if_icmp .lt 7, 3) := by decide +kernel
theorem dX10_reaches_179 : decode cX10_reaches 179 = .ok (.iconst 1, 1) := by decide +kernel
theorem dX10_reaches_180 : decode cX10_reaches 180 = .ok (.goto 4, 3) := by decide +kernel
theorem dX10_reaches_183 : decode cX10_reaches 183 = .ok (.iconst 0, 1) := by decide +kernel
theorem dX10_reaches_184 : decode cX10_reaches 184 = .ok (.ireturn, 1) := by decide +kernel
theorem dX10_layers__0 : decode cX10_layers_ 0 = .ok (.aload_n 0, 1) := by decide +kernel
theorem dX10_layers__1 : decode cX10_layers_ 1 = .ok (.iconst 0, 1) := by decide +kernel
theorem dX10_layers__2 : decode cX10_layers_ 2 = .ok (.putfield 76, 3) := by decide +kernel
theorem dX10_layers__5 : decode cX10_layers_ 5 = .ok (.aload_n 0, 1) := by decide +kernel
theorem dX10_layers__6 : decode cX10_layers_ 6 = .ok (.invokevirtual 159, 3) := by decide +kernel
theorem dX10_layers__9 : decode cX10_layers_ 9 = .ok (.ireturn, 1) := by decide +kernel
theorem dX10_rounds_0 : decode cX10_rounds 0 = .ok (.aload_n 0, 1) := by decide +kernel
theorem dX10_rounds_1 : decode cX10_rounds 1 = .ok (.iload_n 1, 1) := by decide +kernel
theorem dX10_rounds_2 : decode cX10_rounds 2 = .ok (.iconst 0, 1) := by decide +kernel
theorem dX10_rounds_3 : decode cX10_rounds 3 = .ok (.aload_n 0, 1) := by decide +kernel
theorem dX10_rounds_4 : decode cX10_rounds 4 = .ok (.invokevirtual 159, 3) := by decide +kernel
theorem dX10_rounds_7 : decode cX10_rounds 7 = .ok (.iconst 1, 1) := by decide +kernel
theorem dX10_rounds_8 : decode cX10_rounds 8 = .ok (.isub, 1) := by decide +kernel
theorem dX10_rounds_9 : decode cX10_rounds 9 = .ok (.invokestatic 98, 3) := by decide +kernel
theorem dX10_rounds_12 : decode cX10_rounds 12 = .ok (.ifCond .eq 7, 3) := by decide +kernel
theorem dX10_rounds_15 : decode cX10_rounds 15 = .ok (.iconst 0, 1) := by decide +kernel
theorem dX10_rounds_16 : decode cX10_rounds 16 = .ok (.goto 4, 3) := by decide +kernel
theorem dX10_rounds_19 : decode cX10_rounds 19 = .ok (.iconst 1, 1) := by decide +kernel
theorem dX10_rounds_20 : decode cX10_rounds 20 = .ok (.putfield 76, 3) := by decide +kernel
theorem dX10_rounds_23 : decode cX10_rounds 23 = .ok (.aload_n 0, 1) := by decide +kernel
theorem dX10_rounds_24 : decode cX10_rounds 24 = .ok (.getfield 76, 3) := by decide +kernel
theorem dX10_rounds_27 : decode cX10_rounds 27 = .ok (.ifCond .le 5, 3) := by decide +kernel
theorem dX10_rounds_30 : decode cX10_rounds 30 = .ok (.iconst 0, 1) := by decide +kernel
theorem dX10_rounds_31 : decode cX10_rounds 31 = .ok (.ireturn, 1) := by decide +kernel
theorem dX10_rounds_32 : decode cX10_rounds 32 = .ok (.aload_n 0, 1) := by decide +kernel
theorem dX10_rounds_33 : decode cX10_rounds 33 = .ok (.invokevirtual 166, 3) := by decide +kernel
theorem dX10_rounds_36 : decode cX10_rounds 36 = .ok (.aload_n 0, 1) := by decide +kernel
theorem dX10_rounds_37 : decode cX10_rounds 37 = .ok (.getfield 37, 3) := by decide +kernel
theorem dX10_rounds_40 : decode cX10_rounds 40 = .ok (.iload_n 1, 1) := by decide +kernel
theorem dX10_rounds_41 : decode cX10_rounds 41 = .ok (.iaload, 1) := by decide +kernel
theorem dX10_rounds_42 : decode cX10_rounds 42 = .ok (.ireturn, 1) := by decide +kernel
theorem dX10_fresh_0 : decode cX10_fresh 0 = .ok (.aload_n 0, 1) := by decide +kernel
theorem dX10_fresh_1 : decode cX10_fresh 1 = .ok (.iload_n 1, 1) := by decide +kernel
theorem dX10_fresh_2 : decode cX10_fresh 2 = .ok (.invokevirtual 256, 3) := by decide +kernel
theorem dX10_fresh_5 : decode cX10_fresh 5 = .ok (.istore_n 3, 1) := by decide +kernel
theorem dX10_fresh_6 : decode cX10_fresh 6 = .ok (.aload_n 0, 1) := by decide +kernel
theorem dX10_fresh_7 : decode cX10_fresh 7 = .ok (.aload_n 0, 1) := by decide +kernel
theorem dX10_fresh_8 : decode cX10_fresh 8 = .ok (.getfield 76, 3) := by decide +kernel
theorem dX10_fresh_11 : decode cX10_fresh 11 = .ok (.ifCond .ne 16, 3) := by decide +kernel
theorem dX10_fresh_14 : decode cX10_fresh 14 = .ok (.iload_n 2, 1) := by decide +kernel
theorem dX10_fresh_15 : decode cX10_fresh 15 = .ok (.iconst 1, 1) := by decide +kernel
theorem dX10_fresh_16 : decode cX10_fresh 16 = .ok (.iload_n 3, 1) := by decide +kernel
theorem dX10_fresh_17 : decode cX10_fresh 17 = .ok (.invokestatic 98, 3) := by decide +kernel
theorem dX10_fresh_20 : decode cX10_fresh 20 = .ok (.ifCond .ne 7, 3) := by decide +kernel
theorem dX10_fresh_23 : decode cX10_fresh 23 = .ok (.iconst 1, 1) := by decide +kernel
theorem dX10_fresh_24 : decode cX10_fresh 24 = .ok (.goto 7, 3) := by decide +kernel
theorem dX10_fresh_27 : decode cX10_fresh 27 = .ok (.aload_n 0, 1) := by decide +kernel
theorem dX10_fresh_28 : decode cX10_fresh 28 = .ok (.getfield 76, 3) := by decide +kernel
theorem dX10_fresh_31 : decode cX10_fresh 31 = .ok (.putfield 76, 3) := by decide +kernel
theorem dX10_fresh_34 : decode cX10_fresh 34 = .ok (.iload_n 2, 1) := by decide +kernel
theorem dX10_fresh_35 : decode cX10_fresh 35 = .ok (.iconst 1, 1) := by decide +kernel
theorem dX10_fresh_36 : decode cX10_fresh 36 = .ok (.isub, 1) := by decide +kernel
theorem dX10_fresh_37 : decode cX10_fresh 37 = .ok (.istore 4, 2) := by decide +kernel
theorem dX10_fresh_39 : decode cX10_fresh 39 = .ok (.iconst 0, 1) := by decide +kernel
theorem dX10_fresh_40 : decode cX10_fresh 40 = .ok (.istore 5, 2) := by decide +kernel
theorem dX10_fresh_42 : decode cX10_fresh 42 = .ok (.iload 5, 2) := by decide +kernel
theorem dX10_fresh_44 : decode cX10_fresh 44 = .ok (.iload_n 1, 1) := by decide +kernel
theorem dX10_fresh_45 : decode cX10_fresh 45 = .ok (.if_icmp .ge 28, 3) := by decide +kernel
theorem dX10_fresh_48 : decode cX10_fresh 48 = .ok (.aload_n 0, 1) := by decide +kernel
theorem dX10_fresh_49 : decode cX10_fresh 49 = .ok (.getfield 76, 3) := by decide +kernel
theorem dX10_fresh_52 : decode cX10_fresh 52 = .ok (.ifCond .ne 21, 3) := by decide +kernel
theorem dX10_fresh_55 : decode cX10_fresh 55 = .ok (.iload 4, 2) := by decide +kernel
theorem dX10_fresh_57 : decode cX10_fresh 57 = .ok (.aload_n 0, 1) := by decide +kernel
theorem dX10_fresh_58 : decode cX10_fresh 58 = .ok (.getfield 37, 3) := by decide +kernel
theorem dX10_fresh_61 : decode cX10_fresh 61 = .ok (.iload 5, 2) := by decide +kernel
theorem dX10_fresh_63 : decode cX10_fresh 63 = .ok (.iaload, 1) := by decide +kernel
theorem dX10_fresh_64 : decode cX10_fresh 64 = .ok (.iadd, 1) := by decide +kernel
theorem dX10_fresh_65 : decode cX10_fresh 65 = .ok (.istore 4, 2) := by decide +kernel
theorem dX10_fresh_67 : decode cX10_fresh 67 = .ok (.iinc 5 1, 3) := by decide +kernel
theorem dX10_fresh_70 : decode cX10_fresh 70 = .ok (.goto (-28), 3) := by decide +kernel
theorem dX10_fresh_73 : decode cX10_fresh 73 = .ok (.aload_n 0, 1) := by decide +kernel
theorem dX10_fresh_74 : decode cX10_fresh 74 = .ok (.getfield 76, 3) := by decide +kernel
theorem dX10_fresh_77 : decode cX10_fresh 77 = .ok (.ifCond .le 7, 3) := by decide +kernel
theorem dX10_fresh_80 : decode cX10_fresh 80 = .ok (.iconst 0, 1) := by decide +kernel
theorem dX10_fresh_81 : decode cX10_fresh 81 = .ok (.goto 10, 3) := by decide +kernel
theorem dX10_fresh_84 : decode cX10_fresh 84 = .ok (.aload_n 0, 1) := by decide +kernel
theorem dX10_fresh_85 : decode cX10_fresh 85 = .ok (.getfield 34, 3) := by decide +kernel
theorem dX10_fresh_88 : decode cX10_fresh 88 = .ok (.iload 4, 2) := by decide +kernel
theorem dX10_fresh_90 : decode cX10_fresh 90 = .ok (.iaload, 1) := by decide +kernel
theorem dX10_fresh_91 : decode cX10_fresh 91 = .ok (.ireturn, 1) := by decide +kernel
theorem dX10_says_0 : decode cX10_says 0 = .ok (.aload_n 0, 1) := by decide +kernel
theorem dX10_says_1 : decode cX10_says 1 = .ok (.getfield 62, 3) := by decide +kernel
theorem dX10_says_4 : decode cX10_says 4 = .ok (.aload_n 0, 1) := by decide +kernel
theorem dX10_says_5 : decode cX10_says 5 = .ok (.getfield 259, 3) := by decide +kernel
theorem dX10_says_8 : decode cX10_says 8 = .ok (.iload_n 1, 1) := by decide +kernel
theorem dX10_says_9 : decode cX10_says 9 = .ok (.castore, 1) := by decide +kernel
theorem dX10_says_10 : decode cX10_says 10 = .ok (.aload_n 0, 1) := by decide +kernel
theorem dX10_says_11 : decode cX10_says 11 = .ok (.dup, 1) := by decide +kernel
theorem dX10_says_12 : decode cX10_says 12 = .ok (.getfield 259, 3) := by decide +kernel
theorem dX10_says_15 : decode cX10_says 15 = .ok (.iconst 1, 1) := by decide +kernel
theorem dX10_says_16 : decode cX10_says 16 = .ok (.iadd, 1) := by decide +kernel
theorem dX10_says_17 : decode cX10_says 17 = .ok (.putfield 259, 3) := by decide +kernel
theorem dX10_says_20 : decode cX10_says 20 = .ok (.return_, 1) := by decide +kernel
theorem dX10_saysFact_0 : decode cX10_saysFact 0 = .ok (.aload_n 0, 1) := by decide +kernel
theorem dX10_saysFact_1 : decode cX10_saysFact 1 = .ok (.bipush 48, 2) := by decide +kernel
theorem dX10_saysFact_3 : decode cX10_saysFact 3 = .ok (.iload_n 1, 1) := by decide +kernel
theorem dX10_saysFact_4 : decode cX10_saysFact 4 = .ok (.bipush 36, 2) := by decide +kernel
theorem dX10_saysFact_6 : decode cX10_saysFact 6 = .ok (.idiv, 1) := by decide +kernel
theorem dX10_saysFact_7 : decode cX10_saysFact 7 = .ok (.iadd, 1) := by decide +kernel
theorem dX10_saysFact_8 : decode cX10_saysFact 8 = .ok (.i2c, 1) := by decide +kernel
theorem dX10_saysFact_9 : decode cX10_saysFact 9 = .ok (.invokevirtual 262, 3) := by decide +kernel
theorem dX10_saysFact_12 : decode cX10_saysFact 12 = .ok (.aload_n 0, 1) := by decide +kernel
theorem dX10_saysFact_13 : decode cX10_saysFact 13 = .ok (.bipush 97, 2) := by decide +kernel
theorem dX10_saysFact_15 : decode cX10_saysFact 15 = .ok (.iload_n 1, 1) := by decide +kernel
theorem dX10_saysFact_16 : decode cX10_saysFact 16 = .ok (.bipush 6, 2) := by decide +kernel
theorem dX10_saysFact_18 : decode cX10_saysFact 18 = .ok (.idiv, 1) := by decide +kernel
theorem dX10_saysFact_19 : decode cX10_saysFact 19 = .ok (.bipush 6, 2) := by decide +kernel
theorem dX10_saysFact_21 : decode cX10_saysFact 21 = .ok (.irem, 1) := by decide +kernel
theorem dX10_saysFact_22 : decode cX10_saysFact 22 = .ok (.iadd, 1) := by decide +kernel
theorem dX10_saysFact_23 : decode cX10_saysFact 23 = .ok (.i2c, 1) := by decide +kernel
theorem dX10_saysFact_24 : decode cX10_saysFact 24 = .ok (.invokevirtual 262, 3) := by decide +kernel
theorem dX10_saysFact_27 : decode cX10_saysFact 27 = .ok (.aload_n 0, 1) := by decide +kernel
theorem dX10_saysFact_28 : decode cX10_saysFact 28 = .ok (.bipush 97, 2) := by decide +kernel
theorem dX10_saysFact_30 : decode cX10_saysFact 30 = .ok (.iload_n 1, 1) := by decide +kernel
theorem dX10_saysFact_31 : decode cX10_saysFact 31 = .ok (.bipush 6, 2) := by decide +kernel
theorem dX10_saysFact_33 : decode cX10_saysFact 33 = .ok (.irem, 1) := by decide +kernel
theorem dX10_saysFact_34 : decode cX10_saysFact 34 = .ok (.iadd, 1) := by decide +kernel
theorem dX10_saysFact_35 : decode cX10_saysFact 35 = .ok (.i2c, 1) := by decide +kernel
theorem dX10_saysFact_36 : decode cX10_saysFact 36 = .ok (.invokevirtual 262, 3) := by decide +kernel
theorem dX10_saysFact_39 : decode cX10_saysFact 39 = .ok (.return_, 1) := by decide +kernel
theorem dX10_line_0 : decode cX10_line 0 = .ok (.aload_n 0, 1) := by decide +kernel
theorem dX10_line_1 : decode cX10_line 1 = .ok (.iload_n 1, 1) := by decide +kernel
theorem dX10_line_2 : decode cX10_line 2 = .ok (.iload_n 2, 1) := by decide +kernel
theorem dX10_line_3 : decode cX10_line 3 = .ok (.iload_n 3, 1) := by decide +kernel
theorem dX10_line_4 : decode cX10_line 4 = .ok (.invokestatic 172, 3) := by decide +kernel
theorem dX10_line_7 : decode cX10_line 7 = .ok (.ifCond .eq 7, 3) := by decide +kernel
theorem dX10_line_10 : decode cX10_line 10 = .ok (.iconst 0, 1) := by decide +kernel
theorem dX10_line_11 : decode cX10_line 11 = .ok (.goto 4, 3) := by decide +kernel
theorem dX10_line_14 : decode cX10_line 14 = .ok (.iconst 1, 1) := by decide +kernel
theorem dX10_line_15 : decode cX10_line 15 = .ok (.putfield 76, 3) := by decide +kernel
theorem dX10_line_18 : decode cX10_line 18 = .ok (.aload_n 0, 1) := by decide +kernel
theorem dX10_line_19 : decode cX10_line 19 = .ok (.getfield 76, 3) := by decide +kernel
theorem dX10_line_22 : decode cX10_line 22 = .ok (.ifCond .le 5, 3) := by decide +kernel
theorem dX10_line_25 : decode cX10_line 25 = .ok (.iconst 0, 1) := by decide +kernel
theorem dX10_line_26 : decode cX10_line 26 = .ok (.ireturn, 1) := by decide +kernel
theorem dX10_line_27 : decode cX10_line 27 = .ok (.aload_n 0, 1) := by decide +kernel
theorem dX10_line_28 : decode cX10_line 28 = .ok (.invokevirtual 166, 3) := by decide +kernel
theorem dX10_line_31 : decode cX10_line 31 = .ok (.iload_n 1, 1) := by decide +kernel
theorem dX10_line_32 : decode cX10_line 32 = .ok (.iload_n 2, 1) := by decide +kernel
theorem dX10_line_33 : decode cX10_line 33 = .ok (.iload_n 3, 1) := by decide +kernel
theorem dX10_line_34 : decode cX10_line 34 = .ok (.invokestatic 142, 3) := by decide +kernel
theorem dX10_line_37 : decode cX10_line 37 = .ok (.istore 4, 2) := by decide +kernel
theorem dX10_line_39 : decode cX10_line 39 = .ok (.aload_n 0, 1) := by decide +kernel
theorem dX10_line_40 : decode cX10_line 40 = .ok (.getfield 25, 3) := by decide +kernel
theorem dX10_line_43 : decode cX10_line 43 = .ok (.iload 4, 2) := by decide +kernel
theorem dX10_line_45 : decode cX10_line 45 = .ok (.iaload, 1) := by decide +kernel
theorem dX10_line_46 : decode cX10_line 46 = .ok (.ifCond .ge 9, 3) := by decide +kernel
theorem dX10_line_49 : decode cX10_line 49 = .ok (.aload_n 0, 1) := by decide +kernel
theorem dX10_line_50 : decode cX10_line 50 = .ok (.iconst 2, 1) := by decide +kernel
theorem dX10_line_51 : decode cX10_line 51 = .ok (.invokevirtual 175, 3) := by decide +kernel
theorem dX10_line_54 : decode cX10_line 54 = .ok (.ireturn, 1) := by decide +kernel
theorem dX10_line_55 : decode cX10_line 55 = .ok (.aload_n 0, 1) := by decide +kernel
theorem dX10_line_56 : decode cX10_line 56 = .ok (.iconst 0, 1) := by decide +kernel
theorem dX10_line_57 : decode cX10_line 57 = .ok (.putfield 259, 3) := by decide +kernel
theorem dX10_line_60 : decode cX10_line 60 = .ok (.aload_n 0, 1) := by decide +kernel
theorem dX10_line_61 : decode cX10_line 61 = .ok (.iload 4, 2) := by decide +kernel
theorem dX10_line_63 : decode cX10_line 63 = .ok (.invokevirtual 266, 3) := by decide +kernel
theorem dX10_line_66 : decode cX10_line 66 = .ok (.aload_n 0, 1) := by decide +kernel
theorem dX10_line_67 : decode cX10_line 67 = .ok (.getfield 25, 3) := by decide +kernel
theorem dX10_line_70 : decode cX10_line 70 = .ok (.iload 4, 2) := by decide +kernel
theorem dX10_line_72 : decode cX10_line 72 = .ok (.iaload, 1) := by decide +kernel
theorem dX10_line_73 : decode cX10_line 73 = .ok (.ifCond .ne 14, 3) := by decide +kernel
theorem dX10_line_76 : decode cX10_line 76 = .ok (.aload_n 0, 1) := by decide +kernel
theorem dX10_line_77 : decode cX10_line 77 = .ok (.bipush 46, 2) := by decide +kernel
theorem dX10_line_79 : decode cX10_line 79 = .ok (.invokevirtual 262, 3) := by decide +kernel
theorem dX10_line_82 : decode cX10_line 82 = .ok (.aload_n 0, 1) := by decide +kernel
theorem dX10_line_83 : decode cX10_line 83 = .ok (.getfield 259, 3) := by decide +kernel
theorem dX10_line_86 : decode cX10_line 86 = .ok (.ireturn, 1) := by decide +kernel
theorem dX10_line_87 : decode cX10_line 87 = .ok (.aload_n 0, 1) := by decide +kernel
theorem dX10_line_88 : decode cX10_line 88 = .ok (.bipush 60, 2) := by decide +kernel
theorem dX10_line_90 : decode cX10_line 90 = .ok (.invokevirtual 262, 3) := by decide +kernel
theorem dX10_line_93 : decode cX10_line 93 = .ok (.aload_n 0, 1) := by decide +kernel
theorem dX10_line_94 : decode cX10_line 94 = .ok (.bipush 48, 2) := by decide +kernel
theorem dX10_line_96 : decode cX10_line 96 = .ok (.aload_n 0, 1) := by decide +kernel
theorem dX10_line_97 : decode cX10_line 97 = .ok (.getfield 28, 3) := by decide +kernel
theorem dX10_line_100 : decode cX10_line 100 = .ok (.iload 4, 2) := by decide +kernel
theorem dX10_line_102 : decode cX10_line 102 = .ok (.iaload, 1) := by decide +kernel
theorem dX10_line_103 : decode cX10_line 103 = .ok (.iadd, 1) := by decide +kernel
theorem dX10_line_104 : decode cX10_line 104 = .ok (.i2c, 1) := by decide +kernel
theorem dX10_line_105 : decode cX10_line 105 = .ok (.invokevirtual 262, 3) := by decide +kernel
theorem dX10_line_108 : decode cX10_line 108 = .ok (.aload_n 0, 1) := by decide +kernel
theorem dX10_line_109 : decode cX10_line 109 = .ok (.bipush 58, 2) := by decide +kernel
theorem dX10_line_111 : decode cX10_line 111 = .ok (.invokevirtual 262, 3) := by decide +kernel
theorem dX10_line_114 : decode cX10_line 114 = .ok (.aload_n 0, 1) := by decide +kernel
theorem dX10_line_115 : decode cX10_line 115 = .ok (.iload 4, 2) := by decide +kernel
theorem dX10_line_117 : decode cX10_line 117 = .ok (.invokevirtual 199, 3) := by decide +kernel
theorem dX10_line_120 : decode cX10_line 120 = .ok (.istore 5, 2) := by decide +kernel
theorem dX10_line_122 : decode cX10_line 122 = .ok (.iconst 0, 1) := by decide +kernel
theorem dX10_line_123 : decode cX10_line 123 = .ok (.istore 6, 2) := by decide +kernel
theorem dX10_line_125 : decode cX10_line 125 = .ok (.iload 6, 2) := by decide +kernel
theorem dX10_line_127 : decode cX10_line 127 = .ok (.iload 5, 2) := by decide +kernel
theorem dX10_line_129 : decode cX10_line 129 = .ok (.if_icmp .ge 31, 3) := by decide +kernel
theorem dX10_line_132 : decode cX10_line 132 = .ok (.iload 6, 2) := by decide +kernel
theorem dX10_line_134 : decode cX10_line 134 = .ok (.ifCond .le 9, 3) := by decide +kernel
theorem dX10_line_137 : decode cX10_line 137 = .ok (.aload_n 0, 1) := by decide +kernel
theorem dX10_line_138 : decode cX10_line 138 = .ok (.bipush 44, 2) := by decide +kernel
theorem dX10_line_140 : decode cX10_line 140 = .ok (.invokevirtual 262, 3) := by decide +kernel
theorem dX10_line_143 : decode cX10_line 143 = .ok (.aload_n 0, 1) := by decide +kernel
theorem dX10_line_144 : decode cX10_line 144 = .ok (.aload_n 0, 1) := by decide +kernel
theorem dX10_line_145 : decode cX10_line 145 = .ok (.getfield 43, 3) := by decide +kernel
theorem dX10_line_148 : decode cX10_line 148 = .ok (.iload 6, 2) := by decide +kernel
theorem dX10_line_150 : decode cX10_line 150 = .ok (.iaload, 1) := by decide +kernel
theorem dX10_line_151 : decode cX10_line 151 = .ok (.invokevirtual 266, 3) := by decide +kernel
theorem dX10_line_154 : decode cX10_line 154 = .ok (.iinc 6 1, 3) := by decide +kernel
theorem dX10_line_157 : decode cX10_line 157 = .ok (.goto (-32), 3) := by decide +kernel
theorem dX10_line_160 : decode cX10_line 160 = .ok (.aload_n 0, 1) := by decide +kernel
theorem dX10_line_161 : decode cX10_line 161 = .ok (.getfield 259, 3) := by decide +kernel
theorem dX10_line_164 : decode cX10_line 164 = .ok (.ireturn, 1) := by decide +kernel
theorem dX10_ruleLine_0 : decode cX10_ruleLine 0 = .ok (.aload_n 0, 1) := by decide +kernel
theorem dX10_ruleLine_1 : decode cX10_ruleLine 1 = .ok (.aload_n 0, 1) := by decide +kernel
theorem dX10_ruleLine_2 : decode cX10_ruleLine 2 = .ok (.iload_n 1, 1) := by decide +kernel
theorem dX10_ruleLine_3 : decode cX10_ruleLine 3 = .ok (.invokevirtual 233, 3) := by decide +kernel
theorem dX10_ruleLine_6 : decode cX10_ruleLine 6 = .ok (.ifCond .eq 7, 3) := by decide +kernel
theorem dX10_ruleLine_9 : decode cX10_ruleLine 9 = .ok (.iconst 0, 1) := by decide +kernel
theorem dX10_ruleLine_10 : decode cX10_ruleLine 10 = .ok (.goto 4, 3) := by decide +kernel
theorem dX10_ruleLine_13 : decode cX10_ruleLine 13 = .ok (.iconst 1, 1) := by decide +kernel
theorem dX10_ruleLine_14 : decode cX10_ruleLine 14 = .ok (.putfield 76, 3) := by decide +kernel
theorem dX10_ruleLine_17 : decode cX10_ruleLine 17 = .ok (.aload_n 0, 1) := by decide +kernel
theorem dX10_ruleLine_18 : decode cX10_ruleLine 18 = .ok (.getfield 76, 3) := by decide +kernel
theorem dX10_ruleLine_21 : decode cX10_ruleLine 21 = .ok (.ifCond .le 5, 3) := by decide +kernel
theorem dX10_ruleLine_24 : decode cX10_ruleLine 24 = .ok (.iconst 0, 1) := by decide +kernel
theorem dX10_ruleLine_25 : decode cX10_ruleLine 25 = .ok (.ireturn, 1) := by decide +kernel
theorem dX10_ruleLine_26 : decode cX10_ruleLine 26 = .ok (.aload_n 0, 1) := by decide +kernel
theorem dX10_ruleLine_27 : decode cX10_ruleLine 27 = .ok (.iconst 0, 1) := by decide +kernel
theorem dX10_ruleLine_28 : decode cX10_ruleLine 28 = .ok (.putfield 259, 3) := by decide +kernel
theorem dX10_ruleLine_31 : decode cX10_ruleLine 31 = .ok (.aload_n 0, 1) := by decide +kernel
theorem dX10_ruleLine_32 : decode cX10_ruleLine 32 = .ok (.bipush 48, 2) := by decide +kernel
theorem dX10_ruleLine_34 : decode cX10_ruleLine 34 = .ok (.aload_n 0, 1) := by decide +kernel
theorem dX10_ruleLine_35 : decode cX10_ruleLine 35 = .ok (.iload_n 1, 1) := by decide +kernel
theorem dX10_ruleLine_36 : decode cX10_ruleLine 36 = .ok (.invokevirtual 130, 3) := by decide +kernel
theorem dX10_ruleLine_39 : decode cX10_ruleLine 39 = .ok (.iadd, 1) := by decide +kernel
theorem dX10_ruleLine_40 : decode cX10_ruleLine 40 = .ok (.i2c, 1) := by decide +kernel
theorem dX10_ruleLine_41 : decode cX10_ruleLine 41 = .ok (.invokevirtual 262, 3) := by decide +kernel
theorem dX10_ruleLine_44 : decode cX10_ruleLine 44 = .ok (.aload_n 0, 1) := by decide +kernel
theorem dX10_ruleLine_45 : decode cX10_ruleLine 45 = .ok (.bipush 61, 2) := by decide +kernel
theorem dX10_ruleLine_47 : decode cX10_ruleLine 47 = .ok (.invokevirtual 262, 3) := by decide +kernel
theorem dX10_ruleLine_50 : decode cX10_ruleLine 50 = .ok (.iconst 0, 1) := by decide +kernel
theorem dX10_ruleLine_51 : decode cX10_ruleLine 51 = .ok (.istore_n 2, 1) := by decide +kernel
theorem dX10_ruleLine_52 : decode cX10_ruleLine 52 = .ok (.iload_n 2, 1) := by decide +kernel
theorem dX10_ruleLine_53 : decode cX10_ruleLine 53 = .ok (.aload_n 0, 1) := by decide +kernel
theorem dX10_ruleLine_54 : decode cX10_ruleLine 54 = .ok (.iload_n 1, 1) := by decide +kernel
theorem dX10_ruleLine_55 : decode cX10_ruleLine 55 = .ok (.iconst 0, 1) := by decide +kernel
theorem dX10_ruleLine_56 : decode cX10_ruleLine 56 = .ok (.invokevirtual 239, 3) := by decide +kernel
theorem dX10_ruleLine_59 : decode cX10_ruleLine 59 = .ok (.if_icmp .ge 64, 3) := by decide +kernel
theorem dX10_ruleLine_62 : decode cX10_ruleLine 62 = .ok (.aload_n 0, 1) := by decide +kernel
theorem dX10_ruleLine_63 : decode cX10_ruleLine 63 = .ok (.iload_n 1, 1) := by decide +kernel
theorem dX10_ruleLine_64 : decode cX10_ruleLine 64 = .ok (.iload_n 2, 1) := by decide +kernel
theorem dX10_ruleLine_65 : decode cX10_ruleLine 65 = .ok (.invokevirtual 119, 3) := by decide +kernel
theorem dX10_ruleLine_68 : decode cX10_ruleLine 68 = .ok (.istore_n 3, 1) := by decide +kernel
theorem dX10_ruleLine_69 : decode cX10_ruleLine 69 = .ok (.iload_n 3, 1) := by decide +kernel
theorem dX10_ruleLine_70 : decode cX10_ruleLine 70 = .ok (.ifCond .ge 9, 3) := by decide +kernel
theorem dX10_ruleLine_73 : decode cX10_ruleLine 73 = .ok (.aload_n 0, 1) := by decide +kernel
theorem dX10_ruleLine_74 : decode cX10_ruleLine 74 = .ok (.bipush 33, 2) := by decide +kernel
theorem dX10_ruleLine_76 : decode cX10_ruleLine 76 = .ok (.invokevirtual 262, 3) := by decide +kernel
theorem dX10_ruleLine_79 : decode cX10_ruleLine 79 = .ok (.aload_n 0, 1) := by decide +kernel
theorem dX10_ruleLine_80 : decode cX10_ruleLine 80 = .ok (.bipush 48, 2) := by decide +kernel
theorem dX10_ruleLine_82 : decode cX10_ruleLine 82 = .ok (.iload_n 3, 1) := by decide +kernel
theorem dX10_ruleLine_83 : decode cX10_ruleLine 83 = .ok (.invokestatic 127, 3) := by decide +kernel
theorem dX10_ruleLine_86 : decode cX10_ruleLine 86 = .ok (.iadd, 1) := by decide +kernel
theorem dX10_ruleLine_87 : decode cX10_ruleLine 87 = .ok (.i2c, 1) := by decide +kernel
theorem dX10_ruleLine_88 : decode cX10_ruleLine 88 = .ok (.invokevirtual 262, 3) := by decide +kernel
theorem dX10_ruleLine_91 : decode cX10_ruleLine 91 = .ok (.aload_n 0, 1) := by decide +kernel
theorem dX10_ruleLine_92 : decode cX10_ruleLine 92 = .ok (.bipush 120, 2) := by decide +kernel
theorem dX10_ruleLine_94 : decode cX10_ruleLine 94 = .ok (.iload_n 3, 1) := by decide +kernel
theorem dX10_ruleLine_95 : decode cX10_ruleLine 95 = .ok (.iconst 0, 1) := by decide +kernel
theorem dX10_ruleLine_96 : decode cX10_ruleLine 96 = .ok (.invokestatic 115, 3) := by decide +kernel
theorem dX10_ruleLine_99 : decode cX10_ruleLine 99 = .ok (.iadd, 1) := by decide +kernel
theorem dX10_ruleLine_100 : decode cX10_ruleLine 100 = .ok (.i2c, 1) := by decide +kernel
theorem dX10_ruleLine_101 : decode cX10_ruleLine 101 = .ok (.invokevirtual 262, 3) := by decide +kernel
theorem dX10_ruleLine_104 : decode cX10_ruleLine 104 = .ok (.aload_n 0, 1) := by decide +kernel
theorem dX10_ruleLine_105 : decode cX10_ruleLine 105 = .ok (.bipush 120, 2) := by decide +kernel
theorem dX10_ruleLine_107 : decode cX10_ruleLine 107 = .ok (.iload_n 3, 1) := by decide +kernel
theorem dX10_ruleLine_108 : decode cX10_ruleLine 108 = .ok (.iconst 1, 1) := by decide +kernel
theorem dX10_ruleLine_109 : decode cX10_ruleLine 109 = .ok (.invokestatic 115, 3) := by decide +kernel
theorem dX10_ruleLine_112 : decode cX10_ruleLine 112 = .ok (.iadd, 1) := by decide +kernel
theorem dX10_ruleLine_113 : decode cX10_ruleLine 113 = .ok (.i2c, 1) := by decide +kernel
theorem dX10_ruleLine_114 : decode cX10_ruleLine 114 = .ok (.invokevirtual 262, 3) := by decide +kernel
theorem dX10_ruleLine_117 : decode cX10_ruleLine 117 = .ok (.iinc 2 1, 3) := by decide +kernel
theorem dX10_ruleLine_120 : decode cX10_ruleLine 120 = .ok (.goto (-68), 3) := by decide +kernel
theorem dX10_ruleLine_123 : decode cX10_ruleLine 123 = .ok (.aload_n 0, 1) := by decide +kernel
theorem dX10_ruleLine_124 : decode cX10_ruleLine 124 = .ok (.getfield 259, 3) := by decide +kernel
theorem dX10_ruleLine_127 : decode cX10_ruleLine 127 = .ok (.ireturn, 1) := by decide +kernel
theorem dX10_character_0 : decode cX10_character 0 = .ok (.aload_n 0, 1) := by decide +kernel
theorem dX10_character_1 : decode cX10_character 1 = .ok (.iload_n 1, 1) := by decide +kernel
theorem dX10_character_2 : decode cX10_character 2 = .ok (.iconst 0, 1) := by decide +kernel
theorem dX10_character_3 : decode cX10_character 3 = .ok (.aload_n 0, 1) := by decide +kernel
theorem dX10_character_4 : decode cX10_character 4 = .ok (.getfield 259, 3) := by decide +kernel
theorem dX10_character_7 : decode cX10_character 7 = .ok (.iconst 1, 1) := by decide +kernel
theorem dX10_character_8 : decode cX10_character 8 = .ok (.isub, 1) := by decide +kernel
theorem dX10_character_9 : decode cX10_character 9 = .ok (.invokestatic 98, 3) := by decide +kernel
theorem dX10_character_12 : decode cX10_character 12 = .ok (.ifCond .eq 7, 3) := by decide +kernel
theorem dX10_character_15 : decode cX10_character 15 = .ok (.iconst 0, 1) := by decide +kernel
theorem dX10_character_16 : decode cX10_character 16 = .ok (.goto 4, 3) := by decide +kernel
theorem dX10_character_19 : decode cX10_character 19 = .ok (.iconst 1, 1) := by decide +kernel
theorem dX10_character_20 : decode cX10_character 20 = .ok (.putfield 76, 3) := by decide +kernel
theorem dX10_character_23 : decode cX10_character 23 = .ok (.aload_n 0, 1) := by decide +kernel
theorem dX10_character_24 : decode cX10_character 24 = .ok (.getfield 76, 3) := by decide +kernel
theorem dX10_character_27 : decode cX10_character 27 = .ok (.ifCond .le 8, 3) := by decide +kernel
theorem dX10_character_30 : decode cX10_character 30 = .ok (.bipush 32, 2) := by decide +kernel
theorem dX10_character_32 : decode cX10_character 32 = .ok (.goto 9, 3) := by decide +kernel
theorem dX10_character_35 : decode cX10_character 35 = .ok (.aload_n 0, 1) := by decide +kernel
theorem dX10_character_36 : decode cX10_character 36 = .ok (.getfield 62, 3) := by decide +kernel
theorem dX10_character_39 : decode cX10_character 39 = .ok (.iload_n 1, 1) := by decide +kernel
theorem dX10_character_40 : decode cX10_character 40 = .ok (.caload, 1) := by decide +kernel
theorem dX10_character_41 : decode cX10_character 41 = .ok (.ireturn, 1) := by decide +kernel
theorem dX10_append_0 : decode cX10_append 0 = .ok (.aload_n 0, 1) := by decide +kernel
theorem dX10_append_1 : decode cX10_append 1 = .ok (.aload_n 0, 1) := by decide +kernel
theorem dX10_append_2 : decode cX10_append 2 = .ok (.getfield 270, 3) := by decide +kernel
theorem dX10_append_5 : decode cX10_append 5 = .ok (.bipush 60, 2) := by decide +kernel
theorem dX10_append_7 : decode cX10_append 7 = .ok (.if_icmp .ne 7, 3) := by decide +kernel
theorem dX10_append_10 : decode cX10_append 10 = .ok (.iconst 1, 1) := by decide +kernel
theorem dX10_append_11 : decode cX10_append 11 = .ok (.goto 4, 3) := by decide +kernel
theorem dX10_append_14 : decode cX10_append 14 = .ok (.iconst 0, 1) := by decide +kernel
theorem dX10_append_15 : decode cX10_append 15 = .ok (.putfield 76, 3) := by decide +kernel
theorem dX10_append_18 : decode cX10_append 18 = .ok (.aload_n 0, 1) := by decide +kernel
theorem dX10_append_19 : decode cX10_append 19 = .ok (.getfield 76, 3) := by decide +kernel
theorem dX10_append_22 : decode cX10_append 22 = .ok (.ifCond .le 5, 3) := by decide +kernel
theorem dX10_append_25 : decode cX10_append 25 = .ok (.iconst 0, 1) := by decide +kernel
theorem dX10_append_26 : decode cX10_append 26 = .ok (.ireturn, 1) := by decide +kernel
theorem dX10_append_27 : decode cX10_append 27 = .ok (.aload_n 0, 1) := by decide +kernel
theorem dX10_append_28 : decode cX10_append 28 = .ok (.getfield 66, 3) := by decide +kernel
theorem dX10_append_31 : decode cX10_append 31 = .ok (.aload_n 0, 1) := by decide +kernel
theorem dX10_append_32 : decode cX10_append 32 = .ok (.getfield 270, 3) := by decide +kernel
theorem dX10_append_35 : decode cX10_append 35 = .ok (.iload_n 1, 1) := by decide +kernel
theorem dX10_append_36 : decode cX10_append 36 = .ok (.castore, 1) := by decide +kernel
theorem dX10_append_37 : decode cX10_append 37 = .ok (.aload_n 0, 1) := by decide +kernel
theorem dX10_append_38 : decode cX10_append 38 = .ok (.dup, 1) := by decide +kernel
theorem dX10_append_39 : decode cX10_append 39 = .ok (.getfield 270, 3) := by decide +kernel
theorem dX10_append_42 : decode cX10_append 42 = .ok (.iconst 1, 1) := by decide +kernel
theorem dX10_append_43 : decode cX10_append 43 = .ok (.iadd, 1) := by decide +kernel
theorem dX10_append_44 : decode cX10_append 44 = .ok (.putfield 270, 3) := by decide +kernel
theorem dX10_append_47 : decode cX10_append 47 = .ok (.aload_n 0, 1) := by decide +kernel
theorem dX10_append_48 : decode cX10_append 48 = .ok (.getfield 270, 3) := by decide +kernel
theorem dX10_append_51 : decode cX10_append 51 = .ok (.ireturn, 1) := by decide +kernel
theorem dX10_isHere_0 : decode cX10_isHere 0 = .ok (.aload_n 0, 1) := by decide +kernel
theorem dX10_isHere_1 : decode cX10_isHere 1 = .ok (.getfield 273, 3) := by decide +kernel
theorem dX10_isHere_4 : decode cX10_isHere 4 = .ok (.ifCond .ne 35, 3) := by decide +kernel
theorem dX10_isHere_7 : decode cX10_isHere 7 = .ok (.aload_n 0, 1) := by decide +kernel
theorem dX10_isHere_8 : decode cX10_isHere 8 = .ok (.getfield 276, 3) := by decide +kernel
theorem dX10_isHere_11 : decode cX10_isHere 11 = .ok (.aload_n 0, 1) := by decide +kernel
theorem dX10_isHere_12 : decode cX10_isHere 12 = .ok (.getfield 270, 3) := by decide +kernel
theorem dX10_isHere_15 : decode cX10_isHere 15 = .ok (.if_icmp .ge 24, 3) := by decide +kernel
theorem dX10_isHere_18 : decode cX10_isHere 18 = .ok (.aload_n 0, 1) := by decide +kernel
theorem dX10_isHere_19 : decode cX10_isHere 19 = .ok (.getfield 66, 3) := by decide +kernel
theorem dX10_isHere_22 : decode cX10_isHere 22 = .ok (.aload_n 0, 1) := by decide +kernel
theorem dX10_isHere_23 : decode cX10_isHere 23 = .ok (.getfield 276, 3) := by decide +kernel
theorem dX10_isHere_26 : decode cX10_isHere 26 = .ok (.caload, 1) := by decide +kernel
theorem dX10_isHere_27 : decode cX10_isHere 27 = .ok (.iload_n 1, 1) := by decide +kernel
theorem dX10_isHere_28 : decode cX10_isHere 28 = .ok (.iload_n 2, 1) := by decide +kernel
theorem dX10_isHere_29 : decode cX10_isHere 29 = .ok (.invokestatic 98, 3) := by decide +kernel
theorem dX10_isHere_32 : decode cX10_isHere 32 = .ok (.ifCond .eq 7, 3) := by decide +kernel
theorem dX10_isHere_35 : decode cX10_isHere 35 = .ok (.iconst 1, 1) := by decide +kernel
theorem dX10_isHere_36 : decode cX10_isHere 36 = .ok (.goto 4, 3) := by decide +kernel
theorem dX10_isHere_39 : decode cX10_isHere 39 = .ok (.iconst 0, 1) := by decide +kernel
theorem dX10_isHere_40 : decode cX10_isHere 40 = .ok (.ireturn, 1) := by decide +kernel
theorem dX10_sign_0 : decode cX10_sign 0 = .ok (.aload_n 0, 1) := by decide +kernel
theorem dX10_sign_1 : decode cX10_sign 1 = .ok (.aload_n 0, 1) := by decide +kernel
theorem dX10_sign_2 : decode cX10_sign 2 = .ok (.getfield 273, 3) := by decide +kernel
theorem dX10_sign_5 : decode cX10_sign 5 = .ok (.ifCond .ne 12, 3) := by decide +kernel
theorem dX10_sign_8 : decode cX10_sign 8 = .ok (.aload_n 0, 1) := by decide +kernel
theorem dX10_sign_9 : decode cX10_sign 9 = .ok (.iload_n 1, 1) := by decide +kernel
theorem dX10_sign_10 : decode cX10_sign 10 = .ok (.iload_n 2, 1) := by decide +kernel
theorem dX10_sign_11 : decode cX10_sign 11 = .ok (.invokevirtual 279, 3) := by decide +kernel
theorem dX10_sign_14 : decode cX10_sign 14 = .ok (.ifCond .ne 7, 3) := by decide +kernel
theorem dX10_sign_17 : decode cX10_sign 17 = .ok (.iconst 1, 1) := by decide +kernel
theorem dX10_sign_18 : decode cX10_sign 18 = .ok (.goto 4, 3) := by decide +kernel
theorem dX10_sign_21 : decode cX10_sign 21 = .ok (.iconst 0, 1) := by decide +kernel
theorem dX10_sign_22 : decode cX10_sign 22 = .ok (.putfield 273, 3) := by decide +kernel
theorem dX10_sign_25 : decode cX10_sign 25 = .ok (.aload_n 0, 1) := by decide +kernel
theorem dX10_sign_26 : decode cX10_sign 26 = .ok (.getfield 273, 3) := by decide +kernel
theorem dX10_sign_29 : decode cX10_sign 29 = .ok (.ifCond .eq 5, 3) := by decide +kernel
theorem dX10_sign_32 : decode cX10_sign 32 = .ok (.iconst 0, 1) := by decide +kernel
theorem dX10_sign_33 : decode cX10_sign 33 = .ok (.ireturn, 1) := by decide +kernel
theorem dX10_sign_34 : decode cX10_sign 34 = .ok (.aload_n 0, 1) := by decide +kernel
theorem dX10_sign_35 : decode cX10_sign 35 = .ok (.dup, 1) := by decide +kernel
theorem dX10_sign_36 : decode cX10_sign 36 = .ok (.getfield 276, 3) := by decide +kernel
theorem dX10_sign_39 : decode cX10_sign 39 = .ok (.iconst 1, 1) := by decide +kernel
theorem dX10_sign_40 : decode cX10_sign 40 = .ok (.iadd, 1) := by decide +kernel
theorem dX10_sign_41 : decode cX10_sign 41 = .ok (.putfield 276, 3) := by decide +kernel
theorem dX10_sign_44 : decode cX10_sign 44 = .ok (.aload_n 0, 1) := by decide +kernel
theorem dX10_sign_45 : decode cX10_sign 45 = .ok (.getfield 66, 3) := by decide +kernel
theorem dX10_sign_48 : decode cX10_sign 48 = .ok (.aload_n 0, 1) := by decide +kernel
theorem dX10_sign_49 : decode cX10_sign 49 = .ok (.getfield 276, 3) := by decide +kernel
theorem dX10_sign_52 : decode cX10_sign 52 = .ok (.iconst 1, 1) := by decide +kernel
theorem dX10_sign_53 : decode cX10_sign 53 = .ok (.isub, 1) := by decide +kernel
theorem dX10_sign_54 : decode cX10_sign 54 = .ok (.caload, 1) := by decide +kernel
theorem dX10_sign_55 : decode cX10_sign 55 = .ok (.iload_n 1, 1) := by decide +kernel
theorem dX10_sign_56 : decode cX10_sign 56 = .ok (.isub, 1) := by decide +kernel
theorem dX10_sign_57 : decode cX10_sign 57 = .ok (.ireturn, 1) := by decide +kernel
theorem dX10_readCondition_0 : decode cX10_readCondition 0 = .ok (.aload_n 0, 1) := by decide +kernel
theorem dX10_readCondition_1 : decode cX10_readCondition 1 = .ok (.bipush 33, 2) := by decide +kernel
theorem dX10_readCondition_3 : decode cX10_readCondition 3 = .ok (.bipush 33, 2) := by decide +kernel
theorem dX10_readCondition_5 : decode cX10_readCondition 5 = .ok (.invokevirtual 279, 3) := by decide +kernel
theorem dX10_readCondition_8 : decode cX10_readCondition 8 = .ok (.istore_n 1, 1) := by decide +kernel
theorem dX10_readCondition_9 : decode cX10_readCondition 9 = .ok (.iload_n 1, 1) := by decide +kernel
theorem dX10_readCondition_10 : decode cX10_readCondition 10 = .ok (.ifCond .eq 14, 3) := by decide +kernel
theorem dX10_readCondition_13 : decode cX10_readCondition 13 = .ok (.aload_n 0, 1) := by decide +kernel
theorem dX10_readCondition_14 : decode cX10_readCondition 14 = .ok (.bipush 33, 2) := by decide +kernel
theorem dX10_readCondition_16 : decode cX10_readCondition 16 = .ok (.bipush 33, 2) := by decide +kernel
theorem dX10_readCondition_18 : decode cX10_readCondition 18 = .ok (.invokevirtual 283, 3) := by decide +kernel
theorem dX10_readCondition_21 : decode cX10_readCondition 21 = .ok (.goto 4, 3) := by decide +kernel
theorem dX10_readCondition_24 : decode cX10_readCondition 24 = .ok (.iconst 0, 1) := by decide +kernel
theorem dX10_readCondition_25 : decode cX10_readCondition 25 = .ok (.istore_n 2, 1) := by decide +kernel
theorem dX10_readCondition_26 : decode cX10_readCondition 26 = .ok (.aload_n 0, 1) := by decide +kernel
theorem dX10_readCondition_27 : decode cX10_readCondition 27 = .ok (.bipush 48, 2) := by decide +kernel
theorem dX10_readCondition_29 : decode cX10_readCondition 29 = .ok (.bipush 53, 2) := by decide +kernel
theorem dX10_readCondition_31 : decode cX10_readCondition 31 = .ok (.invokevirtual 283, 3) := by decide +kernel
theorem dX10_readCondition_34 : decode cX10_readCondition 34 = .ok (.istore_n 3, 1) := by decide +kernel
theorem dX10_readCondition_35 : decode cX10_readCondition 35 = .ok (.aload_n 0, 1) := by decide +kernel
theorem dX10_readCondition_36 : decode cX10_readCondition 36 = .ok (.bipush 120, 2) := by decide +kernel
theorem dX10_readCondition_38 : decode cX10_readCondition 38 = .ok (.bipush 122, 2) := by decide +kernel
theorem dX10_readCondition_40 : decode cX10_readCondition 40 = .ok (.invokevirtual 283, 3) := by decide +kernel
theorem dX10_readCondition_43 : decode cX10_readCondition 43 = .ok (.istore 4, 2) := by decide +kernel
theorem dX10_readCondition_45 : decode cX10_readCondition 45 = .ok (.iconst 1, 1) := by decide +kernel
theorem dX10_readCondition_46 : decode cX10_readCondition 46 = .ok (.bipush 9, 2) := by decide +kernel
theorem dX10_readCondition_48 : decode cX10_readCondition 48 = .ok (.iload_n 3, 1) := by decide +kernel
theorem dX10_readCondition_49 : decode cX10_readCondition 49 = .ok (.imul, 1) := by decide +kernel
theorem dX10_readCondition_50 : decode cX10_readCondition 50 = .ok (.iadd, 1) := by decide +kernel
theorem dX10_readCondition_51 : decode cX10_readCondition 51 = .ok (.iconst 3, 1) := by decide +kernel
theorem dX10_readCondition_52 : decode cX10_readCondition 52 = .ok (.iload 4, 2) := by decide +kernel
theorem dX10_readCondition_54 : decode cX10_readCondition 54 = .ok (.imul, 1) := by decide +kernel
theorem dX10_readCondition_55 : decode cX10_readCondition 55 = .ok (.iadd, 1) := by decide +kernel
theorem dX10_readCondition_56 : decode cX10_readCondition 56 = .ok (.aload_n 0, 1) := by decide +kernel
theorem dX10_readCondition_57 : decode cX10_readCondition 57 = .ok (.bipush 120, 2) := by decide +kernel
theorem dX10_readCondition_59 : decode cX10_readCondition 59 = .ok (.bipush 122, 2) := by decide +kernel
theorem dX10_readCondition_61 : decode cX10_readCondition 61 = .ok (.invokevirtual 283, 3) := by decide +kernel
theorem dX10_readCondition_64 : decode cX10_readCondition 64 = .ok (.iadd, 1) := by decide +kernel
theorem dX10_readCondition_65 : decode cX10_readCondition 65 = .ok (.istore 5, 2) := by decide +kernel
theorem dX10_readCondition_67 : decode cX10_readCondition 67 = .ok (.iload_n 1, 1) := by decide +kernel
theorem dX10_readCondition_68 : decode cX10_readCondition 68 = .ok (.ifCond .eq 9, 3) := by decide +kernel
theorem dX10_readCondition_71 : decode cX10_readCondition 71 = .ok (.iload 5, 2) := by decide +kernel
theorem dX10_readCondition_73 : decode cX10_readCondition 73 = .ok (.ineg, 1) := by decide +kernel
theorem dX10_readCondition_74 : decode cX10_readCondition 74 = .ok (.goto 5, 3) := by decide +kernel
theorem dX10_readCondition_77 : decode cX10_readCondition 77 = .ok (.iload 5, 2) := by decide +kernel
theorem dX10_readCondition_79 : decode cX10_readCondition 79 = .ok (.ireturn, 1) := by decide +kernel
theorem dX10_readOrder_0 : decode cX10_readOrder 0 = .ok (.aload_n 0, 1) := by decide +kernel
theorem dX10_readOrder_1 : decode cX10_readOrder 1 = .ok (.getfield 273, 3) := by decide +kernel
theorem dX10_readOrder_4 : decode cX10_readOrder 4 = .ok (.ifCond .eq 4, 3) := by decide +kernel
theorem dX10_readOrder_7 : decode cX10_readOrder 7 = .ok (.return_, 1) := by decide +kernel
theorem dX10_readOrder_8 : decode cX10_readOrder 8 = .ok (.aload_n 0, 1) := by decide +kernel
theorem dX10_readOrder_9 : decode cX10_readOrder 9 = .ok (.getfield 276, 3) := by decide +kernel
theorem dX10_readOrder_12 : decode cX10_readOrder 12 = .ok (.aload_n 0, 1) := by decide +kernel
theorem dX10_readOrder_13 : decode cX10_readOrder 13 = .ok (.getfield 270, 3) := by decide +kernel
theorem dX10_readOrder_16 : decode cX10_readOrder 16 = .ok (.if_icmp .ge 15, 3) := by decide +kernel
theorem dX10_readOrder_19 : decode cX10_readOrder 19 = .ok (.aload_n 0, 1) := by decide +kernel
theorem dX10_readOrder_20 : decode cX10_readOrder 20 = .ok (.getfield 66, 3) := by decide +kernel
theorem dX10_readOrder_23 : decode cX10_readOrder 23 = .ok (.aload_n 0, 1) := by decide +kernel
theorem dX10_readOrder_24 : decode cX10_readOrder 24 = .ok (.getfield 276, 3) := by decide +kernel
theorem dX10_readOrder_27 : decode cX10_readOrder 27 = .ok (.caload, 1) := by decide +kernel
theorem dX10_readOrder_28 : decode cX10_readOrder 28 = .ok (.goto 4, 3) := by decide +kernel
theorem dX10_readOrder_31 : decode cX10_readOrder 31 = .ok (.iconst 0, 1) := by decide +kernel
theorem dX10_readOrder_32 : decode cX10_readOrder 32 = .ok (.istore_n 1, 1) := by decide +kernel
theorem dX10_readOrder_33 : decode cX10_readOrder 33 = .ok (.iload_n 1, 1) := by decide +kernel
theorem dX10_readOrder_34 : decode cX10_readOrder 34 = .ok (.bipush 43, 2) := by decide +kernel
theorem dX10_readOrder_36 : decode cX10_readOrder 36 = .ok (.if_icmp .eq 27, 3) := by decide +kernel
theorem dX10_readOrder_39 : decode cX10_readOrder 39 = .ok (.iload_n 1, 1) := by decide +kernel
theorem dX10_readOrder_40 : decode cX10_readOrder 40 = .ok (.bipush 45, 2) := by decide +kernel
theorem dX10_readOrder_42 : decode cX10_readOrder 42 = .ok (.if_icmp .eq 21, 3) := by decide +kernel
theorem dX10_readOrder_45 : decode cX10_readOrder 45 = .ok (.iload_n 1, 1) := by decide +kernel
theorem dX10_readOrder_46 : decode cX10_readOrder 46 = .ok (.bipush 114, 2) := by decide +kernel
theorem dX10_readOrder_48 : decode cX10_readOrder 48 = .ok (.if_icmp .eq 15, 3) := by decide +kernel
theorem dX10_readOrder_51 : decode cX10_readOrder 51 = .ok (.iload_n 1, 1) := by decide +kernel
theorem dX10_readOrder_52 : decode cX10_readOrder 52 = .ok (.bipush 100, 2) := by decide +kernel
theorem dX10_readOrder_54 : decode cX10_readOrder 54 = .ok (.if_icmp .eq 9, 3) := by decide +kernel
theorem dX10_readOrder_57 : decode cX10_readOrder 57 = .ok (.aload_n 0, 1) := by decide +kernel
theorem dX10_readOrder_58 : decode cX10_readOrder 58 = .ok (.iconst 1, 1) := by decide +kernel
theorem dX10_readOrder_59 : decode cX10_readOrder 59 = .ok (.putfield 273, 3) := by decide +kernel
theorem dX10_readOrder_62 : decode cX10_readOrder 62 = .ok (.return_, 1) := by decide +kernel
theorem dX10_readOrder_63 : decode cX10_readOrder 63 = .ok (.aload_n 0, 1) := by decide +kernel
theorem dX10_readOrder_64 : decode cX10_readOrder 64 = .ok (.dup, 1) := by decide +kernel
theorem dX10_readOrder_65 : decode cX10_readOrder 65 = .ok (.getfield 276, 3) := by decide +kernel
theorem dX10_readOrder_68 : decode cX10_readOrder 68 = .ok (.iconst 1, 1) := by decide +kernel
theorem dX10_readOrder_69 : decode cX10_readOrder 69 = .ok (.iadd, 1) := by decide +kernel
theorem dX10_readOrder_70 : decode cX10_readOrder 70 = .ok (.putfield 276, 3) := by decide +kernel
theorem dX10_readOrder_73 : decode cX10_readOrder 73 = .ok (.iconst 5, 1) := by decide +kernel
theorem dX10_readOrder_74 : decode cX10_readOrder 74 = .ok (.aload_n 0, 1) := by decide +kernel
theorem dX10_readOrder_75 : decode cX10_readOrder 75 = .ok (.getfield 287, 3) := by decide +kernel
theorem dX10_readOrder_78 : decode cX10_readOrder 78 = .ok (.imul, 1) := by decide +kernel
theorem dX10_readOrder_79 : decode cX10_readOrder 79 = .ok (.istore_n 2, 1) := by decide +kernel
theorem dX10_readOrder_80 : decode cX10_readOrder 80 = .ok (.aload_n 0, 1) := by decide +kernel
theorem dX10_readOrder_81 : decode cX10_readOrder 81 = .ok (.getfield 73, 3) := by decide +kernel
theorem dX10_readOrder_84 : decode cX10_readOrder 84 = .ok (.iload_n 2, 1) := by decide +kernel
theorem dX10_readOrder_85 : decode cX10_readOrder 85 = .ok (.iload_n 1, 1) := by decide +kernel
theorem dX10_readOrder_86 : decode cX10_readOrder 86 = .ok (.iastore, 1) := by decide +kernel
theorem dX10_readOrder_87 : decode cX10_readOrder 87 = .ok (.aload_n 0, 1) := by decide +kernel
theorem dX10_readOrder_88 : decode cX10_readOrder 88 = .ok (.dup, 1) := by decide +kernel
theorem dX10_readOrder_89 : decode cX10_readOrder 89 = .ok (.getfield 287, 3) := by decide +kernel
theorem dX10_readOrder_92 : decode cX10_readOrder 92 = .ok (.iconst 1, 1) := by decide +kernel
theorem dX10_readOrder_93 : decode cX10_readOrder 93 = .ok (.iadd, 1) := by decide +kernel
theorem dX10_readOrder_94 : decode cX10_readOrder 94 = .ok (.putfield 287, 3) := by decide +kernel
theorem dX10_readOrder_97 : decode cX10_readOrder 97 = .ok (.aload_n 0, 1) := by decide +kernel
theorem dX10_readOrder_98 : decode cX10_readOrder 98 = .ok (.getfield 73, 3) := by decide +kernel
theorem dX10_readOrder_101 : decode cX10_readOrder 101 = .ok (.iload_n 2, 1) := by decide +kernel
theorem dX10_readOrder_102 : decode cX10_readOrder 102 = .ok (.iconst 1, 1) := by decide +kernel
theorem dX10_readOrder_103 : decode cX10_readOrder 103 = .ok (.iadd, 1) := by decide +kernel
theorem dX10_readOrder_104 : decode cX10_readOrder 104 = .ok (.aload_n 0, 1) := by decide +kernel
theorem dX10_readOrder_105 : decode cX10_readOrder 105 = .ok (.bipush 48, 2) := by decide +kernel
theorem dX10_readOrder_107 : decode cX10_readOrder 107 = .ok (.iload_n 1, 1) := by decide +kernel
theorem dX10_readOrder_108 : decode cX10_readOrder 108 = .ok (.bipush 100, 2) := by decide +kernel
theorem dX10_readOrder_110 : decode cX10_readOrder 110 = .ok (.if_icmp .ne 8, 3) := by decide +kernel
theorem dX10_readOrder_113 : decode cX10_readOrder 113 = .ok (.bipush 57, 2) := by decide +kernel
theorem dX10_readOrder_115 : decode cX10_readOrder 115 = .ok (.goto 5, 3) := by decide +kernel
theorem dX10_readOrder_118 : decode cX10_readOrder 118 = .ok (.bipush 53, 2) := by decide +kernel
theorem dX10_readOrder_120 : decode cX10_readOrder 120 = .ok (.invokevirtual 283, 3) := by decide +kernel
theorem dX10_readOrder_123 : decode cX10_readOrder 123 = .ok (.iastore, 1) := by decide +kernel
theorem dX10_readOrder_124 : decode cX10_readOrder 124 = .ok (.aload_n 0, 1) := by decide +kernel
theorem dX10_readOrder_125 : decode cX10_readOrder 125 = .ok (.getfield 73, 3) := by decide +kernel
theorem dX10_readOrder_128 : decode cX10_readOrder 128 = .ok (.iload_n 2, 1) := by decide +kernel
theorem dX10_readOrder_129 : decode cX10_readOrder 129 = .ok (.iconst 2, 1) := by decide +kernel
theorem dX10_readOrder_130 : decode cX10_readOrder 130 = .ok (.iadd, 1) := by decide +kernel
theorem dX10_readOrder_131 : decode cX10_readOrder 131 = .ok (.iconst 0, 1) := by decide +kernel
theorem dX10_readOrder_132 : decode cX10_readOrder 132 = .ok (.iastore, 1) := by decide +kernel
theorem dX10_readOrder_133 : decode cX10_readOrder 133 = .ok (.aload_n 0, 1) := by decide +kernel
theorem dX10_readOrder_134 : decode cX10_readOrder 134 = .ok (.getfield 73, 3) := by decide +kernel
theorem dX10_readOrder_137 : decode cX10_readOrder 137 = .ok (.iload_n 2, 1) := by decide +kernel
theorem dX10_readOrder_138 : decode cX10_readOrder 138 = .ok (.iconst 3, 1) := by decide +kernel
theorem dX10_readOrder_139 : decode cX10_readOrder 139 = .ok (.iadd, 1) := by decide +kernel
theorem dX10_readOrder_140 : decode cX10_readOrder 140 = .ok (.iconst 0, 1) := by decide +kernel
theorem dX10_readOrder_141 : decode cX10_readOrder 141 = .ok (.iastore, 1) := by decide +kernel
theorem dX10_readOrder_142 : decode cX10_readOrder 142 = .ok (.aload_n 0, 1) := by decide +kernel
theorem dX10_readOrder_143 : decode cX10_readOrder 143 = .ok (.getfield 73, 3) := by decide +kernel
theorem dX10_readOrder_146 : decode cX10_readOrder 146 = .ok (.iload_n 2, 1) := by decide +kernel
theorem dX10_readOrder_147 : decode cX10_readOrder 147 = .ok (.iconst 4, 1) := by decide +kernel
theorem dX10_readOrder_148 : decode cX10_readOrder 148 = .ok (.iadd, 1) := by decide +kernel
theorem dX10_readOrder_149 : decode cX10_readOrder 149 = .ok (.iconst 0, 1) := by decide +kernel
theorem dX10_readOrder_150 : decode cX10_readOrder 150 = .ok (.iastore, 1) := by decide +kernel
theorem dX10_readOrder_151 : decode cX10_readOrder 151 = .ok (.iload_n 1, 1) := by decide +kernel
theorem dX10_readOrder_152 : decode cX10_readOrder 152 = .ok (.bipush 114, 2) := by decide +kernel
theorem dX10_readOrder_154 : decode cX10_readOrder 154 = .ok (.if_icmp .ne 77, 3) := by decide +kernel
theorem dX10_readOrder_157 : decode cX10_readOrder 157 = .ok (.aload_n 0, 1) := by decide +kernel
theorem dX10_readOrder_158 : decode cX10_readOrder 158 = .ok (.bipush 61, 2) := by decide +kernel
theorem dX10_readOrder_160 : decode cX10_readOrder 160 = .ok (.bipush 61, 2) := by decide +kernel
theorem dX10_readOrder_162 : decode cX10_readOrder 162 = .ok (.invokevirtual 283, 3) := by decide +kernel
theorem dX10_readOrder_165 : decode cX10_readOrder 165 = .ok (.istore_n 3, 1) := by decide +kernel
theorem dX10_readOrder_166 : decode cX10_readOrder 166 = .ok (.aload_n 0, 1) := by decide +kernel
theorem dX10_readOrder_167 : decode cX10_readOrder 167 = .ok (.getfield 73, 3) := by decide +kernel
theorem dX10_readOrder_170 : decode cX10_readOrder 170 = .ok (.iload_n 2, 1) := by decide +kernel
theorem dX10_readOrder_171 : decode cX10_readOrder 171 = .ok (.iconst 2, 1) := by decide +kernel
theorem dX10_readOrder_172 : decode cX10_readOrder 172 = .ok (.iadd, 1) := by decide +kernel
theorem dX10_readOrder_173 : decode cX10_readOrder 173 = .ok (.aload_n 0, 1) := by decide +kernel
theorem dX10_readOrder_174 : decode cX10_readOrder 174 = .ok (.invokevirtual 290, 3) := by decide +kernel
theorem dX10_readOrder_177 : decode cX10_readOrder 177 = .ok (.iastore, 1) := by decide +kernel
theorem dX10_readOrder_178 : decode cX10_readOrder 178 = .ok (.iconst 3, 1) := by decide +kernel
theorem dX10_readOrder_179 : decode cX10_readOrder 179 = .ok (.istore 4, 2) := by decide +kernel
theorem dX10_readOrder_181 : decode cX10_readOrder 181 = .ok (.iload 4, 2) := by decide +kernel
theorem dX10_readOrder_183 : decode cX10_readOrder 183 = .ok (.iconst 5, 1) := by decide +kernel
theorem dX10_readOrder_184 : decode cX10_readOrder 184 = .ok (.if_icmp .ge 44, 3) := by decide +kernel
theorem dX10_readOrder_187 : decode cX10_readOrder 187 = .ok (.aload_n 0, 1) := by decide +kernel
theorem dX10_readOrder_188 : decode cX10_readOrder 188 = .ok (.bipush 33, 2) := by decide +kernel
theorem dX10_readOrder_190 : decode cX10_readOrder 190 = .ok (.bipush 33, 2) := by decide +kernel
theorem dX10_readOrder_192 : decode cX10_readOrder 192 = .ok (.invokevirtual 279, 3) := by decide +kernel
theorem dX10_readOrder_195 : decode cX10_readOrder 195 = .ok (.ifCond .ne 14, 3) := by decide +kernel
theorem dX10_readOrder_198 : decode cX10_readOrder 198 = .ok (.aload_n 0, 1) := by decide +kernel
theorem dX10_readOrder_199 : decode cX10_readOrder 199 = .ok (.bipush 48, 2) := by decide +kernel
theorem dX10_readOrder_201 : decode cX10_readOrder 201 = .ok (.bipush 57, 2) := by decide +kernel
theorem dX10_readOrder_203 : decode cX10_readOrder 203 = .ok (.invokevirtual 279, 3) := by decide +kernel
theorem dX10_readOrder_206 : decode cX10_readOrder 206 = .ok (.ifCond .eq 22, 3) := by decide +kernel
theorem dX10_readOrder_209 : decode cX10_readOrder 209 = .ok (.aload_n 0, 1) := by decide +kernel
theorem dX10_readOrder_210 : decode cX10_readOrder 210 = .ok (.getfield 73, 3) := by decide +kernel
theorem dX10_readOrder_213 : decode cX10_readOrder 213 = .ok (.iload_n 2, 1) := by decide +kernel
theorem dX10_readOrder_214 : decode cX10_readOrder 214 = .ok (.iload 4, 2) := by decide +kernel
theorem dX10_readOrder_216 : decode cX10_readOrder 216 = .ok (.iadd, 1) := by decide +kernel
theorem dX10_readOrder_217 : decode cX10_readOrder 217 = .ok (.aload_n 0, 1) := by decide +kernel
theorem dX10_readOrder_218 : decode cX10_readOrder 218 = .ok (.invokevirtual 290, 3) := by decide +kernel
theorem dX10_readOrder_221 : decode cX10_readOrder 221 = .ok (.iastore, 1) := by decide +kernel
theorem dX10_readOrder_222 : decode cX10_readOrder 222 = .ok (.iinc 4 1, 3) := by decide +kernel
theorem dX10_readOrder_225 : decode cX10_readOrder 225 = .ok (.goto (-44), 3) := by decide +kernel
theorem dX10_readOrder_228 : decode cX10_readOrder 228 = .ok (.goto 41, 3) := by decide +kernel
theorem dX10_readOrder_231 : decode cX10_readOrder 231 = .ok (.iload_n 1, 1) := by decide +kernel
theorem dX10_readOrder_232 : decode cX10_readOrder 232 = .ok (.bipush 100, 2) := by decide +kernel
theorem dX10_readOrder_234 : decode cX10_readOrder 234 = .ok (.if_icmp .eq 35, 3) := by decide +kernel
theorem dX10_readOrder_237 : decode cX10_readOrder 237 = .ok (.aload_n 0, 1) := by decide +kernel
theorem dX10_readOrder_238 : decode cX10_readOrder 238 = .ok (.getfield 73, 3) := by decide +kernel
theorem dX10_readOrder_241 : decode cX10_readOrder 241 = .ok (.iload_n 2, 1) := by decide +kernel
theorem dX10_readOrder_242 : decode cX10_readOrder 242 = .ok (.iconst 2, 1) := by decide +kernel
theorem dX10_readOrder_243 : decode cX10_readOrder 243 = .ok (.iadd, 1) := by decide +kernel
theorem dX10_readOrder_244 : decode cX10_readOrder 244 = .ok (.aload_n 0, 1) := by decide +kernel
theorem dX10_readOrder_245 : decode cX10_readOrder 245 = .ok (.bipush 97, 2) := by decide +kernel
theorem dX10_readOrder_247 : decode cX10_readOrder 247 = .ok (.bipush 102, 2) := by decide +kernel
theorem dX10_readOrder_249 : decode cX10_readOrder 249 = .ok (.invokevirtual 283, 3) := by decide +kernel
theorem dX10_readOrder_252 : decode cX10_readOrder 252 = .ok (.iastore, 1) := by decide +kernel
theorem dX10_readOrder_253 : decode cX10_readOrder 253 = .ok (.aload_n 0, 1) := by decide +kernel
theorem dX10_readOrder_254 : decode cX10_readOrder 254 = .ok (.getfield 73, 3) := by decide +kernel
theorem dX10_readOrder_257 : decode cX10_readOrder 257 = .ok (.iload_n 2, 1) := by decide +kernel
theorem dX10_readOrder_258 : decode cX10_readOrder 258 = .ok (.iconst 3, 1) := by decide +kernel
theorem dX10_readOrder_259 : decode cX10_readOrder 259 = .ok (.iadd, 1) := by decide +kernel
theorem dX10_readOrder_260 : decode cX10_readOrder 260 = .ok (.aload_n 0, 1) := by decide +kernel
theorem dX10_readOrder_261 : decode cX10_readOrder 261 = .ok (.bipush 97, 2) := by decide +kernel
theorem dX10_readOrder_263 : decode cX10_readOrder 263 = .ok (.bipush 102, 2) := by decide +kernel
theorem dX10_readOrder_265 : decode cX10_readOrder 265 = .ok (.invokevirtual 283, 3) := by decide +kernel
theorem dX10_readOrder_268 : decode cX10_readOrder 268 = .ok (.iastore, 1) := by decide +kernel
theorem dX10_readOrder_269 : decode cX10_readOrder 269 = .ok (.return_, 1) := by decide +kernel
theorem dX10_does_0 : decode cX10_does 0 = .ok (.aload_n 0, 1) := by decide +kernel
theorem dX10_does_1 : decode cX10_does 1 = .ok (.getfield 73, 3) := by decide +kernel
theorem dX10_does_4 : decode cX10_does 4 = .ok (.iconst 5, 1) := by decide +kernel
theorem dX10_does_5 : decode cX10_does 5 = .ok (.iload_n 1, 1) := by decide +kernel
theorem dX10_does_6 : decode cX10_does 6 = .ok (.imul, 1) := by decide +kernel
theorem dX10_does_7 : decode cX10_does 7 = .ok (.iconst 1, 1) := by decide +kernel
theorem dX10_does_8 : decode cX10_does 8 = .ok (.iadd, 1) := by decide +kernel
theorem dX10_does_9 : decode cX10_does 9 = .ok (.iaload, 1) := by decide +kernel
theorem dX10_does_10 : decode cX10_does 10 = .ok (.istore_n 2, 1) := by decide +kernel
theorem dX10_does_11 : decode cX10_does 11 = .ok (.aload_n 0, 1) := by decide +kernel
theorem dX10_does_12 : decode cX10_does 12 = .ok (.getfield 73, 3) := by decide +kernel
theorem dX10_does_15 : decode cX10_does 15 = .ok (.iconst 5, 1) := by decide +kernel
theorem dX10_does_16 : decode cX10_does 16 = .ok (.iload_n 1, 1) := by decide +kernel
theorem dX10_does_17 : decode cX10_does 17 = .ok (.imul, 1) := by decide +kernel
theorem dX10_does_18 : decode cX10_does 18 = .ok (.iconst 2, 1) := by decide +kernel
theorem dX10_does_19 : decode cX10_does 19 = .ok (.iadd, 1) := by decide +kernel
theorem dX10_does_20 : decode cX10_does 20 = .ok (.iaload, 1) := by decide +kernel
theorem dX10_does_21 : decode cX10_does 21 = .ok (.istore_n 3, 1) := by decide +kernel
theorem dX10_does_22 : decode cX10_does 22 = .ok (.aload_n 0, 1) := by decide +kernel
theorem dX10_does_23 : decode cX10_does 23 = .ok (.getfield 73, 3) := by decide +kernel
theorem dX10_does_26 : decode cX10_does 26 = .ok (.iconst 5, 1) := by decide +kernel
theorem dX10_does_27 : decode cX10_does 27 = .ok (.iload_n 1, 1) := by decide +kernel
theorem dX10_does_28 : decode cX10_does 28 = .ok (.imul, 1) := by decide +kernel
theorem dX10_does_29 : decode cX10_does 29 = .ok (.iconst 3, 1) := by decide +kernel
theorem dX10_does_30 : decode cX10_does 30 = .ok (.iadd, 1) := by decide +kernel
theorem dX10_does_31 : decode cX10_does 31 = .ok (.iaload, 1) := by decide +kernel
theorem dX10_does_32 : decode cX10_does 32 = .ok (.istore 4, 2) := by decide +kernel
theorem dX10_does_34 : decode cX10_does 34 = .ok (.aload_n 0, 1) := by decide +kernel
theorem dX10_does_35 : decode cX10_does 35 = .ok (.getfield 73, 3) := by decide +kernel
theorem dX10_does_38 : decode cX10_does 38 = .ok (.iconst 5, 1) := by decide +kernel
theorem dX10_does_39 : decode cX10_does 39 = .ok (.iload_n 1, 1) := by decide +kernel
theorem dX10_does_40 : decode cX10_does 40 = .ok (.imul, 1) := by decide +kernel
theorem dX10_does_41 : decode cX10_does 41 = .ok (.iaload, 1) := by decide +kernel
theorem dX10_does_42 : decode cX10_does 42 = .ok (.lookupswitch 83 #[(43, 34), (45, 47), (114, 60)], 34) := by decide +kernel
theorem dX10_does_76 : decode cX10_does 76 = .ok (.aload_n 0, 1) := by decide +kernel
theorem dX10_does_77 : decode cX10_does 77 = .ok (.iload_n 2, 1) := by decide +kernel
theorem dX10_does_78 : decode cX10_does 78 = .ok (.iload_n 3, 1) := by decide +kernel
theorem dX10_does_79 : decode cX10_does 79 = .ok (.iload 4, 2) := by decide +kernel
theorem dX10_does_81 : decode cX10_does 81 = .ok (.invokevirtual 190, 3) := by decide +kernel
theorem dX10_does_84 : decode cX10_does 84 = .ok (.istore 5, 2) := by decide +kernel
theorem dX10_does_86 : decode cX10_does 86 = .ok (.goto 46, 3) := by decide +kernel
theorem dX10_does_89 : decode cX10_does 89 = .ok (.aload_n 0, 1) := by decide +kernel
theorem dX10_does_90 : decode cX10_does 90 = .ok (.iload_n 2, 1) := by decide +kernel
theorem dX10_does_91 : decode cX10_does 91 = .ok (.iload_n 3, 1) := by decide +kernel
theorem dX10_does_92 : decode cX10_does 92 = .ok (.iload 4, 2) := by decide +kernel
theorem dX10_does_94 : decode cX10_does 94 = .ok (.invokevirtual 196, 3) := by decide +kernel
theorem dX10_does_97 : decode cX10_does 97 = .ok (.istore 5, 2) := by decide +kernel
theorem dX10_does_99 : decode cX10_does 99 = .ok (.goto 33, 3) := by decide +kernel
theorem dX10_does_102 : decode cX10_does 102 = .ok (.aload_n 0, 1) := by decide +kernel
theorem dX10_does_103 : decode cX10_does 103 = .ok (.iload_n 2, 1) := by decide +kernel
theorem dX10_does_104 : decode cX10_does 104 = .ok (.iload_n 3, 1) := by decide +kernel
theorem dX10_does_105 : decode cX10_does 105 = .ok (.iload 4, 2) := by decide +kernel
theorem dX10_does_107 : decode cX10_does 107 = .ok (.aload_n 0, 1) := by decide +kernel
theorem dX10_does_108 : decode cX10_does 108 = .ok (.getfield 73, 3) := by decide +kernel
theorem dX10_does_111 : decode cX10_does 111 = .ok (.iconst 5, 1) := by decide +kernel
theorem dX10_does_112 : decode cX10_does 112 = .ok (.iload_n 1, 1) := by decide +kernel
theorem dX10_does_113 : decode cX10_does 113 = .ok (.imul, 1) := by decide +kernel
theorem dX10_does_114 : decode cX10_does 114 = .ok (.iconst 4, 1) := by decide +kernel
theorem dX10_does_115 : decode cX10_does 115 = .ok (.iadd, 1) := by decide +kernel
theorem dX10_does_116 : decode cX10_does 116 = .ok (.iaload, 1) := by decide +kernel
theorem dX10_does_117 : decode cX10_does 117 = .ok (.invokevirtual 229, 3) := by decide +kernel
theorem dX10_does_120 : decode cX10_does 120 = .ok (.istore 5, 2) := by decide +kernel
theorem dX10_does_122 : decode cX10_does 122 = .ok (.goto 10, 3) := by decide +kernel
theorem dX10_does_125 : decode cX10_does 125 = .ok (.aload_n 0, 1) := by decide +kernel
theorem dX10_does_126 : decode cX10_does 126 = .ok (.iload_n 2, 1) := by decide +kernel
theorem dX10_does_127 : decode cX10_does 127 = .ok (.invokevirtual 236, 3) := by decide +kernel
theorem dX10_does_130 : decode cX10_does 130 = .ok (.istore 5, 2) := by decide +kernel
theorem dX10_does_132 : decode cX10_does 132 = .ok (.return_, 1) := by decide +kernel
theorem dX10_run_0 : decode cX10_run 0 = .ok (.aload_n 0, 1) := by decide +kernel
theorem dX10_run_1 : decode cX10_run 1 = .ok (.iconst 0, 1) := by decide +kernel
theorem dX10_run_2 : decode cX10_run 2 = .ok (.putfield 276, 3) := by decide +kernel
theorem dX10_run_5 : decode cX10_run 5 = .ok (.aload_n 0, 1) := by decide +kernel
theorem dX10_run_6 : decode cX10_run 6 = .ok (.iconst 0, 1) := by decide +kernel
theorem dX10_run_7 : decode cX10_run 7 = .ok (.putfield 273, 3) := by decide +kernel
theorem dX10_run_10 : decode cX10_run 10 = .ok (.aload_n 0, 1) := by decide +kernel
theorem dX10_run_11 : decode cX10_run 11 = .ok (.iconst 0, 1) := by decide +kernel
theorem dX10_run_12 : decode cX10_run 12 = .ok (.putfield 287, 3) := by decide +kernel
theorem dX10_run_15 : decode cX10_run 15 = .ok (.aload_n 0, 1) := by decide +kernel
theorem dX10_run_16 : decode cX10_run 16 = .ok (.invokevirtual 293, 3) := by decide +kernel
theorem dX10_run_19 : decode cX10_run 19 = .ok (.aload_n 0, 1) := by decide +kernel
theorem dX10_run_20 : decode cX10_run 20 = .ok (.bipush 59, 2) := by decide +kernel
theorem dX10_run_22 : decode cX10_run 22 = .ok (.bipush 59, 2) := by decide +kernel
theorem dX10_run_24 : decode cX10_run 24 = .ok (.invokevirtual 279, 3) := by decide +kernel
theorem dX10_run_27 : decode cX10_run 27 = .ok (.ifCond .eq 20, 3) := by decide +kernel
theorem dX10_run_30 : decode cX10_run 30 = .ok (.aload_n 0, 1) := by decide +kernel
theorem dX10_run_31 : decode cX10_run 31 = .ok (.dup, 1) := by decide +kernel
theorem dX10_run_32 : decode cX10_run 32 = .ok (.getfield 276, 3) := by decide +kernel
theorem dX10_run_35 : decode cX10_run 35 = .ok (.iconst 1, 1) := by decide +kernel
theorem dX10_run_36 : decode cX10_run 36 = .ok (.iadd, 1) := by decide +kernel
theorem dX10_run_37 : decode cX10_run 37 = .ok (.putfield 276, 3) := by decide +kernel
theorem dX10_run_40 : decode cX10_run 40 = .ok (.aload_n 0, 1) := by decide +kernel
theorem dX10_run_41 : decode cX10_run 41 = .ok (.invokevirtual 293, 3) := by decide +kernel
theorem dX10_run_44 : decode cX10_run 44 = .ok (.goto (-25), 3) := by decide +kernel
theorem dX10_run_47 : decode cX10_run 47 = .ok (.aload_n 0, 1) := by decide +kernel
theorem dX10_run_48 : decode cX10_run 48 = .ok (.aload_n 0, 1) := by decide +kernel
theorem dX10_run_49 : decode cX10_run 49 = .ok (.getfield 273, 3) := by decide +kernel
theorem dX10_run_52 : decode cX10_run 52 = .ok (.ifCond .ne 14, 3) := by decide +kernel
theorem dX10_run_55 : decode cX10_run 55 = .ok (.aload_n 0, 1) := by decide +kernel
theorem dX10_run_56 : decode cX10_run 56 = .ok (.getfield 276, 3) := by decide +kernel
theorem dX10_run_59 : decode cX10_run 59 = .ok (.aload_n 0, 1) := by decide +kernel
theorem dX10_run_60 : decode cX10_run 60 = .ok (.getfield 270, 3) := by decide +kernel
theorem dX10_run_63 : decode cX10_run 63 = .ok (.if_icmp .ge 7, 3) := by decide +kernel
theorem dX10_run_66 : decode cX10_run 66 = .ok (.iconst 1, 1) := by decide +kernel
theorem dX10_run_67 : decode cX10_run 67 = .ok (.goto 4, 3) := by decide +kernel
theorem dX10_run_70 : decode cX10_run 70 = .ok (.iconst 0, 1) := by decide +kernel
theorem dX10_run_71 : decode cX10_run 71 = .ok (.putfield 273, 3) := by decide +kernel
theorem dX10_run_74 : decode cX10_run 74 = .ok (.aload_n 0, 1) := by decide +kernel
theorem dX10_run_75 : decode cX10_run 75 = .ok (.aload_n 0, 1) := by decide +kernel
theorem dX10_run_76 : decode cX10_run 76 = .ok (.getfield 273, 3) := by decide +kernel
theorem dX10_run_79 : decode cX10_run 79 = .ok (.ifCond .eq 10, 3) := by decide +kernel
theorem dX10_run_82 : decode cX10_run 82 = .ok (.aload_n 0, 1) := by decide +kernel
theorem dX10_run_83 : decode cX10_run 83 = .ok (.getfield 276, 3) := by decide +kernel
theorem dX10_run_86 : decode cX10_run 86 = .ok (.goto 4, 3) := by decide +kernel
theorem dX10_run_89 : decode cX10_run 89 = .ok (.iconst (-1), 1) := by decide +kernel
theorem dX10_run_90 : decode cX10_run 90 = .ok (.putfield 69, 3) := by decide +kernel
theorem dX10_run_93 : decode cX10_run 93 = .ok (.aload_n 0, 1) := by decide +kernel
theorem dX10_run_94 : decode cX10_run 94 = .ok (.iconst 0, 1) := by decide +kernel
theorem dX10_run_95 : decode cX10_run 95 = .ok (.putfield 270, 3) := by decide +kernel
theorem dX10_run_98 : decode cX10_run 98 = .ok (.aload_n 0, 1) := by decide +kernel
theorem dX10_run_99 : decode cX10_run 99 = .ok (.getfield 273, 3) := by decide +kernel
theorem dX10_run_102 : decode cX10_run 102 = .ok (.ifCond .eq 9, 3) := by decide +kernel
theorem dX10_run_105 : decode cX10_run 105 = .ok (.aload_n 0, 1) := by decide +kernel
theorem dX10_run_106 : decode cX10_run 106 = .ok (.iconst 1, 1) := by decide +kernel
theorem dX10_run_107 : decode cX10_run 107 = .ok (.invokevirtual 175, 3) := by decide +kernel
theorem dX10_run_110 : decode cX10_run 110 = .ok (.ireturn, 1) := by decide +kernel
theorem dX10_run_111 : decode cX10_run 111 = .ok (.aload_n 0, 1) := by decide +kernel
theorem dX10_run_112 : decode cX10_run 112 = .ok (.invokevirtual 187, 3) := by decide +kernel
theorem dX10_run_115 : decode cX10_run 115 = .ok (.iconst 0, 1) := by decide +kernel
theorem dX10_run_116 : decode cX10_run 116 = .ok (.istore_n 1, 1) := by decide +kernel
theorem dX10_run_117 : decode cX10_run 117 = .ok (.iload_n 1, 1) := by decide +kernel
theorem dX10_run_118 : decode cX10_run 118 = .ok (.aload_n 0, 1) := by decide +kernel
theorem dX10_run_119 : decode cX10_run 119 = .ok (.getfield 287, 3) := by decide +kernel
theorem dX10_run_122 : decode cX10_run 122 = .ok (.if_icmp .ge 48, 3) := by decide +kernel
theorem dX10_run_125 : decode cX10_run 125 = .ok (.aload_n 0, 1) := by decide +kernel
theorem dX10_run_126 : decode cX10_run 126 = .ok (.iconst 0, 1) := by decide +kernel
theorem dX10_run_127 : decode cX10_run 127 = .ok (.putfield 88, 3) := by decide +kernel
theorem dX10_run_130 : decode cX10_run 130 = .ok (.aload_n 0, 1) := by decide +kernel
theorem dX10_run_131 : decode cX10_run 131 = .ok (.iload_n 1, 1) := by decide +kernel
theorem dX10_run_132 : decode cX10_run 132 = .ok (.invokevirtual 296, 3) := by decide +kernel
theorem dX10_run_135 : decode cX10_run 135 = .ok (.aload_n 0, 1) := by decide +kernel
theorem dX10_run_136 : decode cX10_run 136 = .ok (.getfield 76, 3) := by decide +kernel
theorem dX10_run_139 : decode cX10_run 139 = .ok (.ifCond .le 25, 3) := by decide +kernel
theorem dX10_run_142 : decode cX10_run 142 = .ok (.aload_n 0, 1) := by decide +kernel
theorem dX10_run_143 : decode cX10_run 143 = .ok (.aload_n 0, 1) := by decide +kernel
theorem dX10_run_144 : decode cX10_run 144 = .ok (.getfield 88, 3) := by decide +kernel
theorem dX10_run_147 : decode cX10_run 147 = .ok (.ifCond .eq 7, 3) := by decide +kernel
theorem dX10_run_150 : decode cX10_run 150 = .ok (.iconst 2, 1) := by decide +kernel
theorem dX10_run_151 : decode cX10_run 151 = .ok (.goto 4, 3) := by decide +kernel
theorem dX10_run_154 : decode cX10_run 154 = .ok (.iconst 1, 1) := by decide +kernel
theorem dX10_run_155 : decode cX10_run 155 = .ok (.putfield 76, 3) := by decide +kernel
theorem dX10_run_158 : decode cX10_run 158 = .ok (.aload_n 0, 1) := by decide +kernel
theorem dX10_run_159 : decode cX10_run 159 = .ok (.iconst 0, 1) := by decide +kernel
theorem dX10_run_160 : decode cX10_run 160 = .ok (.invokevirtual 193, 3) := by decide +kernel
theorem dX10_run_163 : decode cX10_run 163 = .ok (.ireturn, 1) := by decide +kernel
theorem dX10_run_164 : decode cX10_run 164 = .ok (.iinc 1 1, 3) := by decide +kernel
theorem dX10_run_167 : decode cX10_run 167 = .ok (.goto (-50), 3) := by decide +kernel
theorem dX10_run_170 : decode cX10_run 170 = .ok (.aload_n 0, 1) := by decide +kernel
theorem dX10_run_171 : decode cX10_run 171 = .ok (.aload_n 0, 1) := by decide +kernel
theorem dX10_run_172 : decode cX10_run 172 = .ok (.getfield 287, 3) := by decide +kernel
theorem dX10_run_175 : decode cX10_run 175 = .ok (.invokevirtual 193, 3) := by decide +kernel
theorem dX10_run_178 : decode cX10_run 178 = .ok (.ireturn, 1) := by decide +kernel
theorem dX10_errorPosition_0 : decode cX10_errorPosition 0 = .ok (.aload_n 0, 1) := by decide +kernel
theorem dX10_errorPosition_1 : decode cX10_errorPosition 1 = .ok (.iconst 0, 1) := by decide +kernel
theorem dX10_errorPosition_2 : decode cX10_errorPosition 2 = .ok (.putfield 76, 3) := by decide +kernel
theorem dX10_errorPosition_5 : decode cX10_errorPosition 5 = .ok (.aload_n 0, 1) := by decide +kernel
theorem dX10_errorPosition_6 : decode cX10_errorPosition 6 = .ok (.getfield 69, 3) := by decide +kernel
theorem dX10_errorPosition_9 : decode cX10_errorPosition 9 = .ok (.ireturn, 1) := by decide +kernel
theorem dX10_roundsOfAll_0 : decode cX10_roundsOfAll 0 = .ok (.iconst 0, 1) := by decide +kernel
theorem dX10_roundsOfAll_1 : decode cX10_roundsOfAll 1 = .ok (.istore_n 1, 1) := by decide +kernel
theorem dX10_roundsOfAll_2 : decode cX10_roundsOfAll 2 = .ok (.iconst 0, 1) := by decide +kernel
theorem dX10_roundsOfAll_3 : decode cX10_roundsOfAll 3 = .ok (.istore_n 2, 1) := by decide +kernel
theorem dX10_roundsOfAll_4 : decode cX10_roundsOfAll 4 = .ok (.iload_n 2, 1) := by decide +kernel
theorem dX10_roundsOfAll_5 : decode cX10_roundsOfAll 5 = .ok (.bipush 6, 2) := by decide +kernel
theorem dX10_roundsOfAll_7 : decode cX10_roundsOfAll 7 = .ok (.if_icmp .ge 18, 3) := by decide +kernel
theorem dX10_roundsOfAll_10 : decode cX10_roundsOfAll 10 = .ok (.iload_n 1, 1) := by decide +kernel
theorem dX10_roundsOfAll_11 : decode cX10_roundsOfAll 11 = .ok (.aload_n 0, 1) := by decide +kernel
theorem dX10_roundsOfAll_12 : decode cX10_roundsOfAll 12 = .ok (.getfield 37, 3) := by decide +kernel
theorem dX10_roundsOfAll_15 : decode cX10_roundsOfAll 15 = .ok (.iload_n 2, 1) := by decide +kernel
theorem dX10_roundsOfAll_16 : decode cX10_roundsOfAll 16 = .ok (.iaload, 1) := by decide +kernel
theorem dX10_roundsOfAll_17 : decode cX10_roundsOfAll 17 = .ok (.iadd, 1) := by decide +kernel
theorem dX10_roundsOfAll_18 : decode cX10_roundsOfAll 18 = .ok (.istore_n 1, 1) := by decide +kernel
theorem dX10_roundsOfAll_19 : decode cX10_roundsOfAll 19 = .ok (.iinc 2 1, 3) := by decide +kernel
theorem dX10_roundsOfAll_22 : decode cX10_roundsOfAll 22 = .ok (.goto (-18), 3) := by decide +kernel
theorem dX10_roundsOfAll_25 : decode cX10_roundsOfAll 25 = .ok (.iload_n 1, 1) := by decide +kernel
theorem dX10_roundsOfAll_26 : decode cX10_roundsOfAll 26 = .ok (.ireturn, 1) := by decide +kernel
theorem dX10_depths_0 : decode cX10_depths 0 = .ok (.aload_n 0, 1) := by decide +kernel
theorem dX10_depths_1 : decode cX10_depths 1 = .ok (.invokevirtual 202, 3) := by decide +kernel
theorem dX10_depths_4 : decode cX10_depths 4 = .ok (.iconst 0, 1) := by decide +kernel
theorem dX10_depths_5 : decode cX10_depths 5 = .ok (.istore_n 2, 1) := by decide +kernel
theorem dX10_depths_6 : decode cX10_depths 6 = .ok (.iconst 0, 1) := by decide +kernel
theorem dX10_depths_7 : decode cX10_depths 7 = .ok (.istore_n 3, 1) := by decide +kernel
theorem dX10_depths_8 : decode cX10_depths 8 = .ok (.iload_n 3, 1) := by decide +kernel
theorem dX10_depths_9 : decode cX10_depths 9 = .ok (.sipush 216, 3) := by decide +kernel
theorem dX10_depths_12 : decode cX10_depths 12 = .ok (.if_icmp .ge 35, 3) := by decide +kernel
theorem dX10_depths_15 : decode cX10_depths 15 = .ok (.iload_n 1, 1) := by decide +kernel
theorem dX10_depths_16 : decode cX10_depths 16 = .ok (.ifCond .eq 14, 3) := by decide +kernel
theorem dX10_depths_19 : decode cX10_depths 19 = .ok (.iload_n 2, 1) := by decide +kernel
theorem dX10_depths_20 : decode cX10_depths 20 = .ok (.aload_n 0, 1) := by decide +kernel
theorem dX10_depths_21 : decode cX10_depths 21 = .ok (.getfield 46, 3) := by decide +kernel
theorem dX10_depths_24 : decode cX10_depths 24 = .ok (.iload_n 3, 1) := by decide +kernel
theorem dX10_depths_25 : decode cX10_depths 25 = .ok (.iaload, 1) := by decide +kernel
theorem dX10_depths_26 : decode cX10_depths 26 = .ok (.iadd, 1) := by decide +kernel
theorem dX10_depths_27 : decode cX10_depths 27 = .ok (.goto 13, 3) := by decide +kernel
theorem dX10_depths_30 : decode cX10_depths 30 = .ok (.iload_n 2, 1) := by decide +kernel
theorem dX10_depths_31 : decode cX10_depths 31 = .ok (.aload_n 0, 1) := by decide +kernel
theorem dX10_depths_32 : decode cX10_depths 32 = .ok (.getfield 46, 3) := by decide +kernel
theorem dX10_depths_35 : decode cX10_depths 35 = .ok (.iload_n 3, 1) := by decide +kernel
theorem dX10_depths_36 : decode cX10_depths 36 = .ok (.iaload, 1) := by decide +kernel
theorem dX10_depths_37 : decode cX10_depths 37 = .ok (.invokestatic 139, 3) := by decide +kernel
theorem dX10_depths_40 : decode cX10_depths 40 = .ok (.istore_n 2, 1) := by decide +kernel
theorem dX10_depths_41 : decode cX10_depths 41 = .ok (.iinc 3 1, 3) := by decide +kernel
theorem dX10_depths_44 : decode cX10_depths 44 = .ok (.goto (-36), 3) := by decide +kernel
theorem dX10_depths_47 : decode cX10_depths 47 = .ok (.iload_n 2, 1) := by decide +kernel
theorem dX10_depths_48 : decode cX10_depths 48 = .ok (.ireturn, 1) := by decide +kernel
theorem dX10_greatestSize_0 : decode cX10_greatestSize 0 = .ok (.iconst 0, 1) := by decide +kernel
theorem dX10_greatestSize_1 : decode cX10_greatestSize 1 = .ok (.istore_n 1, 1) := by decide +kernel
theorem dX10_greatestSize_2 : decode cX10_greatestSize 2 = .ok (.iconst 0, 1) := by decide +kernel
theorem dX10_greatestSize_3 : decode cX10_greatestSize 3 = .ok (.istore_n 2, 1) := by decide +kernel
theorem dX10_greatestSize_4 : decode cX10_greatestSize 4 = .ok (.iload_n 2, 1) := by decide +kernel
theorem dX10_greatestSize_5 : decode cX10_greatestSize 5 = .ok (.sipush 216, 3) := by decide +kernel
theorem dX10_greatestSize_8 : decode cX10_greatestSize 8 = .ok (.if_icmp .ge 32, 3) := by decide +kernel
theorem dX10_greatestSize_11 : decode cX10_greatestSize 11 = .ok (.aload_n 0, 1) := by decide +kernel
theorem dX10_greatestSize_12 : decode cX10_greatestSize 12 = .ok (.getfield 25, 3) := by decide +kernel
theorem dX10_greatestSize_15 : decode cX10_greatestSize 15 = .ok (.iload_n 2, 1) := by decide +kernel
theorem dX10_greatestSize_16 : decode cX10_greatestSize 16 = .ok (.iaload, 1) := by decide +kernel
theorem dX10_greatestSize_17 : decode cX10_greatestSize 17 = .ok (.ifCond .ge 7, 3) := by decide +kernel
theorem dX10_greatestSize_20 : decode cX10_greatestSize 20 = .ok (.iload_n 1, 1) := by decide +kernel
theorem dX10_greatestSize_21 : decode cX10_greatestSize 21 = .ok (.goto 12, 3) := by decide +kernel
theorem dX10_greatestSize_24 : decode cX10_greatestSize 24 = .ok (.iload_n 1, 1) := by decide +kernel
theorem dX10_greatestSize_25 : decode cX10_greatestSize 25 = .ok (.aload_n 0, 1) := by decide +kernel
theorem dX10_greatestSize_26 : decode cX10_greatestSize 26 = .ok (.iload_n 2, 1) := by decide +kernel
theorem dX10_greatestSize_27 : decode cX10_greatestSize 27 = .ok (.invokevirtual 205, 3) := by decide +kernel
theorem dX10_greatestSize_30 : decode cX10_greatestSize 30 = .ok (.invokestatic 139, 3) := by decide +kernel
theorem dX10_greatestSize_33 : decode cX10_greatestSize 33 = .ok (.istore_n 1, 1) := by decide +kernel
theorem dX10_greatestSize_34 : decode cX10_greatestSize 34 = .ok (.iinc 2 1, 3) := by decide +kernel
theorem dX10_greatestSize_37 : decode cX10_greatestSize 37 = .ok (.goto (-33), 3) := by decide +kernel
theorem dX10_greatestSize_40 : decode cX10_greatestSize 40 = .ok (.iload_n 1, 1) := by decide +kernel
theorem dX10_greatestSize_41 : decode cX10_greatestSize 41 = .ok (.ireturn, 1) := by decide +kernel
theorem dX10_negatedMany_0 : decode cX10_negatedMany 0 = .ok (.iconst 0, 1) := by decide +kernel
theorem dX10_negatedMany_1 : decode cX10_negatedMany 1 = .ok (.istore_n 1, 1) := by decide +kernel
theorem dX10_negatedMany_2 : decode cX10_negatedMany 2 = .ok (.iconst 0, 1) := by decide +kernel
theorem dX10_negatedMany_3 : decode cX10_negatedMany 3 = .ok (.istore_n 2, 1) := by decide +kernel
theorem dX10_negatedMany_4 : decode cX10_negatedMany 4 = .ok (.iload_n 2, 1) := by decide +kernel
theorem dX10_negatedMany_5 : decode cX10_negatedMany 5 = .ok (.aload_n 0, 1) := by decide +kernel
theorem dX10_negatedMany_6 : decode cX10_negatedMany 6 = .ok (.getfield 9, 3) := by decide +kernel
theorem dX10_negatedMany_9 : decode cX10_negatedMany 9 = .ok (.sipush 216, 3) := by decide +kernel
theorem dX10_negatedMany_12 : decode cX10_negatedMany 12 = .ok (.iaload, 1) := by decide +kernel
theorem dX10_negatedMany_13 : decode cX10_negatedMany 13 = .ok (.if_icmp .ge 18, 3) := by decide +kernel
theorem dX10_negatedMany_16 : decode cX10_negatedMany 16 = .ok (.iload_n 1, 1) := by decide +kernel
theorem dX10_negatedMany_17 : decode cX10_negatedMany 17 = .ok (.aload_n 0, 1) := by decide +kernel
theorem dX10_negatedMany_18 : decode cX10_negatedMany 18 = .ok (.iload_n 2, 1) := by decide +kernel
theorem dX10_negatedMany_19 : decode cX10_negatedMany 19 = .ok (.iconst 1, 1) := by decide +kernel
theorem dX10_negatedMany_20 : decode cX10_negatedMany 20 = .ok (.invokevirtual 239, 3) := by decide +kernel
theorem dX10_negatedMany_23 : decode cX10_negatedMany 23 = .ok (.iadd, 1) := by decide +kernel
theorem dX10_negatedMany_24 : decode cX10_negatedMany 24 = .ok (.istore_n 1, 1) := by decide +kernel
theorem dX10_negatedMany_25 : decode cX10_negatedMany 25 = .ok (.iinc 2 1, 3) := by decide +kernel
theorem dX10_negatedMany_28 : decode cX10_negatedMany 28 = .ok (.goto (-24), 3) := by decide +kernel
theorem dX10_negatedMany_31 : decode cX10_negatedMany 31 = .ok (.iload_n 1, 1) := by decide +kernel
theorem dX10_negatedMany_32 : decode cX10_negatedMany 32 = .ok (.ireturn, 1) := by decide +kernel
theorem dX10_account_0 : decode cX10_account 0 = .ok (.aload_n 0, 1) := by decide +kernel
theorem dX10_account_1 : decode cX10_account 1 = .ok (.iload_n 1, 1) := by decide +kernel
theorem dX10_account_2 : decode cX10_account 2 = .ok (.iconst 0, 1) := by decide +kernel
theorem dX10_account_3 : decode cX10_account 3 = .ok (.bipush 9, 2) := by decide +kernel
theorem dX10_account_5 : decode cX10_account 5 = .ok (.invokestatic 98, 3) := by decide +kernel
theorem dX10_account_8 : decode cX10_account 8 = .ok (.ifCond .eq 7, 3) := by decide +kernel
theorem dX10_account_11 : decode cX10_account 11 = .ok (.iconst 0, 1) := by decide +kernel
theorem dX10_account_12 : decode cX10_account 12 = .ok (.goto 4, 3) := by decide +kernel
theorem dX10_account_15 : decode cX10_account 15 = .ok (.iconst 1, 1) := by decide +kernel
theorem dX10_account_16 : decode cX10_account 16 = .ok (.putfield 76, 3) := by decide +kernel
theorem dX10_account_19 : decode cX10_account 19 = .ok (.aload_n 0, 1) := by decide +kernel
theorem dX10_account_20 : decode cX10_account 20 = .ok (.getfield 76, 3) := by decide +kernel
theorem dX10_account_23 : decode cX10_account 23 = .ok (.ifCond .le 5, 3) := by decide +kernel
theorem dX10_account_26 : decode cX10_account 26 = .ok (.iconst 0, 1) := by decide +kernel
theorem dX10_account_27 : decode cX10_account 27 = .ok (.ireturn, 1) := by decide +kernel
theorem dX10_account_28 : decode cX10_account 28 = .ok (.aload_n 0, 1) := by decide +kernel
theorem dX10_account_29 : decode cX10_account 29 = .ok (.invokevirtual 166, 3) := by decide +kernel
theorem dX10_account_32 : decode cX10_account 32 = .ok (.iload_n 1, 1) := by decide +kernel
theorem dX10_account_33 : decode cX10_account 33 = .ok (.tableswitch 104 0 8 #[51, 57, 63, 72, 77, 83, 89, 94, 99], 51) := by decide +kernel
theorem dX10_account_84 : decode cX10_account 84 = .ok (.aload_n 0, 1) := by decide +kernel
theorem dX10_account_85 : decode cX10_account 85 = .ok (.iconst (-1), 1) := by decide +kernel
theorem dX10_account_86 : decode cX10_account 86 = .ok (.invokevirtual 169, 3) := by decide +kernel
theorem dX10_account_89 : decode cX10_account 89 = .ok (.ireturn, 1) := by decide +kernel
theorem dX10_account_90 : decode cX10_account 90 = .ok (.aload_n 0, 1) := by decide +kernel
theorem dX10_account_91 : decode cX10_account 91 = .ok (.iconst (-1), 1) := by decide +kernel
theorem dX10_account_92 : decode cX10_account 92 = .ok (.invokevirtual 178, 3) := by decide +kernel
theorem dX10_account_95 : decode cX10_account 95 = .ok (.ireturn, 1) := by decide +kernel
theorem dX10_account_96 : decode cX10_account 96 = .ok (.aload_n 0, 1) := by decide +kernel
theorem dX10_account_97 : decode cX10_account 97 = .ok (.getfield 9, 3) := by decide +kernel
theorem dX10_account_100 : decode cX10_account 100 = .ok (.sipush 216, 3) := by decide +kernel
theorem dX10_account_103 : decode cX10_account 103 = .ok (.iaload, 1) := by decide +kernel
theorem dX10_account_104 : decode cX10_account 104 = .ok (.ireturn, 1) := by decide +kernel
theorem dX10_account_105 : decode cX10_account 105 = .ok (.aload_n 0, 1) := by decide +kernel
theorem dX10_account_106 : decode cX10_account 106 = .ok (.invokevirtual 299, 3) := by decide +kernel
theorem dX10_account_109 : decode cX10_account 109 = .ok (.ireturn, 1) := by decide +kernel
theorem dX10_account_110 : decode cX10_account 110 = .ok (.aload_n 0, 1) := by decide +kernel
theorem dX10_account_111 : decode cX10_account 111 = .ok (.iconst (-1), 1) := by decide +kernel
theorem dX10_account_112 : decode cX10_account 112 = .ok (.invokevirtual 217, 3) := by decide +kernel
theorem dX10_account_115 : decode cX10_account 115 = .ok (.ireturn, 1) := by decide +kernel
theorem dX10_account_116 : decode cX10_account 116 = .ok (.aload_n 0, 1) := by decide +kernel
theorem dX10_account_117 : decode cX10_account 117 = .ok (.iconst 0, 1) := by decide +kernel
theorem dX10_account_118 : decode cX10_account 118 = .ok (.invokevirtual 302, 3) := by decide +kernel
theorem dX10_account_121 : decode cX10_account 121 = .ok (.ireturn, 1) := by decide +kernel
theorem dX10_account_122 : decode cX10_account 122 = .ok (.aload_n 0, 1) := by decide +kernel
theorem dX10_account_123 : decode cX10_account 123 = .ok (.invokevirtual 306, 3) := by decide +kernel
theorem dX10_account_126 : decode cX10_account 126 = .ok (.ireturn, 1) := by decide +kernel
theorem dX10_account_127 : decode cX10_account 127 = .ok (.aload_n 0, 1) := by decide +kernel
theorem dX10_account_128 : decode cX10_account 128 = .ok (.invokevirtual 309, 3) := by decide +kernel
theorem dX10_account_131 : decode cX10_account 131 = .ok (.ireturn, 1) := by decide +kernel
theorem dX10_account_132 : decode cX10_account 132 = .ok (.aload_n 0, 1) := by decide +kernel
theorem dX10_account_133 : decode cX10_account 133 = .ok (.getfield 270, 3) := by decide +kernel
theorem dX10_account_136 : decode cX10_account 136 = .ok (.ireturn, 1) := by decide +kernel
theorem dX10_account_137 : decode cX10_account 137 = .ok (.aload_n 0, 1) := by decide +kernel
theorem dX10_account_138 : decode cX10_account 138 = .ok (.getfield 85, 3) := by decide +kernel
theorem dX10_account_141 : decode cX10_account 141 = .ok (.ireturn, 1) := by decide +kernel
theorem dX10_isWell_0 : decode cX10_isWell 0 = .ok (.aload_n 0, 1) := by decide +kernel
theorem dX10_isWell_1 : decode cX10_isWell 1 = .ok (.iconst 0, 1) := by decide +kernel
theorem dX10_isWell_2 : decode cX10_isWell 2 = .ok (.putfield 76, 3) := by decide +kernel
theorem dX10_isWell_5 : decode cX10_isWell 5 = .ok (.iconst 1, 1) := by decide +kernel
theorem dX10_isWell_6 : decode cX10_isWell 6 = .ok (.ireturn, 1) := by decide +kernel
theorem dX10_meanDepth_0 : decode cX10_meanDepth 0 = .ok (.aload_n 0, 1) := by decide +kernel
theorem dX10_meanDepth_1 : decode cX10_meanDepth 1 = .ok (.invokevirtual 184, 3) := by decide +kernel
theorem dX10_meanDepth_4 : decode cX10_meanDepth 4 = .ok (.istore_n 1, 1) := by decide +kernel
theorem dX10_meanDepth_5 : decode cX10_meanDepth 5 = .ok (.aload_n 0, 1) := by decide +kernel
theorem dX10_meanDepth_6 : decode cX10_meanDepth 6 = .ok (.iload_n 1, 1) := by decide +kernel
theorem dX10_meanDepth_7 : decode cX10_meanDepth 7 = .ok (.ifCond .ne 7, 3) := by decide +kernel
theorem dX10_meanDepth_10 : decode cX10_meanDepth 10 = .ok (.iconst 1, 1) := by decide +kernel
theorem dX10_meanDepth_11 : decode cX10_meanDepth 11 = .ok (.goto 4, 3) := by decide +kernel
theorem dX10_meanDepth_14 : decode cX10_meanDepth 14 = .ok (.iconst 0, 1) := by decide +kernel
theorem dX10_meanDepth_15 : decode cX10_meanDepth 15 = .ok (.putfield 76, 3) := by decide +kernel
theorem dX10_meanDepth_18 : decode cX10_meanDepth 18 = .ok (.aload_n 0, 1) := by decide +kernel
theorem dX10_meanDepth_19 : decode cX10_meanDepth 19 = .ok (.getfield 76, 3) := by decide +kernel
theorem dX10_meanDepth_22 : decode cX10_meanDepth 22 = .ok (.ifCond .le 7, 3) := by decide +kernel
theorem dX10_meanDepth_25 : decode cX10_meanDepth 25 = .ok (.dconst 0, 1) := by decide +kernel
theorem dX10_meanDepth_26 : decode cX10_meanDepth 26 = .ok (.goto 12, 3) := by decide +kernel
theorem dX10_meanDepth_29 : decode cX10_meanDepth 29 = .ok (.aload_n 0, 1) := by decide +kernel
theorem dX10_meanDepth_30 : decode cX10_meanDepth 30 = .ok (.iconst 1, 1) := by decide +kernel
theorem dX10_meanDepth_31 : decode cX10_meanDepth 31 = .ok (.invokevirtual 302, 3) := by decide +kernel
theorem dX10_meanDepth_34 : decode cX10_meanDepth 34 = .ok (.i2d, 1) := by decide +kernel
theorem dX10_meanDepth_35 : decode cX10_meanDepth 35 = .ok (.iload_n 1, 1) := by decide +kernel
theorem dX10_meanDepth_36 : decode cX10_meanDepth 36 = .ok (.i2d, 1) := by decide +kernel
theorem dX10_meanDepth_37 : decode cX10_meanDepth 37 = .ok (.ddiv, 1) := by decide +kernel
theorem dX10_meanDepth_38 : decode cX10_meanDepth 38 = .ok (.dreturn, 1) := by decide +kernel
theorem dX10_toldShare_0 : decode cX10_toldShare 0 = .ok (.aload_n 0, 1) := by decide +kernel
theorem dX10_toldShare_1 : decode cX10_toldShare 1 = .ok (.invokevirtual 184, 3) := by decide +kernel
theorem dX10_toldShare_4 : decode cX10_toldShare 4 = .ok (.istore_n 1, 1) := by decide +kernel
theorem dX10_toldShare_5 : decode cX10_toldShare 5 = .ok (.aload_n 0, 1) := by decide +kernel
theorem dX10_toldShare_6 : decode cX10_toldShare 6 = .ok (.iload_n 1, 1) := by decide +kernel
theorem dX10_toldShare_7 : decode cX10_toldShare 7 = .ok (.ifCond .ne 7, 3) := by decide +kernel
theorem dX10_toldShare_10 : decode cX10_toldShare 10 = .ok (.iconst 1, 1) := by decide +kernel
theorem dX10_toldShare_11 : decode cX10_toldShare 11 = .ok (.goto 4, 3) := by decide +kernel
theorem dX10_toldShare_14 : decode cX10_toldShare 14 = .ok (.iconst 0, 1) := by decide +kernel
theorem dX10_toldShare_15 : decode cX10_toldShare 15 = .ok (.putfield 76, 3) := by decide +kernel
theorem dX10_toldShare_18 : decode cX10_toldShare 18 = .ok (.aload_n 0, 1) := by decide +kernel
theorem dX10_toldShare_19 : decode cX10_toldShare 19 = .ok (.getfield 76, 3) := by decide +kernel
theorem dX10_toldShare_22 : decode cX10_toldShare 22 = .ok (.ifCond .le 7, 3) := by decide +kernel
theorem dX10_toldShare_25 : decode cX10_toldShare 25 = .ok (.fconst 0, 1) := by decide +kernel
theorem dX10_toldShare_26 : decode cX10_toldShare 26 = .ok (.goto 12, 3) := by decide +kernel
theorem dX10_toldShare_29 : decode cX10_toldShare 29 = .ok (.aload_n 0, 1) := by decide +kernel
theorem dX10_toldShare_30 : decode cX10_toldShare 30 = .ok (.iconst (-1), 1) := by decide +kernel
theorem dX10_toldShare_31 : decode cX10_toldShare 31 = .ok (.invokevirtual 178, 3) := by decide +kernel
theorem dX10_toldShare_34 : decode cX10_toldShare 34 = .ok (.i2f, 1) := by decide +kernel
theorem dX10_toldShare_35 : decode cX10_toldShare 35 = .ok (.iload_n 1, 1) := by decide +kernel
theorem dX10_toldShare_36 : decode cX10_toldShare 36 = .ok (.i2f, 1) := by decide +kernel
theorem dX10_toldShare_37 : decode cX10_toldShare 37 = .ok (.fdiv, 1) := by decide +kernel
theorem dX10_toldShare_38 : decode cX10_toldShare 38 = .ok (.freturn, 1) := by decide +kernel
theorem dX10_undo_0 : decode cX10_undo 0 = .ok (.aload_n 0, 1) := by decide +kernel
theorem dX10_undo_1 : decode cX10_undo 1 = .ok (.aload_n 0, 1) := by decide +kernel
theorem dX10_undo_2 : decode cX10_undo 2 = .ok (.getfield 85, 3) := by decide +kernel
theorem dX10_undo_5 : decode cX10_undo 5 = .ok (.ifCond .ne 7, 3) := by decide +kernel
theorem dX10_undo_8 : decode cX10_undo 8 = .ok (.iconst 1, 1) := by decide +kernel
theorem dX10_undo_9 : decode cX10_undo 9 = .ok (.goto 4, 3) := by decide +kernel
theorem dX10_undo_12 : decode cX10_undo 12 = .ok (.iconst 0, 1) := by decide +kernel
theorem dX10_undo_13 : decode cX10_undo 13 = .ok (.putfield 76, 3) := by decide +kernel
theorem dX10_undo_16 : decode cX10_undo 16 = .ok (.aload_n 0, 1) := by decide +kernel
theorem dX10_undo_17 : decode cX10_undo 17 = .ok (.getfield 76, 3) := by decide +kernel
theorem dX10_undo_20 : decode cX10_undo 20 = .ok (.ifCond .le 5, 3) := by decide +kernel
theorem dX10_undo_23 : decode cX10_undo 23 = .ok (.iconst 0, 1) := by decide +kernel
theorem dX10_undo_24 : decode cX10_undo 24 = .ok (.ireturn, 1) := by decide +kernel
theorem dX10_undo_25 : decode cX10_undo 25 = .ok (.aload_n 0, 1) := by decide +kernel
theorem dX10_undo_26 : decode cX10_undo 26 = .ok (.dup, 1) := by decide +kernel
theorem dX10_undo_27 : decode cX10_undo 27 = .ok (.getfield 85, 3) := by decide +kernel
theorem dX10_undo_30 : decode cX10_undo 30 = .ok (.iconst 1, 1) := by decide +kernel
theorem dX10_undo_31 : decode cX10_undo 31 = .ok (.isub, 1) := by decide +kernel
theorem dX10_undo_32 : decode cX10_undo 32 = .ok (.putfield 85, 3) := by decide +kernel
theorem dX10_undo_35 : decode cX10_undo 35 = .ok (.aload_n 0, 1) := by decide +kernel
theorem dX10_undo_36 : decode cX10_undo 36 = .ok (.getfield 19, 3) := by decide +kernel
theorem dX10_undo_39 : decode cX10_undo 39 = .ok (.sipush 257, 3) := by decide +kernel
theorem dX10_undo_42 : decode cX10_undo 42 = .ok (.aload_n 0, 1) := by decide +kernel
theorem dX10_undo_43 : decode cX10_undo 43 = .ok (.getfield 85, 3) := by decide +kernel
theorem dX10_undo_46 : decode cX10_undo 46 = .ok (.imul, 1) := by decide +kernel
theorem dX10_undo_47 : decode cX10_undo 47 = .ok (.aload_n 0, 1) := by decide +kernel
theorem dX10_undo_48 : decode cX10_undo 48 = .ok (.getfield 9, 3) := by decide +kernel
theorem dX10_undo_51 : decode cX10_undo 51 = .ok (.iconst 0, 1) := by decide +kernel
theorem dX10_undo_52 : decode cX10_undo 52 = .ok (.sipush 257, 3) := by decide +kernel
theorem dX10_undo_55 : decode cX10_undo 55 = .ok (.invokestatic 79, 3) := by decide +kernel
theorem dX10_undo_58 : decode cX10_undo 58 = .ok (.aload_n 0, 1) := by decide +kernel
theorem dX10_undo_59 : decode cX10_undo 59 = .ok (.getfield 85, 3) := by decide +kernel
theorem dX10_undo_62 : decode cX10_undo 62 = .ok (.ireturn, 1) := by decide +kernel
theorem dX10_save_0 : decode cX10_save 0 = .ok (.aload_n 0, 1) := by decide +kernel
theorem dX10_save_1 : decode cX10_save 1 = .ok (.iconst 0, 1) := by decide +kernel
theorem dX10_save_2 : decode cX10_save 2 = .ok (.putfield 76, 3) := by decide +kernel
theorem dX10_save_5 : decode cX10_save 5 = .ok (.aload_n 0, 1) := by decide +kernel
theorem dX10_save_6 : decode cX10_save 6 = .ok (.getfield 9, 3) := by decide +kernel
theorem dX10_save_9 : decode cX10_save 9 = .ok (.iconst 0, 1) := by decide +kernel
theorem dX10_save_10 : decode cX10_save 10 = .ok (.aload_n 0, 1) := by decide +kernel
theorem dX10_save_11 : decode cX10_save 11 = .ok (.getfield 16, 3) := by decide +kernel
theorem dX10_save_14 : decode cX10_save 14 = .ok (.iconst 0, 1) := by decide +kernel
theorem dX10_save_15 : decode cX10_save 15 = .ok (.sipush 257, 3) := by decide +kernel
theorem dX10_save_18 : decode cX10_save 18 = .ok (.invokestatic 79, 3) := by decide +kernel
theorem dX10_save_21 : decode cX10_save 21 = .ok (.aload_n 0, 1) := by decide +kernel
theorem dX10_save_22 : decode cX10_save 22 = .ok (.iconst 1, 1) := by decide +kernel
theorem dX10_save_23 : decode cX10_save 23 = .ok (.putfield 312, 3) := by decide +kernel
theorem dX10_save_26 : decode cX10_save 26 = .ok (.aload_n 0, 1) := by decide +kernel
theorem dX10_save_27 : decode cX10_save 27 = .ok (.iconst (-1), 1) := by decide +kernel
theorem dX10_save_28 : decode cX10_save 28 = .ok (.invokevirtual 178, 3) := by decide +kernel
theorem dX10_save_31 : decode cX10_save 31 = .ok (.ireturn, 1) := by decide +kernel
theorem dX10_restore_0 : decode cX10_restore 0 = .ok (.aload_n 0, 1) := by decide +kernel
theorem dX10_restore_1 : decode cX10_restore 1 = .ok (.aload_n 0, 1) := by decide +kernel
theorem dX10_restore_2 : decode cX10_restore 2 = .ok (.getfield 312, 3) := by decide +kernel
theorem dX10_restore_5 : decode cX10_restore 5 = .ok (.ifCond .eq 7, 3) := by decide +kernel
theorem dX10_restore_8 : decode cX10_restore 8 = .ok (.iconst 0, 1) := by decide +kernel
theorem dX10_restore_9 : decode cX10_restore 9 = .ok (.goto 4, 3) := by decide +kernel
theorem dX10_restore_12 : decode cX10_restore 12 = .ok (.iconst 1, 1) := by decide +kernel
theorem dX10_restore_13 : decode cX10_restore 13 = .ok (.putfield 76, 3) := by decide +kernel
theorem dX10_restore_16 : decode cX10_restore 16 = .ok (.aload_n 0, 1) := by decide +kernel
theorem dX10_restore_17 : decode cX10_restore 17 = .ok (.getfield 76, 3) := by decide +kernel
theorem dX10_restore_20 : decode cX10_restore 20 = .ok (.ifCond .le 5, 3) := by decide +kernel
theorem dX10_restore_23 : decode cX10_restore 23 = .ok (.iconst 0, 1) := by decide +kernel
theorem dX10_restore_24 : decode cX10_restore 24 = .ok (.ireturn, 1) := by decide +kernel
theorem dX10_restore_25 : decode cX10_restore 25 = .ok (.aload_n 0, 1) := by decide +kernel
theorem dX10_restore_26 : decode cX10_restore 26 = .ok (.getfield 16, 3) := by decide +kernel
theorem dX10_restore_29 : decode cX10_restore 29 = .ok (.iconst 0, 1) := by decide +kernel
theorem dX10_restore_30 : decode cX10_restore 30 = .ok (.aload_n 0, 1) := by decide +kernel
theorem dX10_restore_31 : decode cX10_restore 31 = .ok (.getfield 9, 3) := by decide +kernel
theorem dX10_restore_34 : decode cX10_restore 34 = .ok (.iconst 0, 1) := by decide +kernel
theorem dX10_restore_35 : decode cX10_restore 35 = .ok (.sipush 257, 3) := by decide +kernel
theorem dX10_restore_38 : decode cX10_restore 38 = .ok (.invokestatic 79, 3) := by decide +kernel
theorem dX10_restore_41 : decode cX10_restore 41 = .ok (.aload_n 0, 1) := by decide +kernel
theorem dX10_restore_42 : decode cX10_restore 42 = .ok (.iconst 0, 1) := by decide +kernel
theorem dX10_restore_43 : decode cX10_restore 43 = .ok (.putfield 85, 3) := by decide +kernel
theorem dX10_restore_46 : decode cX10_restore 46 = .ok (.aload_n 0, 1) := by decide +kernel
theorem dX10_restore_47 : decode cX10_restore 47 = .ok (.iconst (-1), 1) := by decide +kernel
theorem dX10_restore_48 : decode cX10_restore 48 = .ok (.invokevirtual 178, 3) := by decide +kernel
theorem dX10_restore_51 : decode cX10_restore 51 = .ok (.ireturn, 1) := by decide +kernel
theorem dJx00060_init_a7421_0 : decode cJx00060_init_a7421 0 = .ok (.aload_n 0, 1) := by decide +kernel
theorem dJx00060_init_a7421_1 : decode cJx00060_init_a7421 1 = .ok (.aload_n 1, 1) := by decide +kernel
theorem dJx00060_init_a7421_2 : decode cJx00060_init_a7421 2 = .ok (.invokespecial 7, 3) := by decide +kernel
theorem dJx00060_init_a7421_5 : decode cJx00060_init_a7421 5 = .ok (.return_, 1) := by decide +kernel
theorem dJ6_bitCount_0f7a4_0 : decode cJ6_bitCount_0f7a4 0 = .ok (.iload_n 0, 1) := by decide +kernel
theorem dJ6_bitCount_0f7a4_1 : decode cJ6_bitCount_0f7a4 1 = .ok (.iload_n 0, 1) := by decide +kernel
theorem dJ6_bitCount_0f7a4_2 : decode cJ6_bitCount_0f7a4 2 = .ok (.iconst 1, 1) := by decide +kernel
theorem dJ6_bitCount_0f7a4_3 : decode cJ6_bitCount_0f7a4 3 = .ok (.iushr, 1) := by decide +kernel
theorem dJ6_bitCount_0f7a4_4 : decode cJ6_bitCount_0f7a4 4 = .ok (.ldc_w 265, 3) := by decide +kernel
theorem dJ6_bitCount_0f7a4_7 : decode cJ6_bitCount_0f7a4 7 = .ok (.iand, 1) := by decide +kernel
theorem dJ6_bitCount_0f7a4_8 : decode cJ6_bitCount_0f7a4 8 = .ok (.isub, 1) := by decide +kernel
theorem dJ6_bitCount_0f7a4_9 : decode cJ6_bitCount_0f7a4 9 = .ok (.istore_n 0, 1) := by decide +kernel
theorem dJ6_bitCount_0f7a4_10 : decode cJ6_bitCount_0f7a4 10 = .ok (.iload_n 0, 1) := by decide +kernel
theorem dJ6_bitCount_0f7a4_11 : decode cJ6_bitCount_0f7a4 11 = .ok (.ldc_w 266, 3) := by decide +kernel
theorem dJ6_bitCount_0f7a4_14 : decode cJ6_bitCount_0f7a4 14 = .ok (.iand, 1) := by decide +kernel
theorem dJ6_bitCount_0f7a4_15 : decode cJ6_bitCount_0f7a4 15 = .ok (.iload_n 0, 1) := by decide +kernel
theorem dJ6_bitCount_0f7a4_16 : decode cJ6_bitCount_0f7a4 16 = .ok (.iconst 2, 1) := by decide +kernel
theorem dJ6_bitCount_0f7a4_17 : decode cJ6_bitCount_0f7a4 17 = .ok (.iushr, 1) := by decide +kernel
theorem dJ6_bitCount_0f7a4_18 : decode cJ6_bitCount_0f7a4 18 = .ok (.ldc_w 266, 3) := by decide +kernel
theorem dJ6_bitCount_0f7a4_21 : decode cJ6_bitCount_0f7a4 21 = .ok (.iand, 1) := by decide +kernel
theorem dJ6_bitCount_0f7a4_22 : decode cJ6_bitCount_0f7a4 22 = .ok (.iadd, 1) := by decide +kernel
theorem dJ6_bitCount_0f7a4_23 : decode cJ6_bitCount_0f7a4 23 = .ok (.istore_n 0, 1) := by decide +kernel
theorem dJ6_bitCount_0f7a4_24 : decode cJ6_bitCount_0f7a4 24 = .ok (.iload_n 0, 1) := by decide +kernel
theorem dJ6_bitCount_0f7a4_25 : decode cJ6_bitCount_0f7a4 25 = .ok (.iload_n 0, 1) := by decide +kernel
theorem dJ6_bitCount_0f7a4_26 : decode cJ6_bitCount_0f7a4 26 = .ok (.iconst 4, 1) := by decide +kernel
theorem dJ6_bitCount_0f7a4_27 : decode cJ6_bitCount_0f7a4 27 = .ok (.iushr, 1) := by decide +kernel
theorem dJ6_bitCount_0f7a4_28 : decode cJ6_bitCount_0f7a4 28 = .ok (.iadd, 1) := by decide +kernel
theorem dJ6_bitCount_0f7a4_29 : decode cJ6_bitCount_0f7a4 29 = .ok (.ldc_w 267, 3) := by decide +kernel
theorem dJ6_bitCount_0f7a4_32 : decode cJ6_bitCount_0f7a4 32 = .ok (.iand, 1) := by decide +kernel
theorem dJ6_bitCount_0f7a4_33 : decode cJ6_bitCount_0f7a4 33 = .ok (.istore_n 0, 1) := by decide +kernel
theorem dJ6_bitCount_0f7a4_34 : decode cJ6_bitCount_0f7a4 34 = .ok (.iload_n 0, 1) := by decide +kernel
theorem dJ6_bitCount_0f7a4_35 : decode cJ6_bitCount_0f7a4 35 = .ok (.iload_n 0, 1) := by decide +kernel
theorem dJ6_bitCount_0f7a4_36 : decode cJ6_bitCount_0f7a4 36 = .ok (.bipush 8, 2) := by decide +kernel
theorem dJ6_bitCount_0f7a4_38 : decode cJ6_bitCount_0f7a4 38 = .ok (.iushr, 1) := by decide +kernel
theorem dJ6_bitCount_0f7a4_39 : decode cJ6_bitCount_0f7a4 39 = .ok (.iadd, 1) := by decide +kernel
theorem dJ6_bitCount_0f7a4_40 : decode cJ6_bitCount_0f7a4 40 = .ok (.istore_n 0, 1) := by decide +kernel
theorem dJ6_bitCount_0f7a4_41 : decode cJ6_bitCount_0f7a4 41 = .ok (.iload_n 0, 1) := by decide +kernel
theorem dJ6_bitCount_0f7a4_42 : decode cJ6_bitCount_0f7a4 42 = .ok (.iload_n 0, 1) := by decide +kernel
theorem dJ6_bitCount_0f7a4_43 : decode cJ6_bitCount_0f7a4 43 = .ok (.bipush 16, 2) := by decide +kernel
theorem dJ6_bitCount_0f7a4_45 : decode cJ6_bitCount_0f7a4 45 = .ok (.iushr, 1) := by decide +kernel
theorem dJ6_bitCount_0f7a4_46 : decode cJ6_bitCount_0f7a4 46 = .ok (.iadd, 1) := by decide +kernel
theorem dJ6_bitCount_0f7a4_47 : decode cJ6_bitCount_0f7a4 47 = .ok (.istore_n 0, 1) := by decide +kernel
theorem dJ6_bitCount_0f7a4_48 : decode cJ6_bitCount_0f7a4 48 = .ok (.iload_n 0, 1) := by decide +kernel
theorem dJ6_bitCount_0f7a4_49 : decode cJ6_bitCount_0f7a4 49 = .ok (.bipush 63, 2) := by decide +kernel
theorem dJ6_bitCount_0f7a4_51 : decode cJ6_bitCount_0f7a4 51 = .ok (.iand, 1) := by decide +kernel
theorem dJ6_bitCount_0f7a4_52 : decode cJ6_bitCount_0f7a4 52 = .ok (.ireturn, 1) := by decide +kernel
theorem dJ13_bitCount_95d88_0 : decode cJ13_bitCount_95d88 0 = .ok (.lload_n 0, 1) := by decide +kernel
theorem dJ13_bitCount_95d88_1 : decode cJ13_bitCount_95d88 1 = .ok (.lload_n 0, 1) := by decide +kernel
theorem dJ13_bitCount_95d88_2 : decode cJ13_bitCount_95d88 2 = .ok (.iconst 1, 1) := by decide +kernel
theorem dJ13_bitCount_95d88_3 : decode cJ13_bitCount_95d88 3 = .ok (.lushr, 1) := by decide +kernel
theorem dJ13_bitCount_95d88_4 : decode cJ13_bitCount_95d88 4 = .ok (.ldc2_w 314, 3) := by decide +kernel
theorem dJ13_bitCount_95d88_7 : decode cJ13_bitCount_95d88 7 = .ok (.land, 1) := by decide +kernel
theorem dJ13_bitCount_95d88_8 : decode cJ13_bitCount_95d88 8 = .ok (.lsub, 1) := by decide +kernel
theorem dJ13_bitCount_95d88_9 : decode cJ13_bitCount_95d88 9 = .ok (.lstore_n 0, 1) := by decide +kernel
theorem dJ13_bitCount_95d88_10 : decode cJ13_bitCount_95d88 10 = .ok (.lload_n 0, 1) := by decide +kernel
theorem dJ13_bitCount_95d88_11 : decode cJ13_bitCount_95d88 11 = .ok (.ldc2_w 316, 3) := by decide +kernel
theorem dJ13_bitCount_95d88_14 : decode cJ13_bitCount_95d88 14 = .ok (.land, 1) := by decide +kernel
theorem dJ13_bitCount_95d88_15 : decode cJ13_bitCount_95d88 15 = .ok (.lload_n 0, 1) := by decide +kernel
theorem dJ13_bitCount_95d88_16 : decode cJ13_bitCount_95d88 16 = .ok (.iconst 2, 1) := by decide +kernel
theorem dJ13_bitCount_95d88_17 : decode cJ13_bitCount_95d88 17 = .ok (.lushr, 1) := by decide +kernel
theorem dJ13_bitCount_95d88_18 : decode cJ13_bitCount_95d88 18 = .ok (.ldc2_w 316, 3) := by decide +kernel
theorem dJ13_bitCount_95d88_21 : decode cJ13_bitCount_95d88 21 = .ok (.land, 1) := by decide +kernel
theorem dJ13_bitCount_95d88_22 : decode cJ13_bitCount_95d88 22 = .ok (.ladd, 1) := by decide +kernel
theorem dJ13_bitCount_95d88_23 : decode cJ13_bitCount_95d88 23 = .ok (.lstore_n 0, 1) := by decide +kernel
theorem dJ13_bitCount_95d88_24 : decode cJ13_bitCount_95d88 24 = .ok (.lload_n 0, 1) := by decide +kernel
theorem dJ13_bitCount_95d88_25 : decode cJ13_bitCount_95d88 25 = .ok (.lload_n 0, 1) := by decide +kernel
theorem dJ13_bitCount_95d88_26 : decode cJ13_bitCount_95d88 26 = .ok (.iconst 4, 1) := by decide +kernel
theorem dJ13_bitCount_95d88_27 : decode cJ13_bitCount_95d88 27 = .ok (.lushr, 1) := by decide +kernel
theorem dJ13_bitCount_95d88_28 : decode cJ13_bitCount_95d88 28 = .ok (.ladd, 1) := by decide +kernel
theorem dJ13_bitCount_95d88_29 : decode cJ13_bitCount_95d88 29 = .ok (.ldc2_w 318, 3) := by decide +kernel
theorem dJ13_bitCount_95d88_32 : decode cJ13_bitCount_95d88 32 = .ok (.land, 1) := by decide +kernel
theorem dJ13_bitCount_95d88_33 : decode cJ13_bitCount_95d88 33 = .ok (.lstore_n 0, 1) := by decide +kernel
theorem dJ13_bitCount_95d88_34 : decode cJ13_bitCount_95d88 34 = .ok (.lload_n 0, 1) := by decide +kernel
theorem dJ13_bitCount_95d88_35 : decode cJ13_bitCount_95d88 35 = .ok (.lload_n 0, 1) := by decide +kernel
theorem dJ13_bitCount_95d88_36 : decode cJ13_bitCount_95d88 36 = .ok (.bipush 8, 2) := by decide +kernel
theorem dJ13_bitCount_95d88_38 : decode cJ13_bitCount_95d88 38 = .ok (.lushr, 1) := by decide +kernel
theorem dJ13_bitCount_95d88_39 : decode cJ13_bitCount_95d88 39 = .ok (.ladd, 1) := by decide +kernel
theorem dJ13_bitCount_95d88_40 : decode cJ13_bitCount_95d88 40 = .ok (.lstore_n 0, 1) := by decide +kernel
theorem dJ13_bitCount_95d88_41 : decode cJ13_bitCount_95d88 41 = .ok (.lload_n 0, 1) := by decide +kernel
theorem dJ13_bitCount_95d88_42 : decode cJ13_bitCount_95d88 42 = .ok (.lload_n 0, 1) := by decide +kernel
theorem dJ13_bitCount_95d88_43 : decode cJ13_bitCount_95d88 43 = .ok (.bipush 16, 2) := by decide +kernel
theorem dJ13_bitCount_95d88_45 : decode cJ13_bitCount_95d88 45 = .ok (.lushr, 1) := by decide +kernel
theorem dJ13_bitCount_95d88_46 : decode cJ13_bitCount_95d88 46 = .ok (.ladd, 1) := by decide +kernel
theorem dJ13_bitCount_95d88_47 : decode cJ13_bitCount_95d88 47 = .ok (.lstore_n 0, 1) := by decide +kernel
theorem dJ13_bitCount_95d88_48 : decode cJ13_bitCount_95d88 48 = .ok (.lload_n 0, 1) := by decide +kernel
theorem dJ13_bitCount_95d88_49 : decode cJ13_bitCount_95d88 49 = .ok (.lload_n 0, 1) := by decide +kernel
theorem dJ13_bitCount_95d88_50 : decode cJ13_bitCount_95d88 50 = .ok (.bipush 32, 2) := by decide +kernel
theorem dJ13_bitCount_95d88_52 : decode cJ13_bitCount_95d88 52 = .ok (.lushr, 1) := by decide +kernel
theorem dJ13_bitCount_95d88_53 : decode cJ13_bitCount_95d88 53 = .ok (.ladd, 1) := by decide +kernel
theorem dJ13_bitCount_95d88_54 : decode cJ13_bitCount_95d88 54 = .ok (.lstore_n 0, 1) := by decide +kernel
theorem dJ13_bitCount_95d88_55 : decode cJ13_bitCount_95d88 55 = .ok (.lload_n 0, 1) := by decide +kernel
theorem dJ13_bitCount_95d88_56 : decode cJ13_bitCount_95d88 56 = .ok (.l2i, 1) := by decide +kernel
theorem dJ13_bitCount_95d88_57 : decode cJ13_bitCount_95d88 57 = .ok (.bipush 127, 2) := by decide +kernel
theorem dJ13_bitCount_95d88_59 : decode cJ13_bitCount_95d88 59 = .ok (.iand, 1) := by decide +kernel
theorem dJ13_bitCount_95d88_60 : decode cJ13_bitCount_95d88 60 = .ok (.ireturn, 1) := by decide +kernel
theorem dJ9_abs_0f7a4_0 : decode cJ9_abs_0f7a4 0 = .ok (.iload_n 0, 1) := by decide +kernel
theorem dJ9_abs_0f7a4_1 : decode cJ9_abs_0f7a4 1 = .ok (.ifCond .ge 8, 3) := by decide +kernel
theorem dJ9_abs_0f7a4_4 : decode cJ9_abs_0f7a4 4 = .ok (.iload_n 0, 1) := by decide +kernel
theorem dJ9_abs_0f7a4_5 : decode cJ9_abs_0f7a4 5 = .ok (.ineg, 1) := by decide +kernel
theorem dJ9_abs_0f7a4_6 : decode cJ9_abs_0f7a4 6 = .ok (.goto 4, 3) := by decide +kernel
theorem dJ9_abs_0f7a4_9 : decode cJ9_abs_0f7a4 9 = .ok (.iload_n 0, 1) := by decide +kernel
theorem dJ9_abs_0f7a4_10 : decode cJ9_abs_0f7a4 10 = .ok (.ireturn, 1) := by decide +kernel
theorem dJ9_max_7cf53_0 : decode cJ9_max_7cf53 0 = .ok (.iload_n 0, 1) := by decide +kernel
theorem dJ9_max_7cf53_1 : decode cJ9_max_7cf53 1 = .ok (.iload_n 1, 1) := by decide +kernel
theorem dJ9_max_7cf53_2 : decode cJ9_max_7cf53 2 = .ok (.if_icmp .lt 7, 3) := by decide +kernel
theorem dJ9_max_7cf53_5 : decode cJ9_max_7cf53 5 = .ok (.iload_n 0, 1) := by decide +kernel
theorem dJ9_max_7cf53_6 : decode cJ9_max_7cf53 6 = .ok (.goto 4, 3) := by decide +kernel
theorem dJ9_max_7cf53_9 : decode cJ9_max_7cf53 9 = .ok (.iload_n 1, 1) := by decide +kernel
theorem dJ9_max_7cf53_10 : decode cJ9_max_7cf53 10 = .ok (.ireturn, 1) := by decide +kernel
theorem dJ9_min_7cf53_0 : decode cJ9_min_7cf53 0 = .ok (.iload_n 0, 1) := by decide +kernel
theorem dJ9_min_7cf53_1 : decode cJ9_min_7cf53 1 = .ok (.iload_n 1, 1) := by decide +kernel
theorem dJ9_min_7cf53_2 : decode cJ9_min_7cf53 2 = .ok (.if_icmp .gt 7, 3) := by decide +kernel
theorem dJ9_min_7cf53_5 : decode cJ9_min_7cf53 5 = .ok (.iload_n 0, 1) := by decide +kernel
theorem dJ9_min_7cf53_6 : decode cJ9_min_7cf53 6 = .ok (.goto 4, 3) := by decide +kernel
theorem dJ9_min_7cf53_9 : decode cJ9_min_7cf53 9 = .ok (.iload_n 1, 1) := by decide +kernel
theorem dJ9_min_7cf53_10 : decode cJ9_min_7cf53 10 = .ok (.ireturn, 1) := by decide +kernel
theorem dL_tell_0 : decode cL_tell 0 = .ok (.aload 4, 2) := by decide +kernel
theorem dL_tell_2 : decode cL_tell 2 = .ok (.iconst 0, 1) := by decide +kernel
theorem dL_tell_3 : decode cL_tell 3 = .ok (.aload_n 0, 1) := by decide +kernel
theorem dL_tell_4 : decode cL_tell 4 = .ok (.iload_n 1, 1) := by decide +kernel
theorem dL_tell_5 : decode cL_tell 5 = .ok (.iload_n 2, 1) := by decide +kernel
theorem dL_tell_6 : decode cL_tell 6 = .ok (.iload_n 3, 1) := by decide +kernel
theorem dL_tell_7 : decode cL_tell 7 = .ok (.invokevirtual 7, 3) := by decide +kernel
theorem dL_tell_10 : decode cL_tell 10 = .ok (.i2l, 1) := by decide +kernel
theorem dL_tell_11 : decode cL_tell 11 = .ok (.lastore, 1) := by decide +kernel
theorem dL_tell_12 : decode cL_tell 12 = .ok (.goto 11, 3) := by decide +kernel
theorem dL_tell_15 : decode cL_tell 15 = .ok (.astore 5, 2) := by decide +kernel
theorem dL_tell_17 : decode cL_tell 17 = .ok (.iconst 1, 1) := by decide +kernel
theorem dL_tell_18 : decode cL_tell 18 = .ok (.ireturn, 1) := by decide +kernel
theorem dL_tell_19 : decode cL_tell 19 = .ok (.astore 5, 2) := by decide +kernel
theorem dL_tell_21 : decode cL_tell 21 = .ok (.iconst 2, 1) := by decide +kernel
theorem dL_tell_22 : decode cL_tell 22 = .ok (.ireturn, 1) := by decide +kernel
theorem dL_tell_23 : decode cL_tell 23 = .ok (.iconst 0, 1) := by decide +kernel
theorem dL_tell_24 : decode cL_tell 24 = .ok (.ireturn, 1) := by decide +kernel
theorem dL_untell_0 : decode cL_untell 0 = .ok (.aload 4, 2) := by decide +kernel
theorem dL_untell_2 : decode cL_untell 2 = .ok (.iconst 0, 1) := by decide +kernel
theorem dL_untell_3 : decode cL_untell 3 = .ok (.aload_n 0, 1) := by decide +kernel
theorem dL_untell_4 : decode cL_untell 4 = .ok (.iload_n 1, 1) := by decide +kernel
theorem dL_untell_5 : decode cL_untell 5 = .ok (.iload_n 2, 1) := by decide +kernel
theorem dL_untell_6 : decode cL_untell 6 = .ok (.iload_n 3, 1) := by decide +kernel
theorem dL_untell_7 : decode cL_untell 7 = .ok (.invokevirtual 17, 3) := by decide +kernel
theorem dL_untell_10 : decode cL_untell 10 = .ok (.i2l, 1) := by decide +kernel
theorem dL_untell_11 : decode cL_untell 11 = .ok (.lastore, 1) := by decide +kernel
theorem dL_untell_12 : decode cL_untell 12 = .ok (.goto 11, 3) := by decide +kernel
theorem dL_untell_15 : decode cL_untell 15 = .ok (.astore 5, 2) := by decide +kernel
theorem dL_untell_17 : decode cL_untell 17 = .ok (.iconst 1, 1) := by decide +kernel
theorem dL_untell_18 : decode cL_untell 18 = .ok (.ireturn, 1) := by decide +kernel
theorem dL_untell_19 : decode cL_untell 19 = .ok (.astore 5, 2) := by decide +kernel
theorem dL_untell_21 : decode cL_untell 21 = .ok (.iconst 2, 1) := by decide +kernel
theorem dL_untell_22 : decode cL_untell 22 = .ok (.ireturn, 1) := by decide +kernel
theorem dL_untell_23 : decode cL_untell 23 = .ok (.iconst 0, 1) := by decide +kernel
theorem dL_untell_24 : decode cL_untell 24 = .ok (.ireturn, 1) := by decide +kernel
theorem dL_holds_0 : decode cL_holds 0 = .ok (.aload 5, 2) := by decide +kernel
theorem dL_holds_2 : decode cL_holds 2 = .ok (.iconst 0, 1) := by decide +kernel
theorem dL_holds_3 : decode cL_holds 3 = .ok (.aload_n 0, 1) := by decide +kernel
theorem dL_holds_4 : decode cL_holds 4 = .ok (.iload_n 1, 1) := by decide +kernel
theorem dL_holds_5 : decode cL_holds 5 = .ok (.iload_n 2, 1) := by decide +kernel
theorem dL_holds_6 : decode cL_holds 6 = .ok (.iload_n 3, 1) := by decide +kernel
theorem dL_holds_7 : decode cL_holds 7 = .ok (.iload 4, 2) := by decide +kernel
theorem dL_holds_9 : decode cL_holds 9 = .ok (.invokevirtual 20, 3) := by decide +kernel
theorem dL_holds_12 : decode cL_holds 12 = .ok (.ifCond .eq 7, 3) := by decide +kernel
theorem dL_holds_15 : decode cL_holds 15 = .ok (.lconst 1, 1) := by decide +kernel
theorem dL_holds_16 : decode cL_holds 16 = .ok (.goto 4, 3) := by decide +kernel
theorem dL_holds_19 : decode cL_holds 19 = .ok (.lconst 0, 1) := by decide +kernel
theorem dL_holds_20 : decode cL_holds 20 = .ok (.lastore, 1) := by decide +kernel
theorem dL_holds_21 : decode cL_holds 21 = .ok (.goto 7, 3) := by decide +kernel
theorem dL_holds_24 : decode cL_holds 24 = .ok (.astore 6, 2) := by decide +kernel
theorem dL_holds_26 : decode cL_holds 26 = .ok (.iconst 1, 1) := by decide +kernel
theorem dL_holds_27 : decode cL_holds 27 = .ok (.ireturn, 1) := by decide +kernel
theorem dL_holds_28 : decode cL_holds 28 = .ok (.iconst 0, 1) := by decide +kernel
theorem dL_holds_29 : decode cL_holds 29 = .ok (.ireturn, 1) := by decide +kernel
theorem dL_isTold_0 : decode cL_isTold 0 = .ok (.aload 4, 2) := by decide +kernel
theorem dL_isTold_2 : decode cL_isTold 2 = .ok (.iconst 0, 1) := by decide +kernel
theorem dL_isTold_3 : decode cL_isTold 3 = .ok (.aload_n 0, 1) := by decide +kernel
theorem dL_isTold_4 : decode cL_isTold 4 = .ok (.iload_n 1, 1) := by decide +kernel
theorem dL_isTold_5 : decode cL_isTold 5 = .ok (.iload_n 2, 1) := by decide +kernel
theorem dL_isTold_6 : decode cL_isTold 6 = .ok (.iload_n 3, 1) := by decide +kernel
theorem dL_isTold_7 : decode cL_isTold 7 = .ok (.invokevirtual 24, 3) := by decide +kernel
theorem dL_isTold_10 : decode cL_isTold 10 = .ok (.ifCond .eq 7, 3) := by decide +kernel
theorem dL_isTold_13 : decode cL_isTold 13 = .ok (.lconst 1, 1) := by decide +kernel
theorem dL_isTold_14 : decode cL_isTold 14 = .ok (.goto 4, 3) := by decide +kernel
theorem dL_isTold_17 : decode cL_isTold 17 = .ok (.lconst 0, 1) := by decide +kernel
theorem dL_isTold_18 : decode cL_isTold 18 = .ok (.lastore, 1) := by decide +kernel
theorem dL_isTold_19 : decode cL_isTold 19 = .ok (.goto 7, 3) := by decide +kernel
theorem dL_isTold_22 : decode cL_isTold 22 = .ok (.astore 5, 2) := by decide +kernel
theorem dL_isTold_24 : decode cL_isTold 24 = .ok (.iconst 1, 1) := by decide +kernel
theorem dL_isTold_25 : decode cL_isTold 25 = .ok (.ireturn, 1) := by decide +kernel
theorem dL_isTold_26 : decode cL_isTold 26 = .ok (.iconst 0, 1) := by decide +kernel
theorem dL_isTold_27 : decode cL_isTold 27 = .ok (.ireturn, 1) := by decide +kernel
theorem dL_factOf_0 : decode cL_factOf 0 = .ok (.aload 5, 2) := by decide +kernel
theorem dL_factOf_2 : decode cL_factOf 2 = .ok (.iconst 0, 1) := by decide +kernel
theorem dL_factOf_3 : decode cL_factOf 3 = .ok (.aload_n 0, 1) := by decide +kernel
theorem dL_factOf_4 : decode cL_factOf 4 = .ok (.iload_n 1, 1) := by decide +kernel
theorem dL_factOf_5 : decode cL_factOf 5 = .ok (.iload_n 2, 1) := by decide +kernel
theorem dL_factOf_6 : decode cL_factOf 6 = .ok (.iload_n 3, 1) := by decide +kernel
theorem dL_factOf_7 : decode cL_factOf 7 = .ok (.iload 4, 2) := by decide +kernel
theorem dL_factOf_9 : decode cL_factOf 9 = .ok (.invokevirtual 28, 3) := by decide +kernel
theorem dL_factOf_12 : decode cL_factOf 12 = .ok (.i2l, 1) := by decide +kernel
theorem dL_factOf_13 : decode cL_factOf 13 = .ok (.lastore, 1) := by decide +kernel
theorem dL_factOf_14 : decode cL_factOf 14 = .ok (.goto 15, 3) := by decide +kernel
theorem dL_factOf_17 : decode cL_factOf 17 = .ok (.astore 6, 2) := by decide +kernel
theorem dL_factOf_19 : decode cL_factOf 19 = .ok (.iconst 1, 1) := by decide +kernel
theorem dL_factOf_20 : decode cL_factOf 20 = .ok (.ireturn, 1) := by decide +kernel
theorem dL_factOf_21 : decode cL_factOf 21 = .ok (.astore 6, 2) := by decide +kernel
theorem dL_factOf_23 : decode cL_factOf 23 = .ok (.iconst 2, 1) := by decide +kernel
theorem dL_factOf_24 : decode cL_factOf 24 = .ok (.ireturn, 1) := by decide +kernel
theorem dL_factOf_25 : decode cL_factOf 25 = .ok (.astore 6, 2) := by decide +kernel
theorem dL_factOf_27 : decode cL_factOf 27 = .ok (.iconst 3, 1) := by decide +kernel
theorem dL_factOf_28 : decode cL_factOf 28 = .ok (.ireturn, 1) := by decide +kernel
theorem dL_factOf_29 : decode cL_factOf 29 = .ok (.iconst 0, 1) := by decide +kernel
theorem dL_factOf_30 : decode cL_factOf 30 = .ok (.ireturn, 1) := by decide +kernel
theorem dL_ways_0 : decode cL_ways 0 = .ok (.aload 4, 2) := by decide +kernel
theorem dL_ways_2 : decode cL_ways 2 = .ok (.iconst 0, 1) := by decide +kernel
theorem dL_ways_3 : decode cL_ways 3 = .ok (.aload_n 0, 1) := by decide +kernel
theorem dL_ways_4 : decode cL_ways 4 = .ok (.iload_n 1, 1) := by decide +kernel
theorem dL_ways_5 : decode cL_ways 5 = .ok (.iload_n 2, 1) := by decide +kernel
theorem dL_ways_6 : decode cL_ways 6 = .ok (.iload_n 3, 1) := by decide +kernel
theorem dL_ways_7 : decode cL_ways 7 = .ok (.invokevirtual 36, 3) := by decide +kernel
theorem dL_ways_10 : decode cL_ways 10 = .ok (.i2l, 1) := by decide +kernel
theorem dL_ways_11 : decode cL_ways 11 = .ok (.lastore, 1) := by decide +kernel
theorem dL_ways_12 : decode cL_ways 12 = .ok (.goto 7, 3) := by decide +kernel
theorem dL_ways_15 : decode cL_ways 15 = .ok (.astore 5, 2) := by decide +kernel
theorem dL_ways_17 : decode cL_ways 17 = .ok (.iconst 1, 1) := by decide +kernel
theorem dL_ways_18 : decode cL_ways 18 = .ok (.ireturn, 1) := by decide +kernel
theorem dL_ways_19 : decode cL_ways 19 = .ok (.iconst 0, 1) := by decide +kernel
theorem dL_ways_20 : decode cL_ways 20 = .ok (.ireturn, 1) := by decide +kernel
theorem dL_would_0 : decode cL_would 0 = .ok (.aload 4, 2) := by decide +kernel
theorem dL_would_2 : decode cL_would 2 = .ok (.iconst 0, 1) := by decide +kernel
theorem dL_would_3 : decode cL_would 3 = .ok (.aload_n 0, 1) := by decide +kernel
theorem dL_would_4 : decode cL_would 4 = .ok (.iload_n 1, 1) := by decide +kernel
theorem dL_would_5 : decode cL_would 5 = .ok (.iload_n 2, 1) := by decide +kernel
theorem dL_would_6 : decode cL_would 6 = .ok (.iload_n 3, 1) := by decide +kernel
theorem dL_would_7 : decode cL_would 7 = .ok (.invokevirtual 39, 3) := by decide +kernel
theorem dL_would_10 : decode cL_would 10 = .ok (.i2l, 1) := by decide +kernel
theorem dL_would_11 : decode cL_would 11 = .ok (.lastore, 1) := by decide +kernel
theorem dL_would_12 : decode cL_would 12 = .ok (.goto 7, 3) := by decide +kernel
theorem dL_would_15 : decode cL_would 15 = .ok (.astore 5, 2) := by decide +kernel
theorem dL_would_17 : decode cL_would 17 = .ok (.iconst 1, 1) := by decide +kernel
theorem dL_would_18 : decode cL_would 18 = .ok (.ireturn, 1) := by decide +kernel
theorem dL_would_19 : decode cL_would 19 = .ok (.iconst 0, 1) := by decide +kernel
theorem dL_would_20 : decode cL_would 20 = .ok (.ireturn, 1) := by decide +kernel
theorem dL_kin_0 : decode cL_kin 0 = .ok (.aload_n 3, 1) := by decide +kernel
theorem dL_kin_1 : decode cL_kin 1 = .ok (.iconst 0, 1) := by decide +kernel
theorem dL_kin_2 : decode cL_kin 2 = .ok (.aload_n 0, 1) := by decide +kernel
theorem dL_kin_3 : decode cL_kin 3 = .ok (.iload_n 1, 1) := by decide +kernel
theorem dL_kin_4 : decode cL_kin 4 = .ok (.iload_n 2, 1) := by decide +kernel
theorem dL_kin_5 : decode cL_kin 5 = .ok (.invokevirtual 42, 3) := by decide +kernel
theorem dL_kin_8 : decode cL_kin 8 = .ok (.i2l, 1) := by decide +kernel
theorem dL_kin_9 : decode cL_kin 9 = .ok (.lastore, 1) := by decide +kernel
theorem dL_kin_10 : decode cL_kin 10 = .ok (.goto 7, 3) := by decide +kernel
theorem dL_kin_13 : decode cL_kin 13 = .ok (.astore 4, 2) := by decide +kernel
theorem dL_kin_15 : decode cL_kin 15 = .ok (.iconst 1, 1) := by decide +kernel
theorem dL_kin_16 : decode cL_kin 16 = .ok (.ireturn, 1) := by decide +kernel
theorem dL_kin_17 : decode cL_kin 17 = .ok (.iconst 0, 1) := by decide +kernel
theorem dL_kin_18 : decode cL_kin 18 = .ok (.ireturn, 1) := by decide +kernel
theorem dL_relationOf_0 : decode cL_relationOf 0 = .ok (.aload_n 3, 1) := by decide +kernel
theorem dL_relationOf_1 : decode cL_relationOf 1 = .ok (.iconst 0, 1) := by decide +kernel
theorem dL_relationOf_2 : decode cL_relationOf 2 = .ok (.aload_n 0, 1) := by decide +kernel
theorem dL_relationOf_3 : decode cL_relationOf 3 = .ok (.iload_n 1, 1) := by decide +kernel
theorem dL_relationOf_4 : decode cL_relationOf 4 = .ok (.iload_n 2, 1) := by decide +kernel
theorem dL_relationOf_5 : decode cL_relationOf 5 = .ok (.invokevirtual 46, 3) := by decide +kernel
theorem dL_relationOf_8 : decode cL_relationOf 8 = .ok (.i2l, 1) := by decide +kernel
theorem dL_relationOf_9 : decode cL_relationOf 9 = .ok (.lastore, 1) := by decide +kernel
theorem dL_relationOf_10 : decode cL_relationOf 10 = .ok (.goto 11, 3) := by decide +kernel
theorem dL_relationOf_13 : decode cL_relationOf 13 = .ok (.astore 4, 2) := by decide +kernel
theorem dL_relationOf_15 : decode cL_relationOf 15 = .ok (.iconst 1, 1) := by decide +kernel
theorem dL_relationOf_16 : decode cL_relationOf 16 = .ok (.ireturn, 1) := by decide +kernel
theorem dL_relationOf_17 : decode cL_relationOf 17 = .ok (.astore 4, 2) := by decide +kernel
theorem dL_relationOf_19 : decode cL_relationOf 19 = .ok (.iconst 2, 1) := by decide +kernel
theorem dL_relationOf_20 : decode cL_relationOf 20 = .ok (.ireturn, 1) := by decide +kernel
theorem dL_relationOf_21 : decode cL_relationOf 21 = .ok (.iconst 0, 1) := by decide +kernel
theorem dL_relationOf_22 : decode cL_relationOf 22 = .ok (.ireturn, 1) := by decide +kernel
theorem dL_ranked_0 : decode cL_ranked 0 = .ok (.aload_n 2, 1) := by decide +kernel
theorem dL_ranked_1 : decode cL_ranked 1 = .ok (.iconst 0, 1) := by decide +kernel
theorem dL_ranked_2 : decode cL_ranked 2 = .ok (.aload_n 0, 1) := by decide +kernel
theorem dL_ranked_3 : decode cL_ranked 3 = .ok (.iload_n 1, 1) := by decide +kernel
theorem dL_ranked_4 : decode cL_ranked 4 = .ok (.invokevirtual 49, 3) := by decide +kernel
theorem dL_ranked_7 : decode cL_ranked 7 = .ok (.i2l, 1) := by decide +kernel
theorem dL_ranked_8 : decode cL_ranked 8 = .ok (.lastore, 1) := by decide +kernel
theorem dL_ranked_9 : decode cL_ranked 9 = .ok (.goto 6, 3) := by decide +kernel
theorem dL_ranked_12 : decode cL_ranked 12 = .ok (.astore_n 3, 1) := by decide +kernel
theorem dL_ranked_13 : decode cL_ranked 13 = .ok (.iconst 1, 1) := by decide +kernel
theorem dL_ranked_14 : decode cL_ranked 14 = .ok (.ireturn, 1) := by decide +kernel
theorem dL_ranked_15 : decode cL_ranked 15 = .ok (.iconst 0, 1) := by decide +kernel
theorem dL_ranked_16 : decode cL_ranked 16 = .ok (.ireturn, 1) := by decide +kernel
theorem dL_isMutual_0 : decode cL_isMutual 0 = .ok (.aload_n 2, 1) := by decide +kernel
theorem dL_isMutual_1 : decode cL_isMutual 1 = .ok (.iconst 0, 1) := by decide +kernel
theorem dL_isMutual_2 : decode cL_isMutual 2 = .ok (.aload_n 0, 1) := by decide +kernel
theorem dL_isMutual_3 : decode cL_isMutual 3 = .ok (.iload_n 1, 1) := by decide +kernel
theorem dL_isMutual_4 : decode cL_isMutual 4 = .ok (.invokevirtual 53, 3) := by decide +kernel
theorem dL_isMutual_7 : decode cL_isMutual 7 = .ok (.ifCond .eq 7, 3) := by decide +kernel
theorem dL_isMutual_10 : decode cL_isMutual 10 = .ok (.lconst 1, 1) := by decide +kernel
theorem dL_isMutual_11 : decode cL_isMutual 11 = .ok (.goto 4, 3) := by decide +kernel
theorem dL_isMutual_14 : decode cL_isMutual 14 = .ok (.lconst 0, 1) := by decide +kernel
theorem dL_isMutual_15 : decode cL_isMutual 15 = .ok (.lastore, 1) := by decide +kernel
theorem dL_isMutual_16 : decode cL_isMutual 16 = .ok (.goto 6, 3) := by decide +kernel
theorem dL_isMutual_19 : decode cL_isMutual 19 = .ok (.astore_n 3, 1) := by decide +kernel
theorem dL_isMutual_20 : decode cL_isMutual 20 = .ok (.iconst 1, 1) := by decide +kernel
theorem dL_isMutual_21 : decode cL_isMutual 21 = .ok (.ireturn, 1) := by decide +kernel
theorem dL_isMutual_22 : decode cL_isMutual 22 = .ok (.iconst 0, 1) := by decide +kernel
theorem dL_isMutual_23 : decode cL_isMutual 23 = .ok (.ireturn, 1) := by decide +kernel
theorem dL_rule_0 : decode cL_rule 0 = .ok (.aload 5, 2) := by decide +kernel
theorem dL_rule_2 : decode cL_rule 2 = .ok (.iconst 0, 1) := by decide +kernel
theorem dL_rule_3 : decode cL_rule 3 = .ok (.aload_n 0, 1) := by decide +kernel
theorem dL_rule_4 : decode cL_rule 4 = .ok (.iload_n 1, 1) := by decide +kernel
theorem dL_rule_5 : decode cL_rule 5 = .ok (.iload_n 2, 1) := by decide +kernel
theorem dL_rule_6 : decode cL_rule 6 = .ok (.iload_n 3, 1) := by decide +kernel
theorem dL_rule_7 : decode cL_rule 7 = .ok (.iload 4, 2) := by decide +kernel
theorem dL_rule_9 : decode cL_rule 9 = .ok (.invokevirtual 57, 3) := by decide +kernel
theorem dL_rule_12 : decode cL_rule 12 = .ok (.i2l, 1) := by decide +kernel
theorem dL_rule_13 : decode cL_rule 13 = .ok (.lastore, 1) := by decide +kernel
theorem dL_rule_14 : decode cL_rule 14 = .ok (.goto 11, 3) := by decide +kernel
theorem dL_rule_17 : decode cL_rule 17 = .ok (.astore 6, 2) := by decide +kernel
theorem dL_rule_19 : decode cL_rule 19 = .ok (.iconst 1, 1) := by decide +kernel
theorem dL_rule_20 : decode cL_rule 20 = .ok (.ireturn, 1) := by decide +kernel
theorem dL_rule_21 : decode cL_rule 21 = .ok (.astore 6, 2) := by decide +kernel
theorem dL_rule_23 : decode cL_rule 23 = .ok (.iconst 2, 1) := by decide +kernel
theorem dL_rule_24 : decode cL_rule 24 = .ok (.ireturn, 1) := by decide +kernel
theorem dL_rule_25 : decode cL_rule 25 = .ok (.iconst 0, 1) := by decide +kernel
theorem dL_rule_26 : decode cL_rule 26 = .ok (.ireturn, 1) := by decide +kernel
theorem dL_drop_0 : decode cL_drop 0 = .ok (.aload_n 2, 1) := by decide +kernel
theorem dL_drop_1 : decode cL_drop 1 = .ok (.iconst 0, 1) := by decide +kernel
theorem dL_drop_2 : decode cL_drop 2 = .ok (.aload_n 0, 1) := by decide +kernel
theorem dL_drop_3 : decode cL_drop 3 = .ok (.iload_n 1, 1) := by decide +kernel
theorem dL_drop_4 : decode cL_drop 4 = .ok (.invokevirtual 60, 3) := by decide +kernel
theorem dL_drop_7 : decode cL_drop 7 = .ok (.i2l, 1) := by decide +kernel
theorem dL_drop_8 : decode cL_drop 8 = .ok (.lastore, 1) := by decide +kernel
theorem dL_drop_9 : decode cL_drop 9 = .ok (.goto 6, 3) := by decide +kernel
theorem dL_drop_12 : decode cL_drop 12 = .ok (.astore_n 3, 1) := by decide +kernel
theorem dL_drop_13 : decode cL_drop 13 = .ok (.iconst 1, 1) := by decide +kernel
theorem dL_drop_14 : decode cL_drop 14 = .ok (.ireturn, 1) := by decide +kernel
theorem dL_drop_15 : decode cL_drop 15 = .ok (.iconst 0, 1) := by decide +kernel
theorem dL_drop_16 : decode cL_drop 16 = .ok (.ireturn, 1) := by decide +kernel
theorem dL_ruleOf_0 : decode cL_ruleOf 0 = .ok (.aload_n 3, 1) := by decide +kernel
theorem dL_ruleOf_1 : decode cL_ruleOf 1 = .ok (.iconst 0, 1) := by decide +kernel
theorem dL_ruleOf_2 : decode cL_ruleOf 2 = .ok (.aload_n 0, 1) := by decide +kernel
theorem dL_ruleOf_3 : decode cL_ruleOf 3 = .ok (.iload_n 1, 1) := by decide +kernel
theorem dL_ruleOf_4 : decode cL_ruleOf 4 = .ok (.iload_n 2, 1) := by decide +kernel
theorem dL_ruleOf_5 : decode cL_ruleOf 5 = .ok (.invokevirtual 63, 3) := by decide +kernel
theorem dL_ruleOf_8 : decode cL_ruleOf 8 = .ok (.i2l, 1) := by decide +kernel
theorem dL_ruleOf_9 : decode cL_ruleOf 9 = .ok (.lastore, 1) := by decide +kernel
theorem dL_ruleOf_10 : decode cL_ruleOf 10 = .ok (.goto 11, 3) := by decide +kernel
theorem dL_ruleOf_13 : decode cL_ruleOf 13 = .ok (.astore 4, 2) := by decide +kernel
theorem dL_ruleOf_15 : decode cL_ruleOf 15 = .ok (.iconst 1, 1) := by decide +kernel
theorem dL_ruleOf_16 : decode cL_ruleOf 16 = .ok (.ireturn, 1) := by decide +kernel
theorem dL_ruleOf_17 : decode cL_ruleOf 17 = .ok (.astore 4, 2) := by decide +kernel
theorem dL_ruleOf_19 : decode cL_ruleOf 19 = .ok (.iconst 2, 1) := by decide +kernel
theorem dL_ruleOf_20 : decode cL_ruleOf 20 = .ok (.ireturn, 1) := by decide +kernel
theorem dL_ruleOf_21 : decode cL_ruleOf 21 = .ok (.iconst 0, 1) := by decide +kernel
theorem dL_ruleOf_22 : decode cL_ruleOf 22 = .ok (.ireturn, 1) := by decide +kernel
theorem dL_condition_0 : decode cL_condition 0 = .ok (.aload_n 3, 1) := by decide +kernel
theorem dL_condition_1 : decode cL_condition 1 = .ok (.iconst 0, 1) := by decide +kernel
theorem dL_condition_2 : decode cL_condition 2 = .ok (.aload_n 0, 1) := by decide +kernel
theorem dL_condition_3 : decode cL_condition 3 = .ok (.iload_n 1, 1) := by decide +kernel
theorem dL_condition_4 : decode cL_condition 4 = .ok (.iload_n 2, 1) := by decide +kernel
theorem dL_condition_5 : decode cL_condition 5 = .ok (.invokevirtual 66, 3) := by decide +kernel
theorem dL_condition_8 : decode cL_condition 8 = .ok (.i2l, 1) := by decide +kernel
theorem dL_condition_9 : decode cL_condition 9 = .ok (.lastore, 1) := by decide +kernel
theorem dL_condition_10 : decode cL_condition 10 = .ok (.goto 11, 3) := by decide +kernel
theorem dL_condition_13 : decode cL_condition 13 = .ok (.astore 4, 2) := by decide +kernel
theorem dL_condition_15 : decode cL_condition 15 = .ok (.iconst 1, 1) := by decide +kernel
theorem dL_condition_16 : decode cL_condition 16 = .ok (.ireturn, 1) := by decide +kernel
theorem dL_condition_17 : decode cL_condition 17 = .ok (.astore 4, 2) := by decide +kernel
theorem dL_condition_19 : decode cL_condition 19 = .ok (.iconst 2, 1) := by decide +kernel
theorem dL_condition_20 : decode cL_condition 20 = .ok (.ireturn, 1) := by decide +kernel
theorem dL_condition_21 : decode cL_condition 21 = .ok (.iconst 0, 1) := by decide +kernel
theorem dL_condition_22 : decode cL_condition 22 = .ok (.ireturn, 1) := by decide +kernel
theorem dL_wouldLayer_0 : decode cL_wouldLayer 0 = .ok (.aload 5, 2) := by decide +kernel
theorem dL_wouldLayer_2 : decode cL_wouldLayer 2 = .ok (.iconst 0, 1) := by decide +kernel
theorem dL_wouldLayer_3 : decode cL_wouldLayer 3 = .ok (.aload_n 0, 1) := by decide +kernel
theorem dL_wouldLayer_4 : decode cL_wouldLayer 4 = .ok (.iload_n 1, 1) := by decide +kernel
theorem dL_wouldLayer_5 : decode cL_wouldLayer 5 = .ok (.iload_n 2, 1) := by decide +kernel
theorem dL_wouldLayer_6 : decode cL_wouldLayer 6 = .ok (.iload_n 3, 1) := by decide +kernel
theorem dL_wouldLayer_7 : decode cL_wouldLayer 7 = .ok (.iload 4, 2) := by decide +kernel
theorem dL_wouldLayer_9 : decode cL_wouldLayer 9 = .ok (.invokevirtual 69, 3) := by decide +kernel
theorem dL_wouldLayer_12 : decode cL_wouldLayer 12 = .ok (.ifCond .eq 7, 3) := by decide +kernel
theorem dL_wouldLayer_15 : decode cL_wouldLayer 15 = .ok (.lconst 1, 1) := by decide +kernel
theorem dL_wouldLayer_16 : decode cL_wouldLayer 16 = .ok (.goto 4, 3) := by decide +kernel
theorem dL_wouldLayer_19 : decode cL_wouldLayer 19 = .ok (.lconst 0, 1) := by decide +kernel
theorem dL_wouldLayer_20 : decode cL_wouldLayer 20 = .ok (.lastore, 1) := by decide +kernel
theorem dL_wouldLayer_21 : decode cL_wouldLayer 21 = .ok (.goto 7, 3) := by decide +kernel
theorem dL_wouldLayer_24 : decode cL_wouldLayer 24 = .ok (.astore 6, 2) := by decide +kernel
theorem dL_wouldLayer_26 : decode cL_wouldLayer 26 = .ok (.iconst 1, 1) := by decide +kernel
theorem dL_wouldLayer_27 : decode cL_wouldLayer 27 = .ok (.ireturn, 1) := by decide +kernel
theorem dL_wouldLayer_28 : decode cL_wouldLayer 28 = .ok (.iconst 0, 1) := by decide +kernel
theorem dL_wouldLayer_29 : decode cL_wouldLayer 29 = .ok (.ireturn, 1) := by decide +kernel
theorem dL_rounds_0 : decode cL_rounds 0 = .ok (.aload_n 2, 1) := by decide +kernel
theorem dL_rounds_1 : decode cL_rounds 1 = .ok (.iconst 0, 1) := by decide +kernel
theorem dL_rounds_2 : decode cL_rounds 2 = .ok (.aload_n 0, 1) := by decide +kernel
theorem dL_rounds_3 : decode cL_rounds 3 = .ok (.iload_n 1, 1) := by decide +kernel
theorem dL_rounds_4 : decode cL_rounds 4 = .ok (.invokevirtual 73, 3) := by decide +kernel
theorem dL_rounds_7 : decode cL_rounds 7 = .ok (.i2l, 1) := by decide +kernel
theorem dL_rounds_8 : decode cL_rounds 8 = .ok (.lastore, 1) := by decide +kernel
theorem dL_rounds_9 : decode cL_rounds 9 = .ok (.goto 6, 3) := by decide +kernel
theorem dL_rounds_12 : decode cL_rounds 12 = .ok (.astore_n 3, 1) := by decide +kernel
theorem dL_rounds_13 : decode cL_rounds 13 = .ok (.iconst 1, 1) := by decide +kernel
theorem dL_rounds_14 : decode cL_rounds 14 = .ok (.ireturn, 1) := by decide +kernel
theorem dL_rounds_15 : decode cL_rounds 15 = .ok (.iconst 0, 1) := by decide +kernel
theorem dL_rounds_16 : decode cL_rounds 16 = .ok (.ireturn, 1) := by decide +kernel
theorem dL_fresh_0 : decode cL_fresh 0 = .ok (.aload_n 3, 1) := by decide +kernel
theorem dL_fresh_1 : decode cL_fresh 1 = .ok (.iconst 0, 1) := by decide +kernel
theorem dL_fresh_2 : decode cL_fresh 2 = .ok (.aload_n 0, 1) := by decide +kernel
theorem dL_fresh_3 : decode cL_fresh 3 = .ok (.iload_n 1, 1) := by decide +kernel
theorem dL_fresh_4 : decode cL_fresh 4 = .ok (.iload_n 2, 1) := by decide +kernel
theorem dL_fresh_5 : decode cL_fresh 5 = .ok (.invokevirtual 76, 3) := by decide +kernel
theorem dL_fresh_8 : decode cL_fresh 8 = .ok (.i2l, 1) := by decide +kernel
theorem dL_fresh_9 : decode cL_fresh 9 = .ok (.lastore, 1) := by decide +kernel
theorem dL_fresh_10 : decode cL_fresh 10 = .ok (.goto 7, 3) := by decide +kernel
theorem dL_fresh_13 : decode cL_fresh 13 = .ok (.astore 4, 2) := by decide +kernel
theorem dL_fresh_15 : decode cL_fresh 15 = .ok (.iconst 1, 1) := by decide +kernel
theorem dL_fresh_16 : decode cL_fresh 16 = .ok (.ireturn, 1) := by decide +kernel
theorem dL_fresh_17 : decode cL_fresh 17 = .ok (.iconst 0, 1) := by decide +kernel
theorem dL_fresh_18 : decode cL_fresh 18 = .ok (.ireturn, 1) := by decide +kernel
theorem dL_line_0 : decode cL_line 0 = .ok (.aload 4, 2) := by decide +kernel
theorem dL_line_2 : decode cL_line 2 = .ok (.iconst 0, 1) := by decide +kernel
theorem dL_line_3 : decode cL_line 3 = .ok (.aload_n 0, 1) := by decide +kernel
theorem dL_line_4 : decode cL_line 4 = .ok (.iload_n 1, 1) := by decide +kernel
theorem dL_line_5 : decode cL_line 5 = .ok (.iload_n 2, 1) := by decide +kernel
theorem dL_line_6 : decode cL_line 6 = .ok (.iload_n 3, 1) := by decide +kernel
theorem dL_line_7 : decode cL_line 7 = .ok (.invokevirtual 79, 3) := by decide +kernel
theorem dL_line_10 : decode cL_line 10 = .ok (.i2l, 1) := by decide +kernel
theorem dL_line_11 : decode cL_line 11 = .ok (.lastore, 1) := by decide +kernel
theorem dL_line_12 : decode cL_line 12 = .ok (.goto 11, 3) := by decide +kernel
theorem dL_line_15 : decode cL_line 15 = .ok (.astore 5, 2) := by decide +kernel
theorem dL_line_17 : decode cL_line 17 = .ok (.iconst 1, 1) := by decide +kernel
theorem dL_line_18 : decode cL_line 18 = .ok (.ireturn, 1) := by decide +kernel
theorem dL_line_19 : decode cL_line 19 = .ok (.astore 5, 2) := by decide +kernel
theorem dL_line_21 : decode cL_line 21 = .ok (.iconst 2, 1) := by decide +kernel
theorem dL_line_22 : decode cL_line 22 = .ok (.ireturn, 1) := by decide +kernel
theorem dL_line_23 : decode cL_line 23 = .ok (.iconst 0, 1) := by decide +kernel
theorem dL_line_24 : decode cL_line 24 = .ok (.ireturn, 1) := by decide +kernel
theorem dL_ruleLine_0 : decode cL_ruleLine 0 = .ok (.aload_n 2, 1) := by decide +kernel
theorem dL_ruleLine_1 : decode cL_ruleLine 1 = .ok (.iconst 0, 1) := by decide +kernel
theorem dL_ruleLine_2 : decode cL_ruleLine 2 = .ok (.aload_n 0, 1) := by decide +kernel
theorem dL_ruleLine_3 : decode cL_ruleLine 3 = .ok (.iload_n 1, 1) := by decide +kernel
theorem dL_ruleLine_4 : decode cL_ruleLine 4 = .ok (.invokevirtual 82, 3) := by decide +kernel
theorem dL_ruleLine_7 : decode cL_ruleLine 7 = .ok (.i2l, 1) := by decide +kernel
theorem dL_ruleLine_8 : decode cL_ruleLine 8 = .ok (.lastore, 1) := by decide +kernel
theorem dL_ruleLine_9 : decode cL_ruleLine 9 = .ok (.goto 6, 3) := by decide +kernel
theorem dL_ruleLine_12 : decode cL_ruleLine 12 = .ok (.astore_n 3, 1) := by decide +kernel
theorem dL_ruleLine_13 : decode cL_ruleLine 13 = .ok (.iconst 1, 1) := by decide +kernel
theorem dL_ruleLine_14 : decode cL_ruleLine 14 = .ok (.ireturn, 1) := by decide +kernel
theorem dL_ruleLine_15 : decode cL_ruleLine 15 = .ok (.iconst 0, 1) := by decide +kernel
theorem dL_ruleLine_16 : decode cL_ruleLine 16 = .ok (.ireturn, 1) := by decide +kernel
theorem dL_character_0 : decode cL_character 0 = .ok (.aload_n 2, 1) := by decide +kernel
theorem dL_character_1 : decode cL_character 1 = .ok (.iconst 0, 1) := by decide +kernel
theorem dL_character_2 : decode cL_character 2 = .ok (.aload_n 0, 1) := by decide +kernel
theorem dL_character_3 : decode cL_character 3 = .ok (.iload_n 1, 1) := by decide +kernel
theorem dL_character_4 : decode cL_character 4 = .ok (.invokevirtual 85, 3) := by decide +kernel
theorem dL_character_7 : decode cL_character 7 = .ok (.i2l, 1) := by decide +kernel
theorem dL_character_8 : decode cL_character 8 = .ok (.lastore, 1) := by decide +kernel
theorem dL_character_9 : decode cL_character 9 = .ok (.goto 6, 3) := by decide +kernel
theorem dL_character_12 : decode cL_character 12 = .ok (.astore_n 3, 1) := by decide +kernel
theorem dL_character_13 : decode cL_character 13 = .ok (.iconst 1, 1) := by decide +kernel
theorem dL_character_14 : decode cL_character 14 = .ok (.ireturn, 1) := by decide +kernel
theorem dL_character_15 : decode cL_character 15 = .ok (.iconst 0, 1) := by decide +kernel
theorem dL_character_16 : decode cL_character 16 = .ok (.ireturn, 1) := by decide +kernel
theorem dL_append_0 : decode cL_append 0 = .ok (.aload_n 2, 1) := by decide +kernel
theorem dL_append_1 : decode cL_append 1 = .ok (.iconst 0, 1) := by decide +kernel
theorem dL_append_2 : decode cL_append 2 = .ok (.aload_n 0, 1) := by decide +kernel
theorem dL_append_3 : decode cL_append 3 = .ok (.iload_n 1, 1) := by decide +kernel
theorem dL_append_4 : decode cL_append 4 = .ok (.invokevirtual 89, 3) := by decide +kernel
theorem dL_append_7 : decode cL_append 7 = .ok (.i2l, 1) := by decide +kernel
theorem dL_append_8 : decode cL_append 8 = .ok (.lastore, 1) := by decide +kernel
theorem dL_append_9 : decode cL_append 9 = .ok (.goto 6, 3) := by decide +kernel
theorem dL_append_12 : decode cL_append 12 = .ok (.astore_n 3, 1) := by decide +kernel
theorem dL_append_13 : decode cL_append 13 = .ok (.iconst 1, 1) := by decide +kernel
theorem dL_append_14 : decode cL_append 14 = .ok (.ireturn, 1) := by decide +kernel
theorem dL_append_15 : decode cL_append 15 = .ok (.iconst 0, 1) := by decide +kernel
theorem dL_append_16 : decode cL_append 16 = .ok (.ireturn, 1) := by decide +kernel
theorem dL_run_0 : decode cL_run 0 = .ok (.aload_n 1, 1) := by decide +kernel
theorem dL_run_1 : decode cL_run 1 = .ok (.iconst 0, 1) := by decide +kernel
theorem dL_run_2 : decode cL_run 2 = .ok (.aload_n 0, 1) := by decide +kernel
theorem dL_run_3 : decode cL_run 3 = .ok (.invokevirtual 95, 3) := by decide +kernel
theorem dL_run_6 : decode cL_run 6 = .ok (.i2l, 1) := by decide +kernel
theorem dL_run_7 : decode cL_run 7 = .ok (.lastore, 1) := by decide +kernel
theorem dL_run_8 : decode cL_run 8 = .ok (.goto 9, 3) := by decide +kernel
theorem dL_run_11 : decode cL_run 11 = .ok (.astore_n 2, 1) := by decide +kernel
theorem dL_run_12 : decode cL_run 12 = .ok (.iconst 1, 1) := by decide +kernel
theorem dL_run_13 : decode cL_run 13 = .ok (.ireturn, 1) := by decide +kernel
theorem dL_run_14 : decode cL_run 14 = .ok (.astore_n 2, 1) := by decide +kernel
theorem dL_run_15 : decode cL_run 15 = .ok (.iconst 2, 1) := by decide +kernel
theorem dL_run_16 : decode cL_run 16 = .ok (.ireturn, 1) := by decide +kernel
theorem dL_run_17 : decode cL_run 17 = .ok (.iconst 0, 1) := by decide +kernel
theorem dL_run_18 : decode cL_run 18 = .ok (.ireturn, 1) := by decide +kernel
theorem dL_refusal_0 : decode cL_refusal 0 = .ok (.aload_n 2, 1) := by decide +kernel
theorem dL_refusal_1 : decode cL_refusal 1 = .ok (.iconst 0, 1) := by decide +kernel
theorem dL_refusal_2 : decode cL_refusal 2 = .ok (.aload_n 0, 1) := by decide +kernel
theorem dL_refusal_3 : decode cL_refusal 3 = .ok (.iload_n 1, 1) := by decide +kernel
theorem dL_refusal_4 : decode cL_refusal 4 = .ok (.invokevirtual 99, 3) := by decide +kernel
theorem dL_refusal_7 : decode cL_refusal 7 = .ok (.i2l, 1) := by decide +kernel
theorem dL_refusal_8 : decode cL_refusal 8 = .ok (.lastore, 1) := by decide +kernel
theorem dL_refusal_9 : decode cL_refusal 9 = .ok (.goto 6, 3) := by decide +kernel
theorem dL_refusal_12 : decode cL_refusal 12 = .ok (.astore_n 3, 1) := by decide +kernel
theorem dL_refusal_13 : decode cL_refusal 13 = .ok (.iconst 1, 1) := by decide +kernel
theorem dL_refusal_14 : decode cL_refusal 14 = .ok (.ireturn, 1) := by decide +kernel
theorem dL_refusal_15 : decode cL_refusal 15 = .ok (.iconst 0, 1) := by decide +kernel
theorem dL_refusal_16 : decode cL_refusal 16 = .ok (.ireturn, 1) := by decide +kernel
theorem dL_account_0 : decode cL_account 0 = .ok (.aload_n 2, 1) := by decide +kernel
theorem dL_account_1 : decode cL_account 1 = .ok (.iconst 0, 1) := by decide +kernel
theorem dL_account_2 : decode cL_account 2 = .ok (.aload_n 0, 1) := by decide +kernel
theorem dL_account_3 : decode cL_account 3 = .ok (.iload_n 1, 1) := by decide +kernel
theorem dL_account_4 : decode cL_account 4 = .ok (.invokevirtual 103, 3) := by decide +kernel
theorem dL_account_7 : decode cL_account 7 = .ok (.i2l, 1) := by decide +kernel
theorem dL_account_8 : decode cL_account 8 = .ok (.lastore, 1) := by decide +kernel
theorem dL_account_9 : decode cL_account 9 = .ok (.goto 6, 3) := by decide +kernel
theorem dL_account_12 : decode cL_account 12 = .ok (.astore_n 3, 1) := by decide +kernel
theorem dL_account_13 : decode cL_account 13 = .ok (.iconst 1, 1) := by decide +kernel
theorem dL_account_14 : decode cL_account 14 = .ok (.ireturn, 1) := by decide +kernel
theorem dL_account_15 : decode cL_account 15 = .ok (.iconst 0, 1) := by decide +kernel
theorem dL_account_16 : decode cL_account 16 = .ok (.ireturn, 1) := by decide +kernel
theorem dL_meanDepth_0 : decode cL_meanDepth 0 = .ok (.aload_n 1, 1) := by decide +kernel
theorem dL_meanDepth_1 : decode cL_meanDepth 1 = .ok (.iconst 0, 1) := by decide +kernel
theorem dL_meanDepth_2 : decode cL_meanDepth 2 = .ok (.aload_n 0, 1) := by decide +kernel
theorem dL_meanDepth_3 : decode cL_meanDepth 3 = .ok (.invokevirtual 106, 3) := by decide +kernel
theorem dL_meanDepth_6 : decode cL_meanDepth 6 = .ok (.dastore, 1) := by decide +kernel
theorem dL_meanDepth_7 : decode cL_meanDepth 7 = .ok (.goto 6, 3) := by decide +kernel
theorem dL_meanDepth_10 : decode cL_meanDepth 10 = .ok (.astore_n 2, 1) := by decide +kernel
theorem dL_meanDepth_11 : decode cL_meanDepth 11 = .ok (.iconst 1, 1) := by decide +kernel
theorem dL_meanDepth_12 : decode cL_meanDepth 12 = .ok (.ireturn, 1) := by decide +kernel
theorem dL_meanDepth_13 : decode cL_meanDepth 13 = .ok (.iconst 0, 1) := by decide +kernel
theorem dL_meanDepth_14 : decode cL_meanDepth 14 = .ok (.ireturn, 1) := by decide +kernel
theorem dL_toldShare_0 : decode cL_toldShare 0 = .ok (.aload_n 1, 1) := by decide +kernel
theorem dL_toldShare_1 : decode cL_toldShare 1 = .ok (.iconst 0, 1) := by decide +kernel
theorem dL_toldShare_2 : decode cL_toldShare 2 = .ok (.aload_n 0, 1) := by decide +kernel
theorem dL_toldShare_3 : decode cL_toldShare 3 = .ok (.invokevirtual 112, 3) := by decide +kernel
theorem dL_toldShare_6 : decode cL_toldShare 6 = .ok (.f2d, 1) := by decide +kernel
theorem dL_toldShare_7 : decode cL_toldShare 7 = .ok (.dastore, 1) := by decide +kernel
theorem dL_toldShare_8 : decode cL_toldShare 8 = .ok (.goto 6, 3) := by decide +kernel
theorem dL_toldShare_11 : decode cL_toldShare 11 = .ok (.astore_n 2, 1) := by decide +kernel
theorem dL_toldShare_12 : decode cL_toldShare 12 = .ok (.iconst 1, 1) := by decide +kernel
theorem dL_toldShare_13 : decode cL_toldShare 13 = .ok (.ireturn, 1) := by decide +kernel
theorem dL_toldShare_14 : decode cL_toldShare 14 = .ok (.iconst 0, 1) := by decide +kernel
theorem dL_toldShare_15 : decode cL_toldShare 15 = .ok (.ireturn, 1) := by decide +kernel
theorem dL_undo_0 : decode cL_undo 0 = .ok (.aload_n 1, 1) := by decide +kernel
theorem dL_undo_1 : decode cL_undo 1 = .ok (.iconst 0, 1) := by decide +kernel
theorem dL_undo_2 : decode cL_undo 2 = .ok (.aload_n 0, 1) := by decide +kernel
theorem dL_undo_3 : decode cL_undo 3 = .ok (.invokevirtual 116, 3) := by decide +kernel
theorem dL_undo_6 : decode cL_undo 6 = .ok (.i2l, 1) := by decide +kernel
theorem dL_undo_7 : decode cL_undo 7 = .ok (.lastore, 1) := by decide +kernel
theorem dL_undo_8 : decode cL_undo 8 = .ok (.goto 6, 3) := by decide +kernel
theorem dL_undo_11 : decode cL_undo 11 = .ok (.astore_n 2, 1) := by decide +kernel
theorem dL_undo_12 : decode cL_undo 12 = .ok (.iconst 1, 1) := by decide +kernel
theorem dL_undo_13 : decode cL_undo 13 = .ok (.ireturn, 1) := by decide +kernel
theorem dL_undo_14 : decode cL_undo 14 = .ok (.iconst 0, 1) := by decide +kernel
theorem dL_undo_15 : decode cL_undo 15 = .ok (.ireturn, 1) := by decide +kernel
theorem dL_restore_0 : decode cL_restore 0 = .ok (.aload_n 1, 1) := by decide +kernel
theorem dL_restore_1 : decode cL_restore 1 = .ok (.iconst 0, 1) := by decide +kernel
theorem dL_restore_2 : decode cL_restore 2 = .ok (.aload_n 0, 1) := by decide +kernel
theorem dL_restore_3 : decode cL_restore 3 = .ok (.invokevirtual 119, 3) := by decide +kernel
theorem dL_restore_6 : decode cL_restore 6 = .ok (.i2l, 1) := by decide +kernel
theorem dL_restore_7 : decode cL_restore 7 = .ok (.lastore, 1) := by decide +kernel
theorem dL_restore_8 : decode cL_restore 8 = .ok (.goto 6, 3) := by decide +kernel
theorem dL_restore_11 : decode cL_restore 11 = .ok (.astore_n 2, 1) := by decide +kernel
theorem dL_restore_12 : decode cL_restore 12 = .ok (.iconst 1, 1) := by decide +kernel
theorem dL_restore_13 : decode cL_restore 13 = .ok (.ireturn, 1) := by decide +kernel
theorem dL_restore_14 : decode cL_restore 14 = .ok (.iconst 0, 1) := by decide +kernel
theorem dL_restore_15 : decode cL_restore 15 = .ok (.ireturn, 1) := by decide +kernel
theorem dL_law_0 : decode cL_law 0 = .ok (.new 8, 3) := by decide +kernel
theorem dL_law_3 : decode cL_law 3 = .ok (.dup, 1) := by decide +kernel
theorem dL_law_4 : decode cL_law 4 = .ok (.invokespecial 122, 3) := by decide +kernel
theorem dL_law_7 : decode cL_law 7 = .ok (.astore_n 1, 1) := by decide +kernel
theorem dL_law_8 : decode cL_law 8 = .ok (.new 123, 3) := by decide +kernel
theorem dL_law_11 : decode cL_law 11 = .ok (.dup, 1) := by decide +kernel
theorem dL_law_12 : decode cL_law 12 = .ok (.invokespecial 125, 3) := by decide +kernel
theorem dL_law_15 : decode cL_law 15 = .ok (.astore_n 2, 1) := by decide +kernel
theorem dL_law_16 : decode cL_law 16 = .ok (.iconst 1, 1) := by decide +kernel
theorem dL_law_17 : decode cL_law 17 = .ok (.newarray .long, 2) := by decide +kernel
theorem dL_law_19 : decode cL_law 19 = .ok (.astore_n 3, 1) := by decide +kernel
theorem dL_law_20 : decode cL_law 20 = .ok (.iconst 1, 1) := by decide +kernel
theorem dL_law_21 : decode cL_law 21 = .ok (.newarray .double, 2) := by decide +kernel
theorem dL_law_23 : decode cL_law 23 = .ok (.astore 4, 2) := by decide +kernel
theorem dL_law_25 : decode cL_law 25 = .ok (.iconst 0, 1) := by decide +kernel
theorem dL_law_26 : decode cL_law 26 = .ok (.istore 5, 2) := by decide +kernel
theorem dL_law_28 : decode cL_law 28 = .ok (.iload 5, 2) := by decide +kernel
theorem dL_law_30 : decode cL_law 30 = .ok (.aload_n 0, 1) := by decide +kernel
theorem dL_law_31 : decode cL_law 31 = .ok (.arraylength, 1) := by decide +kernel
theorem dL_law_32 : decode cL_law 32 = .ok (.iconst 5, 1) := by decide +kernel
theorem dL_law_33 : decode cL_law 33 = .ok (.isub, 1) := by decide +kernel
theorem dL_law_34 : decode cL_law 34 = .ok (.if_icmp .gt 2233, 3) := by decide +kernel
theorem dL_law_37 : decode cL_law 37 = .ok (.aload_n 0, 1) := by decide +kernel
theorem dL_law_38 : decode cL_law 38 = .ok (.iload 5, 2) := by decide +kernel
theorem dL_law_40 : decode cL_law 40 = .ok (.iaload, 1) := by decide +kernel
theorem dL_law_41 : decode cL_law 41 = .ok (.bipush 63, 2) := by decide +kernel
theorem dL_law_43 : decode cL_law 43 = .ok (.iand, 1) := by decide +kernel
theorem dL_law_44 : decode cL_law 44 = .ok (.tableswitch 2217 0 32 #[148, 228, 308, 423, 510, 602, 682, 762, 830, 898, 954, 1017, 1109, 1165, 1233, 1301, 1400, 1413, 1469, 1537, 1617, 1673, 1729, 1787, 1831, 1844, 1916, 1972, 1985, 2050, 2116, 2160, 2173], 148) := by decide +kernel
theorem dL_law_192 : decode cL_law 192 = .ok (.aload_n 1, 1) := by decide +kernel
theorem dL_law_193 : decode cL_law 193 = .ok (.aload_n 0, 1) := by decide +kernel
theorem dL_law_194 : decode cL_law 194 = .ok (.iload 5, 2) := by decide +kernel
theorem dL_law_196 : decode cL_law 196 = .ok (.iconst 1, 1) := by decide +kernel
theorem dL_law_197 : decode cL_law 197 = .ok (.iadd, 1) := by decide +kernel
theorem dL_law_198 : decode cL_law 198 = .ok (.iaload, 1) := by decide +kernel
theorem dL_law_199 : decode cL_law 199 = .ok (.aload_n 0, 1) := by decide +kernel
theorem dL_law_200 : decode cL_law 200 = .ok (.iload 5, 2) := by decide +kernel
theorem dL_law_202 : decode cL_law 202 = .ok (.iconst 2, 1) := by decide +kernel
theorem dL_law_203 : decode cL_law 203 = .ok (.iadd, 1) := by decide +kernel
theorem dL_law_204 : decode cL_law 204 = .ok (.iaload, 1) := by decide +kernel
theorem dL_law_205 : decode cL_law 205 = .ok (.aload_n 0, 1) := by decide +kernel
theorem dL_law_206 : decode cL_law 206 = .ok (.iload 5, 2) := by decide +kernel
theorem dL_law_208 : decode cL_law 208 = .ok (.iconst 3, 1) := by decide +kernel
theorem dL_law_209 : decode cL_law 209 = .ok (.iadd, 1) := by decide +kernel
theorem dL_law_210 : decode cL_law 210 = .ok (.iaload, 1) := by decide +kernel
theorem dL_law_211 : decode cL_law 211 = .ok (.aload_n 3, 1) := by decide +kernel
theorem dL_law_212 : decode cL_law 212 = .ok (.invokestatic 126, 3) := by decide +kernel
theorem dL_law_215 : decode cL_law 215 = .ok (.istore 6, 2) := by decide +kernel
theorem dL_law_217 : decode cL_law 217 = .ok (.aload_n 2, 1) := by decide +kernel
theorem dL_law_218 : decode cL_law 218 = .ok (.aload_n 0, 1) := by decide +kernel
theorem dL_law_219 : decode cL_law 219 = .ok (.iload 5, 2) := by decide +kernel
theorem dL_law_221 : decode cL_law 221 = .ok (.iconst 1, 1) := by decide +kernel
theorem dL_law_222 : decode cL_law 222 = .ok (.iadd, 1) := by decide +kernel
theorem dL_law_223 : decode cL_law 223 = .ok (.iaload, 1) := by decide +kernel
theorem dL_law_224 : decode cL_law 224 = .ok (.aload_n 0, 1) := by decide +kernel
theorem dL_law_225 : decode cL_law 225 = .ok (.iload 5, 2) := by decide +kernel
theorem dL_law_227 : decode cL_law 227 = .ok (.iconst 2, 1) := by decide +kernel
theorem dL_law_228 : decode cL_law 228 = .ok (.iadd, 1) := by decide +kernel
theorem dL_law_229 : decode cL_law 229 = .ok (.iaload, 1) := by decide +kernel
theorem dL_law_230 : decode cL_law 230 = .ok (.aload_n 0, 1) := by decide +kernel
theorem dL_law_231 : decode cL_law 231 = .ok (.iload 5, 2) := by decide +kernel
theorem dL_law_233 : decode cL_law 233 = .ok (.iconst 3, 1) := by decide +kernel
theorem dL_law_234 : decode cL_law 234 = .ok (.iadd, 1) := by decide +kernel
theorem dL_law_235 : decode cL_law 235 = .ok (.iaload, 1) := by decide +kernel
theorem dL_law_236 : decode cL_law 236 = .ok (.invokevirtual 131, 3) := by decide +kernel
theorem dL_law_239 : decode cL_law 239 = .ok (.istore 7, 2) := by decide +kernel
theorem dL_law_241 : decode cL_law 241 = .ok (.aload_n 2, 1) := by decide +kernel
theorem dL_law_242 : decode cL_law 242 = .ok (.invokevirtual 132, 3) := by decide +kernel
theorem dL_law_245 : decode cL_law 245 = .ok (.iload 6, 2) := by decide +kernel
theorem dL_law_247 : decode cL_law 247 = .ok (.if_icmp .eq 5, 3) := by decide +kernel
theorem dL_law_250 : decode cL_law 250 = .ok (.iconst 0, 1) := by decide +kernel
theorem dL_law_251 : decode cL_law 251 = .ok (.ireturn, 1) := by decide +kernel
theorem dL_law_252 : decode cL_law 252 = .ok (.iload 6, 2) := by decide +kernel
theorem dL_law_254 : decode cL_law 254 = .ok (.ifCond .ne 15, 3) := by decide +kernel
theorem dL_law_257 : decode cL_law 257 = .ok (.aload_n 3, 1) := by decide +kernel
theorem dL_law_258 : decode cL_law 258 = .ok (.iconst 0, 1) := by decide +kernel
theorem dL_law_259 : decode cL_law 259 = .ok (.laload, 1) := by decide +kernel
theorem dL_law_260 : decode cL_law 260 = .ok (.iload 7, 2) := by decide +kernel
theorem dL_law_262 : decode cL_law 262 = .ok (.i2l, 1) := by decide +kernel
theorem dL_law_263 : decode cL_law 263 = .ok (.lcmp, 1) := by decide +kernel
theorem dL_law_264 : decode cL_law 264 = .ok (.ifCond .eq 5, 3) := by decide +kernel
theorem dL_law_267 : decode cL_law 267 = .ok (.iconst 0, 1) := by decide +kernel
theorem dL_law_268 : decode cL_law 268 = .ok (.ireturn, 1) := by decide +kernel
theorem dL_law_269 : decode cL_law 269 = .ok (.goto 1992, 3) := by decide +kernel
theorem dL_law_272 : decode cL_law 272 = .ok (.aload_n 1, 1) := by decide +kernel
theorem dL_law_273 : decode cL_law 273 = .ok (.aload_n 0, 1) := by decide +kernel
theorem dL_law_274 : decode cL_law 274 = .ok (.iload 5, 2) := by decide +kernel
theorem dL_law_276 : decode cL_law 276 = .ok (.iconst 1, 1) := by decide +kernel
theorem dL_law_277 : decode cL_law 277 = .ok (.iadd, 1) := by decide +kernel
theorem dL_law_278 : decode cL_law 278 = .ok (.iaload, 1) := by decide +kernel
theorem dL_law_279 : decode cL_law 279 = .ok (.aload_n 0, 1) := by decide +kernel
theorem dL_law_280 : decode cL_law 280 = .ok (.iload 5, 2) := by decide +kernel
theorem dL_law_282 : decode cL_law 282 = .ok (.iconst 2, 1) := by decide +kernel
theorem dL_law_283 : decode cL_law 283 = .ok (.iadd, 1) := by decide +kernel
theorem dL_law_284 : decode cL_law 284 = .ok (.iaload, 1) := by decide +kernel
theorem dL_law_285 : decode cL_law 285 = .ok (.aload_n 0, 1) := by decide +kernel
theorem dL_law_286 : decode cL_law 286 = .ok (.iload 5, 2) := by decide +kernel
theorem dL_law_288 : decode cL_law 288 = .ok (.iconst 3, 1) := by decide +kernel
theorem dL_law_289 : decode cL_law 289 = .ok (.iadd, 1) := by decide +kernel
theorem dL_law_290 : decode cL_law 290 = .ok (.iaload, 1) := by decide +kernel
theorem dL_law_291 : decode cL_law 291 = .ok (.aload_n 3, 1) := by decide +kernel
theorem dL_law_292 : decode cL_law 292 = .ok (.invokestatic 135, 3) := by decide +kernel
theorem dL_law_295 : decode cL_law 295 = .ok (.istore 6, 2) := by decide +kernel
theorem dL_law_297 : decode cL_law 297 = .ok (.aload_n 2, 1) := by decide +kernel
theorem dL_law_298 : decode cL_law 298 = .ok (.aload_n 0, 1) := by decide +kernel
theorem dL_law_299 : decode cL_law 299 = .ok (.iload 5, 2) := by decide +kernel
theorem dL_law_301 : decode cL_law 301 = .ok (.iconst 1, 1) := by decide +kernel
theorem dL_law_302 : decode cL_law 302 = .ok (.iadd, 1) := by decide +kernel
theorem dL_law_303 : decode cL_law 303 = .ok (.iaload, 1) := by decide +kernel
theorem dL_law_304 : decode cL_law 304 = .ok (.aload_n 0, 1) := by decide +kernel
theorem dL_law_305 : decode cL_law 305 = .ok (.iload 5, 2) := by decide +kernel
theorem dL_law_307 : decode cL_law 307 = .ok (.iconst 2, 1) := by decide +kernel
theorem dL_law_308 : decode cL_law 308 = .ok (.iadd, 1) := by decide +kernel
theorem dL_law_309 : decode cL_law 309 = .ok (.iaload, 1) := by decide +kernel
theorem dL_law_310 : decode cL_law 310 = .ok (.aload_n 0, 1) := by decide +kernel
theorem dL_law_311 : decode cL_law 311 = .ok (.iload 5, 2) := by decide +kernel
theorem dL_law_313 : decode cL_law 313 = .ok (.iconst 3, 1) := by decide +kernel
theorem dL_law_314 : decode cL_law 314 = .ok (.iadd, 1) := by decide +kernel
theorem dL_law_315 : decode cL_law 315 = .ok (.iaload, 1) := by decide +kernel
theorem dL_law_316 : decode cL_law 316 = .ok (.invokevirtual 137, 3) := by decide +kernel
theorem dL_law_319 : decode cL_law 319 = .ok (.istore 7, 2) := by decide +kernel
theorem dL_law_321 : decode cL_law 321 = .ok (.aload_n 2, 1) := by decide +kernel
theorem dL_law_322 : decode cL_law 322 = .ok (.invokevirtual 132, 3) := by decide +kernel
theorem dL_law_325 : decode cL_law 325 = .ok (.iload 6, 2) := by decide +kernel
theorem dL_law_327 : decode cL_law 327 = .ok (.if_icmp .eq 5, 3) := by decide +kernel
theorem dL_law_330 : decode cL_law 330 = .ok (.iconst 0, 1) := by decide +kernel
theorem dL_law_331 : decode cL_law 331 = .ok (.ireturn, 1) := by decide +kernel
theorem dL_law_332 : decode cL_law 332 = .ok (.iload 6, 2) := by decide +kernel
theorem dL_law_334 : decode cL_law 334 = .ok (.ifCond .ne 15, 3) := by decide +kernel
theorem dL_law_337 : decode cL_law 337 = .ok (.aload_n 3, 1) := by decide +kernel
theorem dL_law_338 : decode cL_law 338 = .ok (.iconst 0, 1) := by decide +kernel
theorem dL_law_339 : decode cL_law 339 = .ok (.laload, 1) := by decide +kernel
theorem dL_law_340 : decode cL_law 340 = .ok (.iload 7, 2) := by decide +kernel
theorem dL_law_342 : decode cL_law 342 = .ok (.i2l, 1) := by decide +kernel
theorem dL_law_343 : decode cL_law 343 = .ok (.lcmp, 1) := by decide +kernel
theorem dL_law_344 : decode cL_law 344 = .ok (.ifCond .eq 5, 3) := by decide +kernel
theorem dL_law_347 : decode cL_law 347 = .ok (.iconst 0, 1) := by decide +kernel
theorem dL_law_348 : decode cL_law 348 = .ok (.ireturn, 1) := by decide +kernel
theorem dL_law_349 : decode cL_law 349 = .ok (.goto 1912, 3) := by decide +kernel
theorem dL_law_352 : decode cL_law 352 = .ok (.aload_n 1, 1) := by decide +kernel
theorem dL_law_353 : decode cL_law 353 = .ok (.aload_n 0, 1) := by decide +kernel
theorem dL_law_354 : decode cL_law 354 = .ok (.iload 5, 2) := by decide +kernel
theorem dL_law_356 : decode cL_law 356 = .ok (.iconst 1, 1) := by decide +kernel
theorem dL_law_357 : decode cL_law 357 = .ok (.iadd, 1) := by decide +kernel
theorem dL_law_358 : decode cL_law 358 = .ok (.iaload, 1) := by decide +kernel
theorem dL_law_359 : decode cL_law 359 = .ok (.aload_n 0, 1) := by decide +kernel
theorem dL_law_360 : decode cL_law 360 = .ok (.iload 5, 2) := by decide +kernel
theorem dL_law_362 : decode cL_law 362 = .ok (.iconst 2, 1) := by decide +kernel
theorem dL_law_363 : decode cL_law 363 = .ok (.iadd, 1) := by decide +kernel
theorem dL_law_364 : decode cL_law 364 = .ok (.iaload, 1) := by decide +kernel
theorem dL_law_365 : decode cL_law 365 = .ok (.aload_n 0, 1) := by decide +kernel
theorem dL_law_366 : decode cL_law 366 = .ok (.iload 5, 2) := by decide +kernel
theorem dL_law_368 : decode cL_law 368 = .ok (.iconst 3, 1) := by decide +kernel
theorem dL_law_369 : decode cL_law 369 = .ok (.iadd, 1) := by decide +kernel
theorem dL_law_370 : decode cL_law 370 = .ok (.iaload, 1) := by decide +kernel
theorem dL_law_371 : decode cL_law 371 = .ok (.aload_n 0, 1) := by decide +kernel
theorem dL_law_372 : decode cL_law 372 = .ok (.iload 5, 2) := by decide +kernel
theorem dL_law_374 : decode cL_law 374 = .ok (.iconst 4, 1) := by decide +kernel
theorem dL_law_375 : decode cL_law 375 = .ok (.iadd, 1) := by decide +kernel
theorem dL_law_376 : decode cL_law 376 = .ok (.iaload, 1) := by decide +kernel
theorem dL_law_377 : decode cL_law 377 = .ok (.ifCond .eq 7, 3) := by decide +kernel
theorem dL_law_380 : decode cL_law 380 = .ok (.iconst 1, 1) := by decide +kernel
theorem dL_law_381 : decode cL_law 381 = .ok (.goto 4, 3) := by decide +kernel
theorem dL_law_384 : decode cL_law 384 = .ok (.iconst 0, 1) := by decide +kernel
theorem dL_law_385 : decode cL_law 385 = .ok (.aload_n 3, 1) := by decide +kernel
theorem dL_law_386 : decode cL_law 386 = .ok (.invokestatic 138, 3) := by decide +kernel
theorem dL_law_389 : decode cL_law 389 = .ok (.istore 6, 2) := by decide +kernel
theorem dL_law_391 : decode cL_law 391 = .ok (.aload_n 2, 1) := by decide +kernel
theorem dL_law_392 : decode cL_law 392 = .ok (.aload_n 0, 1) := by decide +kernel
theorem dL_law_393 : decode cL_law 393 = .ok (.iload 5, 2) := by decide +kernel
theorem dL_law_395 : decode cL_law 395 = .ok (.iconst 1, 1) := by decide +kernel
theorem dL_law_396 : decode cL_law 396 = .ok (.iadd, 1) := by decide +kernel
theorem dL_law_397 : decode cL_law 397 = .ok (.iaload, 1) := by decide +kernel
theorem dL_law_398 : decode cL_law 398 = .ok (.aload_n 0, 1) := by decide +kernel
theorem dL_law_399 : decode cL_law 399 = .ok (.iload 5, 2) := by decide +kernel
theorem dL_law_401 : decode cL_law 401 = .ok (.iconst 2, 1) := by decide +kernel
theorem dL_law_402 : decode cL_law 402 = .ok (.iadd, 1) := by decide +kernel
theorem dL_law_403 : decode cL_law 403 = .ok (.iaload, 1) := by decide +kernel
theorem dL_law_404 : decode cL_law 404 = .ok (.aload_n 0, 1) := by decide +kernel
theorem dL_law_405 : decode cL_law 405 = .ok (.iload 5, 2) := by decide +kernel
theorem dL_law_407 : decode cL_law 407 = .ok (.iconst 3, 1) := by decide +kernel
theorem dL_law_408 : decode cL_law 408 = .ok (.iadd, 1) := by decide +kernel
theorem dL_law_409 : decode cL_law 409 = .ok (.iaload, 1) := by decide +kernel
theorem dL_law_410 : decode cL_law 410 = .ok (.aload_n 0, 1) := by decide +kernel
theorem dL_law_411 : decode cL_law 411 = .ok (.iload 5, 2) := by decide +kernel
theorem dL_law_413 : decode cL_law 413 = .ok (.iconst 4, 1) := by decide +kernel
theorem dL_law_414 : decode cL_law 414 = .ok (.iadd, 1) := by decide +kernel
theorem dL_law_415 : decode cL_law 415 = .ok (.iaload, 1) := by decide +kernel
theorem dL_law_416 : decode cL_law 416 = .ok (.ifCond .eq 7, 3) := by decide +kernel
theorem dL_law_419 : decode cL_law 419 = .ok (.iconst 1, 1) := by decide +kernel
theorem dL_law_420 : decode cL_law 420 = .ok (.goto 4, 3) := by decide +kernel
theorem dL_law_423 : decode cL_law 423 = .ok (.iconst 0, 1) := by decide +kernel
theorem dL_law_424 : decode cL_law 424 = .ok (.invokevirtual 141, 3) := by decide +kernel
theorem dL_law_427 : decode cL_law 427 = .ok (.istore 7, 2) := by decide +kernel
theorem dL_law_429 : decode cL_law 429 = .ok (.aload_n 2, 1) := by decide +kernel
theorem dL_law_430 : decode cL_law 430 = .ok (.invokevirtual 132, 3) := by decide +kernel
theorem dL_law_433 : decode cL_law 433 = .ok (.iload 6, 2) := by decide +kernel
theorem dL_law_435 : decode cL_law 435 = .ok (.if_icmp .eq 5, 3) := by decide +kernel
theorem dL_law_438 : decode cL_law 438 = .ok (.iconst 0, 1) := by decide +kernel
theorem dL_law_439 : decode cL_law 439 = .ok (.ireturn, 1) := by decide +kernel
theorem dL_law_440 : decode cL_law 440 = .ok (.iload 6, 2) := by decide +kernel
theorem dL_law_442 : decode cL_law 442 = .ok (.ifCond .ne 22, 3) := by decide +kernel
theorem dL_law_445 : decode cL_law 445 = .ok (.aload_n 3, 1) := by decide +kernel
theorem dL_law_446 : decode cL_law 446 = .ok (.iconst 0, 1) := by decide +kernel
theorem dL_law_447 : decode cL_law 447 = .ok (.laload, 1) := by decide +kernel
theorem dL_law_448 : decode cL_law 448 = .ok (.iload 7, 2) := by decide +kernel
theorem dL_law_450 : decode cL_law 450 = .ok (.ifCond .eq 7, 3) := by decide +kernel
theorem dL_law_453 : decode cL_law 453 = .ok (.lconst 1, 1) := by decide +kernel
theorem dL_law_454 : decode cL_law 454 = .ok (.goto 4, 3) := by decide +kernel
theorem dL_law_457 : decode cL_law 457 = .ok (.lconst 0, 1) := by decide +kernel
theorem dL_law_458 : decode cL_law 458 = .ok (.lcmp, 1) := by decide +kernel
theorem dL_law_459 : decode cL_law 459 = .ok (.ifCond .eq 5, 3) := by decide +kernel
theorem dL_law_462 : decode cL_law 462 = .ok (.iconst 0, 1) := by decide +kernel
theorem dL_law_463 : decode cL_law 463 = .ok (.ireturn, 1) := by decide +kernel
theorem dL_law_464 : decode cL_law 464 = .ok (.goto 1797, 3) := by decide +kernel
theorem dL_law_467 : decode cL_law 467 = .ok (.aload_n 1, 1) := by decide +kernel
theorem dL_law_468 : decode cL_law 468 = .ok (.aload_n 0, 1) := by decide +kernel
theorem dL_law_469 : decode cL_law 469 = .ok (.iload 5, 2) := by decide +kernel
theorem dL_law_471 : decode cL_law 471 = .ok (.iconst 1, 1) := by decide +kernel
theorem dL_law_472 : decode cL_law 472 = .ok (.iadd, 1) := by decide +kernel
theorem dL_law_473 : decode cL_law 473 = .ok (.iaload, 1) := by decide +kernel
theorem dL_law_474 : decode cL_law 474 = .ok (.aload_n 0, 1) := by decide +kernel
theorem dL_law_475 : decode cL_law 475 = .ok (.iload 5, 2) := by decide +kernel
theorem dL_law_477 : decode cL_law 477 = .ok (.iconst 2, 1) := by decide +kernel
theorem dL_law_478 : decode cL_law 478 = .ok (.iadd, 1) := by decide +kernel
theorem dL_law_479 : decode cL_law 479 = .ok (.iaload, 1) := by decide +kernel
theorem dL_law_480 : decode cL_law 480 = .ok (.aload_n 0, 1) := by decide +kernel
theorem dL_law_481 : decode cL_law 481 = .ok (.iload 5, 2) := by decide +kernel
theorem dL_law_483 : decode cL_law 483 = .ok (.iconst 3, 1) := by decide +kernel
theorem dL_law_484 : decode cL_law 484 = .ok (.iadd, 1) := by decide +kernel
theorem dL_law_485 : decode cL_law 485 = .ok (.iaload, 1) := by decide +kernel
theorem dL_law_486 : decode cL_law 486 = .ok (.aload_n 3, 1) := by decide +kernel
theorem dL_law_487 : decode cL_law 487 = .ok (.invokestatic 142, 3) := by decide +kernel
theorem dL_law_490 : decode cL_law 490 = .ok (.istore 6, 2) := by decide +kernel
theorem dL_law_492 : decode cL_law 492 = .ok (.aload_n 2, 1) := by decide +kernel
theorem dL_law_493 : decode cL_law 493 = .ok (.aload_n 0, 1) := by decide +kernel
theorem dL_law_494 : decode cL_law 494 = .ok (.iload 5, 2) := by decide +kernel
theorem dL_law_496 : decode cL_law 496 = .ok (.iconst 1, 1) := by decide +kernel
theorem dL_law_497 : decode cL_law 497 = .ok (.iadd, 1) := by decide +kernel
theorem dL_law_498 : decode cL_law 498 = .ok (.iaload, 1) := by decide +kernel
theorem dL_law_499 : decode cL_law 499 = .ok (.aload_n 0, 1) := by decide +kernel
theorem dL_law_500 : decode cL_law 500 = .ok (.iload 5, 2) := by decide +kernel
theorem dL_law_502 : decode cL_law 502 = .ok (.iconst 2, 1) := by decide +kernel
theorem dL_law_503 : decode cL_law 503 = .ok (.iadd, 1) := by decide +kernel
theorem dL_law_504 : decode cL_law 504 = .ok (.iaload, 1) := by decide +kernel
theorem dL_law_505 : decode cL_law 505 = .ok (.aload_n 0, 1) := by decide +kernel
theorem dL_law_506 : decode cL_law 506 = .ok (.iload 5, 2) := by decide +kernel
theorem dL_law_508 : decode cL_law 508 = .ok (.iconst 3, 1) := by decide +kernel
theorem dL_law_509 : decode cL_law 509 = .ok (.iadd, 1) := by decide +kernel
theorem dL_law_510 : decode cL_law 510 = .ok (.iaload, 1) := by decide +kernel
theorem dL_law_511 : decode cL_law 511 = .ok (.invokevirtual 144, 3) := by decide +kernel
theorem dL_law_514 : decode cL_law 514 = .ok (.istore 7, 2) := by decide +kernel
theorem dL_law_516 : decode cL_law 516 = .ok (.aload_n 2, 1) := by decide +kernel
theorem dL_law_517 : decode cL_law 517 = .ok (.invokevirtual 132, 3) := by decide +kernel
theorem dL_law_520 : decode cL_law 520 = .ok (.iload 6, 2) := by decide +kernel
theorem dL_law_522 : decode cL_law 522 = .ok (.if_icmp .eq 5, 3) := by decide +kernel
theorem dL_law_525 : decode cL_law 525 = .ok (.iconst 0, 1) := by decide +kernel
theorem dL_law_526 : decode cL_law 526 = .ok (.ireturn, 1) := by decide +kernel
theorem dL_law_527 : decode cL_law 527 = .ok (.iload 6, 2) := by decide +kernel
theorem dL_law_529 : decode cL_law 529 = .ok (.ifCond .ne 22, 3) := by decide +kernel
theorem dL_law_532 : decode cL_law 532 = .ok (.aload_n 3, 1) := by decide +kernel
theorem dL_law_533 : decode cL_law 533 = .ok (.iconst 0, 1) := by decide +kernel
theorem dL_law_534 : decode cL_law 534 = .ok (.laload, 1) := by decide +kernel
theorem dL_law_535 : decode cL_law 535 = .ok (.iload 7, 2) := by decide +kernel
theorem dL_law_537 : decode cL_law 537 = .ok (.ifCond .eq 7, 3) := by decide +kernel
theorem dL_law_540 : decode cL_law 540 = .ok (.lconst 1, 1) := by decide +kernel
theorem dL_law_541 : decode cL_law 541 = .ok (.goto 4, 3) := by decide +kernel
theorem dL_law_544 : decode cL_law 544 = .ok (.lconst 0, 1) := by decide +kernel
theorem dL_law_545 : decode cL_law 545 = .ok (.lcmp, 1) := by decide +kernel
theorem dL_law_546 : decode cL_law 546 = .ok (.ifCond .eq 5, 3) := by decide +kernel
theorem dL_law_549 : decode cL_law 549 = .ok (.iconst 0, 1) := by decide +kernel
theorem dL_law_550 : decode cL_law 550 = .ok (.ireturn, 1) := by decide +kernel
theorem dL_law_551 : decode cL_law 551 = .ok (.goto 1710, 3) := by decide +kernel
theorem dL_law_554 : decode cL_law 554 = .ok (.aload_n 1, 1) := by decide +kernel
theorem dL_law_555 : decode cL_law 555 = .ok (.aload_n 0, 1) := by decide +kernel
theorem dL_law_556 : decode cL_law 556 = .ok (.iload 5, 2) := by decide +kernel
theorem dL_law_558 : decode cL_law 558 = .ok (.iconst 1, 1) := by decide +kernel
theorem dL_law_559 : decode cL_law 559 = .ok (.iadd, 1) := by decide +kernel
theorem dL_law_560 : decode cL_law 560 = .ok (.iaload, 1) := by decide +kernel
theorem dL_law_561 : decode cL_law 561 = .ok (.aload_n 0, 1) := by decide +kernel
theorem dL_law_562 : decode cL_law 562 = .ok (.iload 5, 2) := by decide +kernel
theorem dL_law_564 : decode cL_law 564 = .ok (.iconst 2, 1) := by decide +kernel
theorem dL_law_565 : decode cL_law 565 = .ok (.iadd, 1) := by decide +kernel
theorem dL_law_566 : decode cL_law 566 = .ok (.iaload, 1) := by decide +kernel
theorem dL_law_567 : decode cL_law 567 = .ok (.aload_n 0, 1) := by decide +kernel
theorem dL_law_568 : decode cL_law 568 = .ok (.iload 5, 2) := by decide +kernel
theorem dL_law_570 : decode cL_law 570 = .ok (.iconst 3, 1) := by decide +kernel
theorem dL_law_571 : decode cL_law 571 = .ok (.iadd, 1) := by decide +kernel
theorem dL_law_572 : decode cL_law 572 = .ok (.iaload, 1) := by decide +kernel
theorem dL_law_573 : decode cL_law 573 = .ok (.aload_n 0, 1) := by decide +kernel
theorem dL_law_574 : decode cL_law 574 = .ok (.iload 5, 2) := by decide +kernel
theorem dL_law_576 : decode cL_law 576 = .ok (.iconst 4, 1) := by decide +kernel
theorem dL_law_577 : decode cL_law 577 = .ok (.iadd, 1) := by decide +kernel
theorem dL_law_578 : decode cL_law 578 = .ok (.iaload, 1) := by decide +kernel
theorem dL_law_579 : decode cL_law 579 = .ok (.aload_n 3, 1) := by decide +kernel
theorem dL_law_580 : decode cL_law 580 = .ok (.invokestatic 145, 3) := by decide +kernel
theorem dL_law_583 : decode cL_law 583 = .ok (.istore 6, 2) := by decide +kernel
theorem dL_law_585 : decode cL_law 585 = .ok (.aload_n 2, 1) := by decide +kernel
theorem dL_law_586 : decode cL_law 586 = .ok (.aload_n 0, 1) := by decide +kernel
theorem dL_law_587 : decode cL_law 587 = .ok (.iload 5, 2) := by decide +kernel
theorem dL_law_589 : decode cL_law 589 = .ok (.iconst 1, 1) := by decide +kernel
theorem dL_law_590 : decode cL_law 590 = .ok (.iadd, 1) := by decide +kernel
theorem dL_law_591 : decode cL_law 591 = .ok (.iaload, 1) := by decide +kernel
theorem dL_law_592 : decode cL_law 592 = .ok (.aload_n 0, 1) := by decide +kernel
theorem dL_law_593 : decode cL_law 593 = .ok (.iload 5, 2) := by decide +kernel
theorem dL_law_595 : decode cL_law 595 = .ok (.iconst 2, 1) := by decide +kernel
theorem dL_law_596 : decode cL_law 596 = .ok (.iadd, 1) := by decide +kernel
theorem dL_law_597 : decode cL_law 597 = .ok (.iaload, 1) := by decide +kernel
theorem dL_law_598 : decode cL_law 598 = .ok (.aload_n 0, 1) := by decide +kernel
theorem dL_law_599 : decode cL_law 599 = .ok (.iload 5, 2) := by decide +kernel
theorem dL_law_601 : decode cL_law 601 = .ok (.iconst 3, 1) := by decide +kernel
theorem dL_law_602 : decode cL_law 602 = .ok (.iadd, 1) := by decide +kernel
theorem dL_law_603 : decode cL_law 603 = .ok (.iaload, 1) := by decide +kernel
theorem dL_law_604 : decode cL_law 604 = .ok (.aload_n 0, 1) := by decide +kernel
theorem dL_law_605 : decode cL_law 605 = .ok (.iload 5, 2) := by decide +kernel
theorem dL_law_607 : decode cL_law 607 = .ok (.iconst 4, 1) := by decide +kernel
theorem dL_law_608 : decode cL_law 608 = .ok (.iadd, 1) := by decide +kernel
theorem dL_law_609 : decode cL_law 609 = .ok (.iaload, 1) := by decide +kernel
theorem dL_law_610 : decode cL_law 610 = .ok (.invokevirtual 148, 3) := by decide +kernel
theorem dL_law_613 : decode cL_law 613 = .ok (.istore 7, 2) := by decide +kernel
theorem dL_law_615 : decode cL_law 615 = .ok (.aload_n 2, 1) := by decide +kernel
theorem dL_law_616 : decode cL_law 616 = .ok (.invokevirtual 132, 3) := by decide +kernel
theorem dL_law_619 : decode cL_law 619 = .ok (.iload 6, 2) := by decide +kernel
theorem dL_law_621 : decode cL_law 621 = .ok (.if_icmp .eq 5, 3) := by decide +kernel
theorem dL_law_624 : decode cL_law 624 = .ok (.iconst 0, 1) := by decide +kernel
theorem dL_law_625 : decode cL_law 625 = .ok (.ireturn, 1) := by decide +kernel
theorem dL_law_626 : decode cL_law 626 = .ok (.iload 6, 2) := by decide +kernel
theorem dL_law_628 : decode cL_law 628 = .ok (.ifCond .ne 15, 3) := by decide +kernel
theorem dL_law_631 : decode cL_law 631 = .ok (.aload_n 3, 1) := by decide +kernel
theorem dL_law_632 : decode cL_law 632 = .ok (.iconst 0, 1) := by decide +kernel
theorem dL_law_633 : decode cL_law 633 = .ok (.laload, 1) := by decide +kernel
theorem dL_law_634 : decode cL_law 634 = .ok (.iload 7, 2) := by decide +kernel
theorem dL_law_636 : decode cL_law 636 = .ok (.i2l, 1) := by decide +kernel
theorem dL_law_637 : decode cL_law 637 = .ok (.lcmp, 1) := by decide +kernel
theorem dL_law_638 : decode cL_law 638 = .ok (.ifCond .eq 5, 3) := by decide +kernel
theorem dL_law_641 : decode cL_law 641 = .ok (.iconst 0, 1) := by decide +kernel
theorem dL_law_642 : decode cL_law 642 = .ok (.ireturn, 1) := by decide +kernel
theorem dL_law_643 : decode cL_law 643 = .ok (.goto 1618, 3) := by decide +kernel
theorem dL_law_646 : decode cL_law 646 = .ok (.aload_n 1, 1) := by decide +kernel
theorem dL_law_647 : decode cL_law 647 = .ok (.aload_n 0, 1) := by decide +kernel
theorem dL_law_648 : decode cL_law 648 = .ok (.iload 5, 2) := by decide +kernel
theorem dL_law_650 : decode cL_law 650 = .ok (.iconst 1, 1) := by decide +kernel
theorem dL_law_651 : decode cL_law 651 = .ok (.iadd, 1) := by decide +kernel
theorem dL_law_652 : decode cL_law 652 = .ok (.iaload, 1) := by decide +kernel
theorem dL_law_653 : decode cL_law 653 = .ok (.aload_n 0, 1) := by decide +kernel
theorem dL_law_654 : decode cL_law 654 = .ok (.iload 5, 2) := by decide +kernel
theorem dL_law_656 : decode cL_law 656 = .ok (.iconst 2, 1) := by decide +kernel
theorem dL_law_657 : decode cL_law 657 = .ok (.iadd, 1) := by decide +kernel
theorem dL_law_658 : decode cL_law 658 = .ok (.iaload, 1) := by decide +kernel
theorem dL_law_659 : decode cL_law 659 = .ok (.aload_n 0, 1) := by decide +kernel
theorem dL_law_660 : decode cL_law 660 = .ok (.iload 5, 2) := by decide +kernel
theorem dL_law_662 : decode cL_law 662 = .ok (.iconst 3, 1) := by decide +kernel
theorem dL_law_663 : decode cL_law 663 = .ok (.iadd, 1) := by decide +kernel
theorem dL_law_664 : decode cL_law 664 = .ok (.iaload, 1) := by decide +kernel
theorem dL_law_665 : decode cL_law 665 = .ok (.aload_n 3, 1) := by decide +kernel
theorem dL_law_666 : decode cL_law 666 = .ok (.invokestatic 149, 3) := by decide +kernel
theorem dL_law_669 : decode cL_law 669 = .ok (.istore 6, 2) := by decide +kernel
theorem dL_law_671 : decode cL_law 671 = .ok (.aload_n 2, 1) := by decide +kernel
theorem dL_law_672 : decode cL_law 672 = .ok (.aload_n 0, 1) := by decide +kernel
theorem dL_law_673 : decode cL_law 673 = .ok (.iload 5, 2) := by decide +kernel
theorem dL_law_675 : decode cL_law 675 = .ok (.iconst 1, 1) := by decide +kernel
theorem dL_law_676 : decode cL_law 676 = .ok (.iadd, 1) := by decide +kernel
theorem dL_law_677 : decode cL_law 677 = .ok (.iaload, 1) := by decide +kernel
theorem dL_law_678 : decode cL_law 678 = .ok (.aload_n 0, 1) := by decide +kernel
theorem dL_law_679 : decode cL_law 679 = .ok (.iload 5, 2) := by decide +kernel
theorem dL_law_681 : decode cL_law 681 = .ok (.iconst 2, 1) := by decide +kernel
theorem dL_law_682 : decode cL_law 682 = .ok (.iadd, 1) := by decide +kernel
theorem dL_law_683 : decode cL_law 683 = .ok (.iaload, 1) := by decide +kernel
theorem dL_law_684 : decode cL_law 684 = .ok (.aload_n 0, 1) := by decide +kernel
theorem dL_law_685 : decode cL_law 685 = .ok (.iload 5, 2) := by decide +kernel
theorem dL_law_687 : decode cL_law 687 = .ok (.iconst 3, 1) := by decide +kernel
theorem dL_law_688 : decode cL_law 688 = .ok (.iadd, 1) := by decide +kernel
theorem dL_law_689 : decode cL_law 689 = .ok (.iaload, 1) := by decide +kernel
theorem dL_law_690 : decode cL_law 690 = .ok (.invokevirtual 151, 3) := by decide +kernel
theorem dL_law_693 : decode cL_law 693 = .ok (.istore 7, 2) := by decide +kernel
theorem dL_law_695 : decode cL_law 695 = .ok (.aload_n 2, 1) := by decide +kernel
theorem dL_law_696 : decode cL_law 696 = .ok (.invokevirtual 132, 3) := by decide +kernel
theorem dL_law_699 : decode cL_law 699 = .ok (.iload 6, 2) := by decide +kernel
theorem dL_law_701 : decode cL_law 701 = .ok (.if_icmp .eq 5, 3) := by decide +kernel
theorem dL_law_704 : decode cL_law 704 = .ok (.iconst 0, 1) := by decide +kernel
theorem dL_law_705 : decode cL_law 705 = .ok (.ireturn, 1) := by decide +kernel
theorem dL_law_706 : decode cL_law 706 = .ok (.iload 6, 2) := by decide +kernel
theorem dL_law_708 : decode cL_law 708 = .ok (.ifCond .ne 15, 3) := by decide +kernel
theorem dL_law_711 : decode cL_law 711 = .ok (.aload_n 3, 1) := by decide +kernel
theorem dL_law_712 : decode cL_law 712 = .ok (.iconst 0, 1) := by decide +kernel
theorem dL_law_713 : decode cL_law 713 = .ok (.laload, 1) := by decide +kernel
theorem dL_law_714 : decode cL_law 714 = .ok (.iload 7, 2) := by decide +kernel
theorem dL_law_716 : decode cL_law 716 = .ok (.i2l, 1) := by decide +kernel
theorem dL_law_717 : decode cL_law 717 = .ok (.lcmp, 1) := by decide +kernel
theorem dL_law_718 : decode cL_law 718 = .ok (.ifCond .eq 5, 3) := by decide +kernel
theorem dL_law_721 : decode cL_law 721 = .ok (.iconst 0, 1) := by decide +kernel
theorem dL_law_722 : decode cL_law 722 = .ok (.ireturn, 1) := by decide +kernel
theorem dL_law_723 : decode cL_law 723 = .ok (.goto 1538, 3) := by decide +kernel
theorem dL_law_726 : decode cL_law 726 = .ok (.aload_n 1, 1) := by decide +kernel
theorem dL_law_727 : decode cL_law 727 = .ok (.aload_n 0, 1) := by decide +kernel
theorem dL_law_728 : decode cL_law 728 = .ok (.iload 5, 2) := by decide +kernel
theorem dL_law_730 : decode cL_law 730 = .ok (.iconst 1, 1) := by decide +kernel
theorem dL_law_731 : decode cL_law 731 = .ok (.iadd, 1) := by decide +kernel
theorem dL_law_732 : decode cL_law 732 = .ok (.iaload, 1) := by decide +kernel
theorem dL_law_733 : decode cL_law 733 = .ok (.aload_n 0, 1) := by decide +kernel
theorem dL_law_734 : decode cL_law 734 = .ok (.iload 5, 2) := by decide +kernel
theorem dL_law_736 : decode cL_law 736 = .ok (.iconst 2, 1) := by decide +kernel
theorem dL_law_737 : decode cL_law 737 = .ok (.iadd, 1) := by decide +kernel
theorem dL_law_738 : decode cL_law 738 = .ok (.iaload, 1) := by decide +kernel
theorem dL_law_739 : decode cL_law 739 = .ok (.aload_n 0, 1) := by decide +kernel
theorem dL_law_740 : decode cL_law 740 = .ok (.iload 5, 2) := by decide +kernel
theorem dL_law_742 : decode cL_law 742 = .ok (.iconst 3, 1) := by decide +kernel
theorem dL_law_743 : decode cL_law 743 = .ok (.iadd, 1) := by decide +kernel
theorem dL_law_744 : decode cL_law 744 = .ok (.iaload, 1) := by decide +kernel
theorem dL_law_745 : decode cL_law 745 = .ok (.aload_n 3, 1) := by decide +kernel
theorem dL_law_746 : decode cL_law 746 = .ok (.invokestatic 152, 3) := by decide +kernel
theorem dL_law_749 : decode cL_law 749 = .ok (.istore 6, 2) := by decide +kernel
theorem dL_law_751 : decode cL_law 751 = .ok (.aload_n 2, 1) := by decide +kernel
theorem dL_law_752 : decode cL_law 752 = .ok (.aload_n 0, 1) := by decide +kernel
theorem dL_law_753 : decode cL_law 753 = .ok (.iload 5, 2) := by decide +kernel
theorem dL_law_755 : decode cL_law 755 = .ok (.iconst 1, 1) := by decide +kernel
theorem dL_law_756 : decode cL_law 756 = .ok (.iadd, 1) := by decide +kernel
theorem dL_law_757 : decode cL_law 757 = .ok (.iaload, 1) := by decide +kernel
theorem dL_law_758 : decode cL_law 758 = .ok (.aload_n 0, 1) := by decide +kernel
theorem dL_law_759 : decode cL_law 759 = .ok (.iload 5, 2) := by decide +kernel
theorem dL_law_761 : decode cL_law 761 = .ok (.iconst 2, 1) := by decide +kernel
theorem dL_law_762 : decode cL_law 762 = .ok (.iadd, 1) := by decide +kernel
theorem dL_law_763 : decode cL_law 763 = .ok (.iaload, 1) := by decide +kernel
theorem dL_law_764 : decode cL_law 764 = .ok (.aload_n 0, 1) := by decide +kernel
theorem dL_law_765 : decode cL_law 765 = .ok (.iload 5, 2) := by decide +kernel
theorem dL_law_767 : decode cL_law 767 = .ok (.iconst 3, 1) := by decide +kernel
theorem dL_law_768 : decode cL_law 768 = .ok (.iadd, 1) := by decide +kernel
theorem dL_law_769 : decode cL_law 769 = .ok (.iaload, 1) := by decide +kernel
theorem dL_law_770 : decode cL_law 770 = .ok (.invokevirtual 154, 3) := by decide +kernel
theorem dL_law_773 : decode cL_law 773 = .ok (.istore 7, 2) := by decide +kernel
theorem dL_law_775 : decode cL_law 775 = .ok (.aload_n 2, 1) := by decide +kernel
theorem dL_law_776 : decode cL_law 776 = .ok (.invokevirtual 132, 3) := by decide +kernel
theorem dL_law_779 : decode cL_law 779 = .ok (.iload 6, 2) := by decide +kernel
theorem dL_law_781 : decode cL_law 781 = .ok (.if_icmp .eq 5, 3) := by decide +kernel
theorem dL_law_784 : decode cL_law 784 = .ok (.iconst 0, 1) := by decide +kernel
theorem dL_law_785 : decode cL_law 785 = .ok (.ireturn, 1) := by decide +kernel
theorem dL_law_786 : decode cL_law 786 = .ok (.iload 6, 2) := by decide +kernel
theorem dL_law_788 : decode cL_law 788 = .ok (.ifCond .ne 15, 3) := by decide +kernel
theorem dL_law_791 : decode cL_law 791 = .ok (.aload_n 3, 1) := by decide +kernel
theorem dL_law_792 : decode cL_law 792 = .ok (.iconst 0, 1) := by decide +kernel
theorem dL_law_793 : decode cL_law 793 = .ok (.laload, 1) := by decide +kernel
theorem dL_law_794 : decode cL_law 794 = .ok (.iload 7, 2) := by decide +kernel
theorem dL_law_796 : decode cL_law 796 = .ok (.i2l, 1) := by decide +kernel
theorem dL_law_797 : decode cL_law 797 = .ok (.lcmp, 1) := by decide +kernel
theorem dL_law_798 : decode cL_law 798 = .ok (.ifCond .eq 5, 3) := by decide +kernel
theorem dL_law_801 : decode cL_law 801 = .ok (.iconst 0, 1) := by decide +kernel
theorem dL_law_802 : decode cL_law 802 = .ok (.ireturn, 1) := by decide +kernel
theorem dL_law_803 : decode cL_law 803 = .ok (.goto 1458, 3) := by decide +kernel
theorem dL_law_806 : decode cL_law 806 = .ok (.aload_n 1, 1) := by decide +kernel
theorem dL_law_807 : decode cL_law 807 = .ok (.aload_n 0, 1) := by decide +kernel
theorem dL_law_808 : decode cL_law 808 = .ok (.iload 5, 2) := by decide +kernel
theorem dL_law_810 : decode cL_law 810 = .ok (.iconst 1, 1) := by decide +kernel
theorem dL_law_811 : decode cL_law 811 = .ok (.iadd, 1) := by decide +kernel
theorem dL_law_812 : decode cL_law 812 = .ok (.iaload, 1) := by decide +kernel
theorem dL_law_813 : decode cL_law 813 = .ok (.aload_n 0, 1) := by decide +kernel
theorem dL_law_814 : decode cL_law 814 = .ok (.iload 5, 2) := by decide +kernel
theorem dL_law_816 : decode cL_law 816 = .ok (.iconst 2, 1) := by decide +kernel
theorem dL_law_817 : decode cL_law 817 = .ok (.iadd, 1) := by decide +kernel
theorem dL_law_818 : decode cL_law 818 = .ok (.iaload, 1) := by decide +kernel
theorem dL_law_819 : decode cL_law 819 = .ok (.aload_n 3, 1) := by decide +kernel
theorem dL_law_820 : decode cL_law 820 = .ok (.invokestatic 155, 3) := by decide +kernel
theorem dL_law_823 : decode cL_law 823 = .ok (.istore 6, 2) := by decide +kernel
theorem dL_law_825 : decode cL_law 825 = .ok (.aload_n 2, 1) := by decide +kernel
theorem dL_law_826 : decode cL_law 826 = .ok (.aload_n 0, 1) := by decide +kernel
theorem dL_law_827 : decode cL_law 827 = .ok (.iload 5, 2) := by decide +kernel
theorem dL_law_829 : decode cL_law 829 = .ok (.iconst 1, 1) := by decide +kernel
theorem dL_law_830 : decode cL_law 830 = .ok (.iadd, 1) := by decide +kernel
theorem dL_law_831 : decode cL_law 831 = .ok (.iaload, 1) := by decide +kernel
theorem dL_law_832 : decode cL_law 832 = .ok (.aload_n 0, 1) := by decide +kernel
theorem dL_law_833 : decode cL_law 833 = .ok (.iload 5, 2) := by decide +kernel
theorem dL_law_835 : decode cL_law 835 = .ok (.iconst 2, 1) := by decide +kernel
theorem dL_law_836 : decode cL_law 836 = .ok (.iadd, 1) := by decide +kernel
theorem dL_law_837 : decode cL_law 837 = .ok (.iaload, 1) := by decide +kernel
theorem dL_law_838 : decode cL_law 838 = .ok (.invokevirtual 158, 3) := by decide +kernel
theorem dL_law_841 : decode cL_law 841 = .ok (.istore 7, 2) := by decide +kernel
theorem dL_law_843 : decode cL_law 843 = .ok (.aload_n 2, 1) := by decide +kernel
theorem dL_law_844 : decode cL_law 844 = .ok (.invokevirtual 132, 3) := by decide +kernel
theorem dL_law_847 : decode cL_law 847 = .ok (.iload 6, 2) := by decide +kernel
theorem dL_law_849 : decode cL_law 849 = .ok (.if_icmp .eq 5, 3) := by decide +kernel
theorem dL_law_852 : decode cL_law 852 = .ok (.iconst 0, 1) := by decide +kernel
theorem dL_law_853 : decode cL_law 853 = .ok (.ireturn, 1) := by decide +kernel
theorem dL_law_854 : decode cL_law 854 = .ok (.iload 6, 2) := by decide +kernel
theorem dL_law_856 : decode cL_law 856 = .ok (.ifCond .ne 15, 3) := by decide +kernel
theorem dL_law_859 : decode cL_law 859 = .ok (.aload_n 3, 1) := by decide +kernel
theorem dL_law_860 : decode cL_law 860 = .ok (.iconst 0, 1) := by decide +kernel
theorem dL_law_861 : decode cL_law 861 = .ok (.laload, 1) := by decide +kernel
theorem dL_law_862 : decode cL_law 862 = .ok (.iload 7, 2) := by decide +kernel
theorem dL_law_864 : decode cL_law 864 = .ok (.i2l, 1) := by decide +kernel
theorem dL_law_865 : decode cL_law 865 = .ok (.lcmp, 1) := by decide +kernel
theorem dL_law_866 : decode cL_law 866 = .ok (.ifCond .eq 5, 3) := by decide +kernel
theorem dL_law_869 : decode cL_law 869 = .ok (.iconst 0, 1) := by decide +kernel
theorem dL_law_870 : decode cL_law 870 = .ok (.ireturn, 1) := by decide +kernel
theorem dL_law_871 : decode cL_law 871 = .ok (.goto 1390, 3) := by decide +kernel
theorem dL_law_874 : decode cL_law 874 = .ok (.aload_n 1, 1) := by decide +kernel
theorem dL_law_875 : decode cL_law 875 = .ok (.aload_n 0, 1) := by decide +kernel
theorem dL_law_876 : decode cL_law 876 = .ok (.iload 5, 2) := by decide +kernel
theorem dL_law_878 : decode cL_law 878 = .ok (.iconst 1, 1) := by decide +kernel
theorem dL_law_879 : decode cL_law 879 = .ok (.iadd, 1) := by decide +kernel
theorem dL_law_880 : decode cL_law 880 = .ok (.iaload, 1) := by decide +kernel
theorem dL_law_881 : decode cL_law 881 = .ok (.aload_n 0, 1) := by decide +kernel
theorem dL_law_882 : decode cL_law 882 = .ok (.iload 5, 2) := by decide +kernel
theorem dL_law_884 : decode cL_law 884 = .ok (.iconst 2, 1) := by decide +kernel
theorem dL_law_885 : decode cL_law 885 = .ok (.iadd, 1) := by decide +kernel
theorem dL_law_886 : decode cL_law 886 = .ok (.iaload, 1) := by decide +kernel
theorem dL_law_887 : decode cL_law 887 = .ok (.aload_n 3, 1) := by decide +kernel
theorem dL_law_888 : decode cL_law 888 = .ok (.invokestatic 159, 3) := by decide +kernel
theorem dL_law_891 : decode cL_law 891 = .ok (.istore 6, 2) := by decide +kernel
theorem dL_law_893 : decode cL_law 893 = .ok (.aload_n 2, 1) := by decide +kernel
theorem dL_law_894 : decode cL_law 894 = .ok (.aload_n 0, 1) := by decide +kernel
theorem dL_law_895 : decode cL_law 895 = .ok (.iload 5, 2) := by decide +kernel
theorem dL_law_897 : decode cL_law 897 = .ok (.iconst 1, 1) := by decide +kernel
theorem dL_law_898 : decode cL_law 898 = .ok (.iadd, 1) := by decide +kernel
theorem dL_law_899 : decode cL_law 899 = .ok (.iaload, 1) := by decide +kernel
theorem dL_law_900 : decode cL_law 900 = .ok (.aload_n 0, 1) := by decide +kernel
theorem dL_law_901 : decode cL_law 901 = .ok (.iload 5, 2) := by decide +kernel
theorem dL_law_903 : decode cL_law 903 = .ok (.iconst 2, 1) := by decide +kernel
theorem dL_law_904 : decode cL_law 904 = .ok (.iadd, 1) := by decide +kernel
theorem dL_law_905 : decode cL_law 905 = .ok (.iaload, 1) := by decide +kernel
theorem dL_law_906 : decode cL_law 906 = .ok (.invokevirtual 161, 3) := by decide +kernel
theorem dL_law_909 : decode cL_law 909 = .ok (.istore 7, 2) := by decide +kernel
theorem dL_law_911 : decode cL_law 911 = .ok (.aload_n 2, 1) := by decide +kernel
theorem dL_law_912 : decode cL_law 912 = .ok (.invokevirtual 132, 3) := by decide +kernel
theorem dL_law_915 : decode cL_law 915 = .ok (.iload 6, 2) := by decide +kernel
theorem dL_law_917 : decode cL_law 917 = .ok (.if_icmp .eq 5, 3) := by decide +kernel
theorem dL_law_920 : decode cL_law 920 = .ok (.iconst 0, 1) := by decide +kernel
theorem dL_law_921 : decode cL_law 921 = .ok (.ireturn, 1) := by decide +kernel
theorem dL_law_922 : decode cL_law 922 = .ok (.iload 6, 2) := by decide +kernel
theorem dL_law_924 : decode cL_law 924 = .ok (.ifCond .ne 15, 3) := by decide +kernel
theorem dL_law_927 : decode cL_law 927 = .ok (.aload_n 3, 1) := by decide +kernel
theorem dL_law_928 : decode cL_law 928 = .ok (.iconst 0, 1) := by decide +kernel
theorem dL_law_929 : decode cL_law 929 = .ok (.laload, 1) := by decide +kernel
theorem dL_law_930 : decode cL_law 930 = .ok (.iload 7, 2) := by decide +kernel
theorem dL_law_932 : decode cL_law 932 = .ok (.i2l, 1) := by decide +kernel
theorem dL_law_933 : decode cL_law 933 = .ok (.lcmp, 1) := by decide +kernel
theorem dL_law_934 : decode cL_law 934 = .ok (.ifCond .eq 5, 3) := by decide +kernel
theorem dL_law_937 : decode cL_law 937 = .ok (.iconst 0, 1) := by decide +kernel
theorem dL_law_938 : decode cL_law 938 = .ok (.ireturn, 1) := by decide +kernel
theorem dL_law_939 : decode cL_law 939 = .ok (.goto 1322, 3) := by decide +kernel
theorem dL_law_942 : decode cL_law 942 = .ok (.aload_n 1, 1) := by decide +kernel
theorem dL_law_943 : decode cL_law 943 = .ok (.aload_n 0, 1) := by decide +kernel
theorem dL_law_944 : decode cL_law 944 = .ok (.iload 5, 2) := by decide +kernel
theorem dL_law_946 : decode cL_law 946 = .ok (.iconst 1, 1) := by decide +kernel
theorem dL_law_947 : decode cL_law 947 = .ok (.iadd, 1) := by decide +kernel
theorem dL_law_948 : decode cL_law 948 = .ok (.iaload, 1) := by decide +kernel
theorem dL_law_949 : decode cL_law 949 = .ok (.aload_n 3, 1) := by decide +kernel
theorem dL_law_950 : decode cL_law 950 = .ok (.invokestatic 162, 3) := by decide +kernel
theorem dL_law_953 : decode cL_law 953 = .ok (.istore 6, 2) := by decide +kernel
theorem dL_law_955 : decode cL_law 955 = .ok (.aload_n 2, 1) := by decide +kernel
theorem dL_law_956 : decode cL_law 956 = .ok (.aload_n 0, 1) := by decide +kernel
theorem dL_law_957 : decode cL_law 957 = .ok (.iload 5, 2) := by decide +kernel
theorem dL_law_959 : decode cL_law 959 = .ok (.iconst 1, 1) := by decide +kernel
theorem dL_law_960 : decode cL_law 960 = .ok (.iadd, 1) := by decide +kernel
theorem dL_law_961 : decode cL_law 961 = .ok (.iaload, 1) := by decide +kernel
theorem dL_law_962 : decode cL_law 962 = .ok (.invokevirtual 165, 3) := by decide +kernel
theorem dL_law_965 : decode cL_law 965 = .ok (.istore 7, 2) := by decide +kernel
theorem dL_law_967 : decode cL_law 967 = .ok (.aload_n 2, 1) := by decide +kernel
theorem dL_law_968 : decode cL_law 968 = .ok (.invokevirtual 132, 3) := by decide +kernel
theorem dL_law_971 : decode cL_law 971 = .ok (.iload 6, 2) := by decide +kernel
theorem dL_law_973 : decode cL_law 973 = .ok (.if_icmp .eq 5, 3) := by decide +kernel
theorem dL_law_976 : decode cL_law 976 = .ok (.iconst 0, 1) := by decide +kernel
theorem dL_law_977 : decode cL_law 977 = .ok (.ireturn, 1) := by decide +kernel
theorem dL_law_978 : decode cL_law 978 = .ok (.iload 6, 2) := by decide +kernel
theorem dL_law_980 : decode cL_law 980 = .ok (.ifCond .ne 15, 3) := by decide +kernel
theorem dL_law_983 : decode cL_law 983 = .ok (.aload_n 3, 1) := by decide +kernel
theorem dL_law_984 : decode cL_law 984 = .ok (.iconst 0, 1) := by decide +kernel
theorem dL_law_985 : decode cL_law 985 = .ok (.laload, 1) := by decide +kernel
theorem dL_law_986 : decode cL_law 986 = .ok (.iload 7, 2) := by decide +kernel
theorem dL_law_988 : decode cL_law 988 = .ok (.i2l, 1) := by decide +kernel
theorem dL_law_989 : decode cL_law 989 = .ok (.lcmp, 1) := by decide +kernel
theorem dL_law_990 : decode cL_law 990 = .ok (.ifCond .eq 5, 3) := by decide +kernel
theorem dL_law_993 : decode cL_law 993 = .ok (.iconst 0, 1) := by decide +kernel
theorem dL_law_994 : decode cL_law 994 = .ok (.ireturn, 1) := by decide +kernel
theorem dL_law_995 : decode cL_law 995 = .ok (.goto 1266, 3) := by decide +kernel
theorem dL_law_998 : decode cL_law 998 = .ok (.aload_n 1, 1) := by decide +kernel
theorem dL_law_999 : decode cL_law 999 = .ok (.aload_n 0, 1) := by decide +kernel
theorem dL_law_1000 : decode cL_law 1000 = .ok (.iload 5, 2) := by decide +kernel
theorem dL_law_1002 : decode cL_law 1002 = .ok (.iconst 1, 1) := by decide +kernel
theorem dL_law_1003 : decode cL_law 1003 = .ok (.iadd, 1) := by decide +kernel
theorem dL_law_1004 : decode cL_law 1004 = .ok (.iaload, 1) := by decide +kernel
theorem dL_law_1005 : decode cL_law 1005 = .ok (.aload_n 3, 1) := by decide +kernel
theorem dL_law_1006 : decode cL_law 1006 = .ok (.invokestatic 166, 3) := by decide +kernel
theorem dL_law_1009 : decode cL_law 1009 = .ok (.istore 6, 2) := by decide +kernel
theorem dL_law_1011 : decode cL_law 1011 = .ok (.aload_n 2, 1) := by decide +kernel
theorem dL_law_1012 : decode cL_law 1012 = .ok (.aload_n 0, 1) := by decide +kernel
theorem dL_law_1013 : decode cL_law 1013 = .ok (.iload 5, 2) := by decide +kernel
theorem dL_law_1015 : decode cL_law 1015 = .ok (.iconst 1, 1) := by decide +kernel
theorem dL_law_1016 : decode cL_law 1016 = .ok (.iadd, 1) := by decide +kernel
theorem dL_law_1017 : decode cL_law 1017 = .ok (.iaload, 1) := by decide +kernel
theorem dL_law_1018 : decode cL_law 1018 = .ok (.invokevirtual 168, 3) := by decide +kernel
theorem dL_law_1021 : decode cL_law 1021 = .ok (.istore 7, 2) := by decide +kernel
theorem dL_law_1023 : decode cL_law 1023 = .ok (.aload_n 2, 1) := by decide +kernel
theorem dL_law_1024 : decode cL_law 1024 = .ok (.invokevirtual 132, 3) := by decide +kernel
theorem dL_law_1027 : decode cL_law 1027 = .ok (.iload 6, 2) := by decide +kernel
theorem dL_law_1029 : decode cL_law 1029 = .ok (.if_icmp .eq 5, 3) := by decide +kernel
theorem dL_law_1032 : decode cL_law 1032 = .ok (.iconst 0, 1) := by decide +kernel
theorem dL_law_1033 : decode cL_law 1033 = .ok (.ireturn, 1) := by decide +kernel
theorem dL_law_1034 : decode cL_law 1034 = .ok (.iload 6, 2) := by decide +kernel
theorem dL_law_1036 : decode cL_law 1036 = .ok (.ifCond .ne 22, 3) := by decide +kernel
theorem dL_law_1039 : decode cL_law 1039 = .ok (.aload_n 3, 1) := by decide +kernel
theorem dL_law_1040 : decode cL_law 1040 = .ok (.iconst 0, 1) := by decide +kernel
theorem dL_law_1041 : decode cL_law 1041 = .ok (.laload, 1) := by decide +kernel
theorem dL_law_1042 : decode cL_law 1042 = .ok (.iload 7, 2) := by decide +kernel
theorem dL_law_1044 : decode cL_law 1044 = .ok (.ifCond .eq 7, 3) := by decide +kernel
theorem dL_law_1047 : decode cL_law 1047 = .ok (.lconst 1, 1) := by decide +kernel
theorem dL_law_1048 : decode cL_law 1048 = .ok (.goto 4, 3) := by decide +kernel
theorem dL_law_1051 : decode cL_law 1051 = .ok (.lconst 0, 1) := by decide +kernel
theorem dL_law_1052 : decode cL_law 1052 = .ok (.lcmp, 1) := by decide +kernel
theorem dL_law_1053 : decode cL_law 1053 = .ok (.ifCond .eq 5, 3) := by decide +kernel
theorem dL_law_1056 : decode cL_law 1056 = .ok (.iconst 0, 1) := by decide +kernel
theorem dL_law_1057 : decode cL_law 1057 = .ok (.ireturn, 1) := by decide +kernel
theorem dL_law_1058 : decode cL_law 1058 = .ok (.goto 1203, 3) := by decide +kernel
theorem dL_law_1061 : decode cL_law 1061 = .ok (.aload_n 1, 1) := by decide +kernel
theorem dL_law_1062 : decode cL_law 1062 = .ok (.aload_n 0, 1) := by decide +kernel
theorem dL_law_1063 : decode cL_law 1063 = .ok (.iload 5, 2) := by decide +kernel
theorem dL_law_1065 : decode cL_law 1065 = .ok (.iconst 1, 1) := by decide +kernel
theorem dL_law_1066 : decode cL_law 1066 = .ok (.iadd, 1) := by decide +kernel
theorem dL_law_1067 : decode cL_law 1067 = .ok (.iaload, 1) := by decide +kernel
theorem dL_law_1068 : decode cL_law 1068 = .ok (.aload_n 0, 1) := by decide +kernel
theorem dL_law_1069 : decode cL_law 1069 = .ok (.iload 5, 2) := by decide +kernel
theorem dL_law_1071 : decode cL_law 1071 = .ok (.iconst 2, 1) := by decide +kernel
theorem dL_law_1072 : decode cL_law 1072 = .ok (.iadd, 1) := by decide +kernel
theorem dL_law_1073 : decode cL_law 1073 = .ok (.iaload, 1) := by decide +kernel
theorem dL_law_1074 : decode cL_law 1074 = .ok (.aload_n 0, 1) := by decide +kernel
theorem dL_law_1075 : decode cL_law 1075 = .ok (.iload 5, 2) := by decide +kernel
theorem dL_law_1077 : decode cL_law 1077 = .ok (.iconst 3, 1) := by decide +kernel
theorem dL_law_1078 : decode cL_law 1078 = .ok (.iadd, 1) := by decide +kernel
theorem dL_law_1079 : decode cL_law 1079 = .ok (.iaload, 1) := by decide +kernel
theorem dL_law_1080 : decode cL_law 1080 = .ok (.aload_n 0, 1) := by decide +kernel
theorem dL_law_1081 : decode cL_law 1081 = .ok (.iload 5, 2) := by decide +kernel
theorem dL_law_1083 : decode cL_law 1083 = .ok (.iconst 4, 1) := by decide +kernel
theorem dL_law_1084 : decode cL_law 1084 = .ok (.iadd, 1) := by decide +kernel
theorem dL_law_1085 : decode cL_law 1085 = .ok (.iaload, 1) := by decide +kernel
theorem dL_law_1086 : decode cL_law 1086 = .ok (.aload_n 3, 1) := by decide +kernel
theorem dL_law_1087 : decode cL_law 1087 = .ok (.invokestatic 169, 3) := by decide +kernel
theorem dL_law_1090 : decode cL_law 1090 = .ok (.istore 6, 2) := by decide +kernel
theorem dL_law_1092 : decode cL_law 1092 = .ok (.aload_n 2, 1) := by decide +kernel
theorem dL_law_1093 : decode cL_law 1093 = .ok (.aload_n 0, 1) := by decide +kernel
theorem dL_law_1094 : decode cL_law 1094 = .ok (.iload 5, 2) := by decide +kernel
theorem dL_law_1096 : decode cL_law 1096 = .ok (.iconst 1, 1) := by decide +kernel
theorem dL_law_1097 : decode cL_law 1097 = .ok (.iadd, 1) := by decide +kernel
theorem dL_law_1098 : decode cL_law 1098 = .ok (.iaload, 1) := by decide +kernel
theorem dL_law_1099 : decode cL_law 1099 = .ok (.aload_n 0, 1) := by decide +kernel
theorem dL_law_1100 : decode cL_law 1100 = .ok (.iload 5, 2) := by decide +kernel
theorem dL_law_1102 : decode cL_law 1102 = .ok (.iconst 2, 1) := by decide +kernel
theorem dL_law_1103 : decode cL_law 1103 = .ok (.iadd, 1) := by decide +kernel
theorem dL_law_1104 : decode cL_law 1104 = .ok (.iaload, 1) := by decide +kernel
theorem dL_law_1105 : decode cL_law 1105 = .ok (.aload_n 0, 1) := by decide +kernel
theorem dL_law_1106 : decode cL_law 1106 = .ok (.iload 5, 2) := by decide +kernel
theorem dL_law_1108 : decode cL_law 1108 = .ok (.iconst 3, 1) := by decide +kernel
theorem dL_law_1109 : decode cL_law 1109 = .ok (.iadd, 1) := by decide +kernel
theorem dL_law_1110 : decode cL_law 1110 = .ok (.iaload, 1) := by decide +kernel
theorem dL_law_1111 : decode cL_law 1111 = .ok (.aload_n 0, 1) := by decide +kernel
theorem dL_law_1112 : decode cL_law 1112 = .ok (.iload 5, 2) := by decide +kernel
theorem dL_law_1114 : decode cL_law 1114 = .ok (.iconst 4, 1) := by decide +kernel
theorem dL_law_1115 : decode cL_law 1115 = .ok (.iadd, 1) := by decide +kernel
theorem dL_law_1116 : decode cL_law 1116 = .ok (.iaload, 1) := by decide +kernel
theorem dL_law_1117 : decode cL_law 1117 = .ok (.invokevirtual 171, 3) := by decide +kernel
theorem dL_law_1120 : decode cL_law 1120 = .ok (.istore 7, 2) := by decide +kernel
theorem dL_law_1122 : decode cL_law 1122 = .ok (.aload_n 2, 1) := by decide +kernel
theorem dL_law_1123 : decode cL_law 1123 = .ok (.invokevirtual 132, 3) := by decide +kernel
theorem dL_law_1126 : decode cL_law 1126 = .ok (.iload 6, 2) := by decide +kernel
theorem dL_law_1128 : decode cL_law 1128 = .ok (.if_icmp .eq 5, 3) := by decide +kernel
theorem dL_law_1131 : decode cL_law 1131 = .ok (.iconst 0, 1) := by decide +kernel
theorem dL_law_1132 : decode cL_law 1132 = .ok (.ireturn, 1) := by decide +kernel
theorem dL_law_1133 : decode cL_law 1133 = .ok (.iload 6, 2) := by decide +kernel
theorem dL_law_1135 : decode cL_law 1135 = .ok (.ifCond .ne 15, 3) := by decide +kernel
theorem dL_law_1138 : decode cL_law 1138 = .ok (.aload_n 3, 1) := by decide +kernel
theorem dL_law_1139 : decode cL_law 1139 = .ok (.iconst 0, 1) := by decide +kernel
theorem dL_law_1140 : decode cL_law 1140 = .ok (.laload, 1) := by decide +kernel
theorem dL_law_1141 : decode cL_law 1141 = .ok (.iload 7, 2) := by decide +kernel
theorem dL_law_1143 : decode cL_law 1143 = .ok (.i2l, 1) := by decide +kernel
theorem dL_law_1144 : decode cL_law 1144 = .ok (.lcmp, 1) := by decide +kernel
theorem dL_law_1145 : decode cL_law 1145 = .ok (.ifCond .eq 5, 3) := by decide +kernel
theorem dL_law_1148 : decode cL_law 1148 = .ok (.iconst 0, 1) := by decide +kernel
theorem dL_law_1149 : decode cL_law 1149 = .ok (.ireturn, 1) := by decide +kernel
theorem dL_law_1150 : decode cL_law 1150 = .ok (.goto 1111, 3) := by decide +kernel
theorem dL_law_1153 : decode cL_law 1153 = .ok (.aload_n 1, 1) := by decide +kernel
theorem dL_law_1154 : decode cL_law 1154 = .ok (.aload_n 0, 1) := by decide +kernel
theorem dL_law_1155 : decode cL_law 1155 = .ok (.iload 5, 2) := by decide +kernel
theorem dL_law_1157 : decode cL_law 1157 = .ok (.iconst 1, 1) := by decide +kernel
theorem dL_law_1158 : decode cL_law 1158 = .ok (.iadd, 1) := by decide +kernel
theorem dL_law_1159 : decode cL_law 1159 = .ok (.iaload, 1) := by decide +kernel
theorem dL_law_1160 : decode cL_law 1160 = .ok (.aload_n 3, 1) := by decide +kernel
theorem dL_law_1161 : decode cL_law 1161 = .ok (.invokestatic 172, 3) := by decide +kernel
theorem dL_law_1164 : decode cL_law 1164 = .ok (.istore 6, 2) := by decide +kernel
theorem dL_law_1166 : decode cL_law 1166 = .ok (.aload_n 2, 1) := by decide +kernel
theorem dL_law_1167 : decode cL_law 1167 = .ok (.aload_n 0, 1) := by decide +kernel
theorem dL_law_1168 : decode cL_law 1168 = .ok (.iload 5, 2) := by decide +kernel
theorem dL_law_1170 : decode cL_law 1170 = .ok (.iconst 1, 1) := by decide +kernel
theorem dL_law_1171 : decode cL_law 1171 = .ok (.iadd, 1) := by decide +kernel
theorem dL_law_1172 : decode cL_law 1172 = .ok (.iaload, 1) := by decide +kernel
theorem dL_law_1173 : decode cL_law 1173 = .ok (.invokevirtual 174, 3) := by decide +kernel
theorem dL_law_1176 : decode cL_law 1176 = .ok (.istore 7, 2) := by decide +kernel
theorem dL_law_1178 : decode cL_law 1178 = .ok (.aload_n 2, 1) := by decide +kernel
theorem dL_law_1179 : decode cL_law 1179 = .ok (.invokevirtual 132, 3) := by decide +kernel
theorem dL_law_1182 : decode cL_law 1182 = .ok (.iload 6, 2) := by decide +kernel
theorem dL_law_1184 : decode cL_law 1184 = .ok (.if_icmp .eq 5, 3) := by decide +kernel
theorem dL_law_1187 : decode cL_law 1187 = .ok (.iconst 0, 1) := by decide +kernel
theorem dL_law_1188 : decode cL_law 1188 = .ok (.ireturn, 1) := by decide +kernel
theorem dL_law_1189 : decode cL_law 1189 = .ok (.iload 6, 2) := by decide +kernel
theorem dL_law_1191 : decode cL_law 1191 = .ok (.ifCond .ne 15, 3) := by decide +kernel
theorem dL_law_1194 : decode cL_law 1194 = .ok (.aload_n 3, 1) := by decide +kernel
theorem dL_law_1195 : decode cL_law 1195 = .ok (.iconst 0, 1) := by decide +kernel
theorem dL_law_1196 : decode cL_law 1196 = .ok (.laload, 1) := by decide +kernel
theorem dL_law_1197 : decode cL_law 1197 = .ok (.iload 7, 2) := by decide +kernel
theorem dL_law_1199 : decode cL_law 1199 = .ok (.i2l, 1) := by decide +kernel
theorem dL_law_1200 : decode cL_law 1200 = .ok (.lcmp, 1) := by decide +kernel
theorem dL_law_1201 : decode cL_law 1201 = .ok (.ifCond .eq 5, 3) := by decide +kernel
theorem dL_law_1204 : decode cL_law 1204 = .ok (.iconst 0, 1) := by decide +kernel
theorem dL_law_1205 : decode cL_law 1205 = .ok (.ireturn, 1) := by decide +kernel
theorem dL_law_1206 : decode cL_law 1206 = .ok (.goto 1055, 3) := by decide +kernel
theorem dL_law_1209 : decode cL_law 1209 = .ok (.aload_n 1, 1) := by decide +kernel
theorem dL_law_1210 : decode cL_law 1210 = .ok (.aload_n 0, 1) := by decide +kernel
theorem dL_law_1211 : decode cL_law 1211 = .ok (.iload 5, 2) := by decide +kernel
theorem dL_law_1213 : decode cL_law 1213 = .ok (.iconst 1, 1) := by decide +kernel
theorem dL_law_1214 : decode cL_law 1214 = .ok (.iadd, 1) := by decide +kernel
theorem dL_law_1215 : decode cL_law 1215 = .ok (.iaload, 1) := by decide +kernel
theorem dL_law_1216 : decode cL_law 1216 = .ok (.aload_n 0, 1) := by decide +kernel
theorem dL_law_1217 : decode cL_law 1217 = .ok (.iload 5, 2) := by decide +kernel
theorem dL_law_1219 : decode cL_law 1219 = .ok (.iconst 2, 1) := by decide +kernel
theorem dL_law_1220 : decode cL_law 1220 = .ok (.iadd, 1) := by decide +kernel
theorem dL_law_1221 : decode cL_law 1221 = .ok (.iaload, 1) := by decide +kernel
theorem dL_law_1222 : decode cL_law 1222 = .ok (.aload_n 3, 1) := by decide +kernel
theorem dL_law_1223 : decode cL_law 1223 = .ok (.invokestatic 175, 3) := by decide +kernel
theorem dL_law_1226 : decode cL_law 1226 = .ok (.istore 6, 2) := by decide +kernel
theorem dL_law_1228 : decode cL_law 1228 = .ok (.aload_n 2, 1) := by decide +kernel
theorem dL_law_1229 : decode cL_law 1229 = .ok (.aload_n 0, 1) := by decide +kernel
theorem dL_law_1230 : decode cL_law 1230 = .ok (.iload 5, 2) := by decide +kernel
theorem dL_law_1232 : decode cL_law 1232 = .ok (.iconst 1, 1) := by decide +kernel
theorem dL_law_1233 : decode cL_law 1233 = .ok (.iadd, 1) := by decide +kernel
theorem dL_law_1234 : decode cL_law 1234 = .ok (.iaload, 1) := by decide +kernel
theorem dL_law_1235 : decode cL_law 1235 = .ok (.aload_n 0, 1) := by decide +kernel
theorem dL_law_1236 : decode cL_law 1236 = .ok (.iload 5, 2) := by decide +kernel
theorem dL_law_1238 : decode cL_law 1238 = .ok (.iconst 2, 1) := by decide +kernel
theorem dL_law_1239 : decode cL_law 1239 = .ok (.iadd, 1) := by decide +kernel
theorem dL_law_1240 : decode cL_law 1240 = .ok (.iaload, 1) := by decide +kernel
theorem dL_law_1241 : decode cL_law 1241 = .ok (.invokevirtual 177, 3) := by decide +kernel
theorem dL_law_1244 : decode cL_law 1244 = .ok (.istore 7, 2) := by decide +kernel
theorem dL_law_1246 : decode cL_law 1246 = .ok (.aload_n 2, 1) := by decide +kernel
theorem dL_law_1247 : decode cL_law 1247 = .ok (.invokevirtual 132, 3) := by decide +kernel
theorem dL_law_1250 : decode cL_law 1250 = .ok (.iload 6, 2) := by decide +kernel
theorem dL_law_1252 : decode cL_law 1252 = .ok (.if_icmp .eq 5, 3) := by decide +kernel
theorem dL_law_1255 : decode cL_law 1255 = .ok (.iconst 0, 1) := by decide +kernel
theorem dL_law_1256 : decode cL_law 1256 = .ok (.ireturn, 1) := by decide +kernel
theorem dL_law_1257 : decode cL_law 1257 = .ok (.iload 6, 2) := by decide +kernel
theorem dL_law_1259 : decode cL_law 1259 = .ok (.ifCond .ne 15, 3) := by decide +kernel
theorem dL_law_1262 : decode cL_law 1262 = .ok (.aload_n 3, 1) := by decide +kernel
theorem dL_law_1263 : decode cL_law 1263 = .ok (.iconst 0, 1) := by decide +kernel
theorem dL_law_1264 : decode cL_law 1264 = .ok (.laload, 1) := by decide +kernel
theorem dL_law_1265 : decode cL_law 1265 = .ok (.iload 7, 2) := by decide +kernel
theorem dL_law_1267 : decode cL_law 1267 = .ok (.i2l, 1) := by decide +kernel
theorem dL_law_1268 : decode cL_law 1268 = .ok (.lcmp, 1) := by decide +kernel
theorem dL_law_1269 : decode cL_law 1269 = .ok (.ifCond .eq 5, 3) := by decide +kernel
theorem dL_law_1272 : decode cL_law 1272 = .ok (.iconst 0, 1) := by decide +kernel
theorem dL_law_1273 : decode cL_law 1273 = .ok (.ireturn, 1) := by decide +kernel
theorem dL_law_1274 : decode cL_law 1274 = .ok (.goto 987, 3) := by decide +kernel
theorem dL_law_1277 : decode cL_law 1277 = .ok (.aload_n 1, 1) := by decide +kernel
theorem dL_law_1278 : decode cL_law 1278 = .ok (.aload_n 0, 1) := by decide +kernel
theorem dL_law_1279 : decode cL_law 1279 = .ok (.iload 5, 2) := by decide +kernel
theorem dL_law_1281 : decode cL_law 1281 = .ok (.iconst 1, 1) := by decide +kernel
theorem dL_law_1282 : decode cL_law 1282 = .ok (.iadd, 1) := by decide +kernel
theorem dL_law_1283 : decode cL_law 1283 = .ok (.iaload, 1) := by decide +kernel
theorem dL_law_1284 : decode cL_law 1284 = .ok (.aload_n 0, 1) := by decide +kernel
theorem dL_law_1285 : decode cL_law 1285 = .ok (.iload 5, 2) := by decide +kernel
theorem dL_law_1287 : decode cL_law 1287 = .ok (.iconst 2, 1) := by decide +kernel
theorem dL_law_1288 : decode cL_law 1288 = .ok (.iadd, 1) := by decide +kernel
theorem dL_law_1289 : decode cL_law 1289 = .ok (.iaload, 1) := by decide +kernel
theorem dL_law_1290 : decode cL_law 1290 = .ok (.aload_n 3, 1) := by decide +kernel
theorem dL_law_1291 : decode cL_law 1291 = .ok (.invokestatic 178, 3) := by decide +kernel
theorem dL_law_1294 : decode cL_law 1294 = .ok (.istore 6, 2) := by decide +kernel
theorem dL_law_1296 : decode cL_law 1296 = .ok (.aload_n 2, 1) := by decide +kernel
theorem dL_law_1297 : decode cL_law 1297 = .ok (.aload_n 0, 1) := by decide +kernel
theorem dL_law_1298 : decode cL_law 1298 = .ok (.iload 5, 2) := by decide +kernel
theorem dL_law_1300 : decode cL_law 1300 = .ok (.iconst 1, 1) := by decide +kernel
theorem dL_law_1301 : decode cL_law 1301 = .ok (.iadd, 1) := by decide +kernel
theorem dL_law_1302 : decode cL_law 1302 = .ok (.iaload, 1) := by decide +kernel
theorem dL_law_1303 : decode cL_law 1303 = .ok (.aload_n 0, 1) := by decide +kernel
theorem dL_law_1304 : decode cL_law 1304 = .ok (.iload 5, 2) := by decide +kernel
theorem dL_law_1306 : decode cL_law 1306 = .ok (.iconst 2, 1) := by decide +kernel
theorem dL_law_1307 : decode cL_law 1307 = .ok (.iadd, 1) := by decide +kernel
theorem dL_law_1308 : decode cL_law 1308 = .ok (.iaload, 1) := by decide +kernel
theorem dL_law_1309 : decode cL_law 1309 = .ok (.invokevirtual 180, 3) := by decide +kernel
theorem dL_law_1312 : decode cL_law 1312 = .ok (.istore 7, 2) := by decide +kernel
theorem dL_law_1314 : decode cL_law 1314 = .ok (.aload_n 2, 1) := by decide +kernel
theorem dL_law_1315 : decode cL_law 1315 = .ok (.invokevirtual 132, 3) := by decide +kernel
theorem dL_law_1318 : decode cL_law 1318 = .ok (.iload 6, 2) := by decide +kernel
theorem dL_law_1320 : decode cL_law 1320 = .ok (.if_icmp .eq 5, 3) := by decide +kernel
theorem dL_law_1323 : decode cL_law 1323 = .ok (.iconst 0, 1) := by decide +kernel
theorem dL_law_1324 : decode cL_law 1324 = .ok (.ireturn, 1) := by decide +kernel
theorem dL_law_1325 : decode cL_law 1325 = .ok (.iload 6, 2) := by decide +kernel
theorem dL_law_1327 : decode cL_law 1327 = .ok (.ifCond .ne 15, 3) := by decide +kernel
theorem dL_law_1330 : decode cL_law 1330 = .ok (.aload_n 3, 1) := by decide +kernel
theorem dL_law_1331 : decode cL_law 1331 = .ok (.iconst 0, 1) := by decide +kernel
theorem dL_law_1332 : decode cL_law 1332 = .ok (.laload, 1) := by decide +kernel
theorem dL_law_1333 : decode cL_law 1333 = .ok (.iload 7, 2) := by decide +kernel
theorem dL_law_1335 : decode cL_law 1335 = .ok (.i2l, 1) := by decide +kernel
theorem dL_law_1336 : decode cL_law 1336 = .ok (.lcmp, 1) := by decide +kernel
theorem dL_law_1337 : decode cL_law 1337 = .ok (.ifCond .eq 5, 3) := by decide +kernel
theorem dL_law_1340 : decode cL_law 1340 = .ok (.iconst 0, 1) := by decide +kernel
theorem dL_law_1341 : decode cL_law 1341 = .ok (.ireturn, 1) := by decide +kernel
theorem dL_law_1342 : decode cL_law 1342 = .ok (.goto 919, 3) := by decide +kernel
theorem dL_law_1345 : decode cL_law 1345 = .ok (.aload_n 1, 1) := by decide +kernel
theorem dL_law_1346 : decode cL_law 1346 = .ok (.aload_n 0, 1) := by decide +kernel
theorem dL_law_1347 : decode cL_law 1347 = .ok (.iload 5, 2) := by decide +kernel
theorem dL_law_1349 : decode cL_law 1349 = .ok (.iconst 1, 1) := by decide +kernel
theorem dL_law_1350 : decode cL_law 1350 = .ok (.iadd, 1) := by decide +kernel
theorem dL_law_1351 : decode cL_law 1351 = .ok (.iaload, 1) := by decide +kernel
theorem dL_law_1352 : decode cL_law 1352 = .ok (.aload_n 0, 1) := by decide +kernel
theorem dL_law_1353 : decode cL_law 1353 = .ok (.iload 5, 2) := by decide +kernel
theorem dL_law_1355 : decode cL_law 1355 = .ok (.iconst 2, 1) := by decide +kernel
theorem dL_law_1356 : decode cL_law 1356 = .ok (.iadd, 1) := by decide +kernel
theorem dL_law_1357 : decode cL_law 1357 = .ok (.iaload, 1) := by decide +kernel
theorem dL_law_1358 : decode cL_law 1358 = .ok (.aload_n 0, 1) := by decide +kernel
theorem dL_law_1359 : decode cL_law 1359 = .ok (.iload 5, 2) := by decide +kernel
theorem dL_law_1361 : decode cL_law 1361 = .ok (.iconst 3, 1) := by decide +kernel
theorem dL_law_1362 : decode cL_law 1362 = .ok (.iadd, 1) := by decide +kernel
theorem dL_law_1363 : decode cL_law 1363 = .ok (.iaload, 1) := by decide +kernel
theorem dL_law_1364 : decode cL_law 1364 = .ok (.aload_n 0, 1) := by decide +kernel
theorem dL_law_1365 : decode cL_law 1365 = .ok (.iload 5, 2) := by decide +kernel
theorem dL_law_1367 : decode cL_law 1367 = .ok (.iconst 4, 1) := by decide +kernel
theorem dL_law_1368 : decode cL_law 1368 = .ok (.iadd, 1) := by decide +kernel
theorem dL_law_1369 : decode cL_law 1369 = .ok (.iaload, 1) := by decide +kernel
theorem dL_law_1370 : decode cL_law 1370 = .ok (.aload_n 3, 1) := by decide +kernel
theorem dL_law_1371 : decode cL_law 1371 = .ok (.invokestatic 181, 3) := by decide +kernel
theorem dL_law_1374 : decode cL_law 1374 = .ok (.istore 6, 2) := by decide +kernel
theorem dL_law_1376 : decode cL_law 1376 = .ok (.aload_n 2, 1) := by decide +kernel
theorem dL_law_1377 : decode cL_law 1377 = .ok (.aload_n 0, 1) := by decide +kernel
theorem dL_law_1378 : decode cL_law 1378 = .ok (.iload 5, 2) := by decide +kernel
theorem dL_law_1380 : decode cL_law 1380 = .ok (.iconst 1, 1) := by decide +kernel
theorem dL_law_1381 : decode cL_law 1381 = .ok (.iadd, 1) := by decide +kernel
theorem dL_law_1382 : decode cL_law 1382 = .ok (.iaload, 1) := by decide +kernel
theorem dL_law_1383 : decode cL_law 1383 = .ok (.aload_n 0, 1) := by decide +kernel
theorem dL_law_1384 : decode cL_law 1384 = .ok (.iload 5, 2) := by decide +kernel
theorem dL_law_1386 : decode cL_law 1386 = .ok (.iconst 2, 1) := by decide +kernel
theorem dL_law_1387 : decode cL_law 1387 = .ok (.iadd, 1) := by decide +kernel
theorem dL_law_1388 : decode cL_law 1388 = .ok (.iaload, 1) := by decide +kernel
theorem dL_law_1389 : decode cL_law 1389 = .ok (.aload_n 0, 1) := by decide +kernel
theorem dL_law_1390 : decode cL_law 1390 = .ok (.iload 5, 2) := by decide +kernel
theorem dL_law_1392 : decode cL_law 1392 = .ok (.iconst 3, 1) := by decide +kernel
theorem dL_law_1393 : decode cL_law 1393 = .ok (.iadd, 1) := by decide +kernel
theorem dL_law_1394 : decode cL_law 1394 = .ok (.iaload, 1) := by decide +kernel
theorem dL_law_1395 : decode cL_law 1395 = .ok (.aload_n 0, 1) := by decide +kernel
theorem dL_law_1396 : decode cL_law 1396 = .ok (.iload 5, 2) := by decide +kernel
theorem dL_law_1398 : decode cL_law 1398 = .ok (.iconst 4, 1) := by decide +kernel
theorem dL_law_1399 : decode cL_law 1399 = .ok (.iadd, 1) := by decide +kernel
theorem dL_law_1400 : decode cL_law 1400 = .ok (.iaload, 1) := by decide +kernel
theorem dL_law_1401 : decode cL_law 1401 = .ok (.invokevirtual 183, 3) := by decide +kernel
theorem dL_law_1404 : decode cL_law 1404 = .ok (.istore 7, 2) := by decide +kernel
theorem dL_law_1406 : decode cL_law 1406 = .ok (.aload_n 2, 1) := by decide +kernel
theorem dL_law_1407 : decode cL_law 1407 = .ok (.invokevirtual 132, 3) := by decide +kernel
theorem dL_law_1410 : decode cL_law 1410 = .ok (.iload 6, 2) := by decide +kernel
theorem dL_law_1412 : decode cL_law 1412 = .ok (.if_icmp .eq 5, 3) := by decide +kernel
theorem dL_law_1415 : decode cL_law 1415 = .ok (.iconst 0, 1) := by decide +kernel
theorem dL_law_1416 : decode cL_law 1416 = .ok (.ireturn, 1) := by decide +kernel
theorem dL_law_1417 : decode cL_law 1417 = .ok (.iload 6, 2) := by decide +kernel
theorem dL_law_1419 : decode cL_law 1419 = .ok (.ifCond .ne 22, 3) := by decide +kernel
theorem dL_law_1422 : decode cL_law 1422 = .ok (.aload_n 3, 1) := by decide +kernel
theorem dL_law_1423 : decode cL_law 1423 = .ok (.iconst 0, 1) := by decide +kernel
theorem dL_law_1424 : decode cL_law 1424 = .ok (.laload, 1) := by decide +kernel
theorem dL_law_1425 : decode cL_law 1425 = .ok (.iload 7, 2) := by decide +kernel
theorem dL_law_1427 : decode cL_law 1427 = .ok (.ifCond .eq 7, 3) := by decide +kernel
theorem dL_law_1430 : decode cL_law 1430 = .ok (.lconst 1, 1) := by decide +kernel
theorem dL_law_1431 : decode cL_law 1431 = .ok (.goto 4, 3) := by decide +kernel
theorem dL_law_1434 : decode cL_law 1434 = .ok (.lconst 0, 1) := by decide +kernel
theorem dL_law_1435 : decode cL_law 1435 = .ok (.lcmp, 1) := by decide +kernel
theorem dL_law_1436 : decode cL_law 1436 = .ok (.ifCond .eq 5, 3) := by decide +kernel
theorem dL_law_1439 : decode cL_law 1439 = .ok (.iconst 0, 1) := by decide +kernel
theorem dL_law_1440 : decode cL_law 1440 = .ok (.ireturn, 1) := by decide +kernel
theorem dL_law_1441 : decode cL_law 1441 = .ok (.goto 820, 3) := by decide +kernel
theorem dL_law_1444 : decode cL_law 1444 = .ok (.aload_n 1, 1) := by decide +kernel
theorem dL_law_1445 : decode cL_law 1445 = .ok (.invokevirtual 184, 3) := by decide +kernel
theorem dL_law_1448 : decode cL_law 1448 = .ok (.aload_n 2, 1) := by decide +kernel
theorem dL_law_1449 : decode cL_law 1449 = .ok (.invokevirtual 187, 3) := by decide +kernel
theorem dL_law_1452 : decode cL_law 1452 = .ok (.if_icmp .eq 809, 3) := by decide +kernel
theorem dL_law_1455 : decode cL_law 1455 = .ok (.iconst 0, 1) := by decide +kernel
theorem dL_law_1456 : decode cL_law 1456 = .ok (.ireturn, 1) := by decide +kernel
theorem dL_law_1457 : decode cL_law 1457 = .ok (.aload_n 1, 1) := by decide +kernel
theorem dL_law_1458 : decode cL_law 1458 = .ok (.aload_n 0, 1) := by decide +kernel
theorem dL_law_1459 : decode cL_law 1459 = .ok (.iload 5, 2) := by decide +kernel
theorem dL_law_1461 : decode cL_law 1461 = .ok (.iconst 1, 1) := by decide +kernel
theorem dL_law_1462 : decode cL_law 1462 = .ok (.iadd, 1) := by decide +kernel
theorem dL_law_1463 : decode cL_law 1463 = .ok (.iaload, 1) := by decide +kernel
theorem dL_law_1464 : decode cL_law 1464 = .ok (.aload_n 3, 1) := by decide +kernel
theorem dL_law_1465 : decode cL_law 1465 = .ok (.invokestatic 188, 3) := by decide +kernel
theorem dL_law_1468 : decode cL_law 1468 = .ok (.istore 6, 2) := by decide +kernel
theorem dL_law_1470 : decode cL_law 1470 = .ok (.aload_n 2, 1) := by decide +kernel
theorem dL_law_1471 : decode cL_law 1471 = .ok (.aload_n 0, 1) := by decide +kernel
theorem dL_law_1472 : decode cL_law 1472 = .ok (.iload 5, 2) := by decide +kernel
theorem dL_law_1474 : decode cL_law 1474 = .ok (.iconst 1, 1) := by decide +kernel
theorem dL_law_1475 : decode cL_law 1475 = .ok (.iadd, 1) := by decide +kernel
theorem dL_law_1476 : decode cL_law 1476 = .ok (.iaload, 1) := by decide +kernel
theorem dL_law_1477 : decode cL_law 1477 = .ok (.invokevirtual 190, 3) := by decide +kernel
theorem dL_law_1480 : decode cL_law 1480 = .ok (.istore 7, 2) := by decide +kernel
theorem dL_law_1482 : decode cL_law 1482 = .ok (.aload_n 2, 1) := by decide +kernel
theorem dL_law_1483 : decode cL_law 1483 = .ok (.invokevirtual 132, 3) := by decide +kernel
theorem dL_law_1486 : decode cL_law 1486 = .ok (.iload 6, 2) := by decide +kernel
theorem dL_law_1488 : decode cL_law 1488 = .ok (.if_icmp .eq 5, 3) := by decide +kernel
theorem dL_law_1491 : decode cL_law 1491 = .ok (.iconst 0, 1) := by decide +kernel
theorem dL_law_1492 : decode cL_law 1492 = .ok (.ireturn, 1) := by decide +kernel
theorem dL_law_1493 : decode cL_law 1493 = .ok (.iload 6, 2) := by decide +kernel
theorem dL_law_1495 : decode cL_law 1495 = .ok (.ifCond .ne 15, 3) := by decide +kernel
theorem dL_law_1498 : decode cL_law 1498 = .ok (.aload_n 3, 1) := by decide +kernel
theorem dL_law_1499 : decode cL_law 1499 = .ok (.iconst 0, 1) := by decide +kernel
theorem dL_law_1500 : decode cL_law 1500 = .ok (.laload, 1) := by decide +kernel
theorem dL_law_1501 : decode cL_law 1501 = .ok (.iload 7, 2) := by decide +kernel
theorem dL_law_1503 : decode cL_law 1503 = .ok (.i2l, 1) := by decide +kernel
theorem dL_law_1504 : decode cL_law 1504 = .ok (.lcmp, 1) := by decide +kernel
theorem dL_law_1505 : decode cL_law 1505 = .ok (.ifCond .eq 5, 3) := by decide +kernel
theorem dL_law_1508 : decode cL_law 1508 = .ok (.iconst 0, 1) := by decide +kernel
theorem dL_law_1509 : decode cL_law 1509 = .ok (.ireturn, 1) := by decide +kernel
theorem dL_law_1510 : decode cL_law 1510 = .ok (.goto 751, 3) := by decide +kernel
theorem dL_law_1513 : decode cL_law 1513 = .ok (.aload_n 1, 1) := by decide +kernel
theorem dL_law_1514 : decode cL_law 1514 = .ok (.aload_n 0, 1) := by decide +kernel
theorem dL_law_1515 : decode cL_law 1515 = .ok (.iload 5, 2) := by decide +kernel
theorem dL_law_1517 : decode cL_law 1517 = .ok (.iconst 1, 1) := by decide +kernel
theorem dL_law_1518 : decode cL_law 1518 = .ok (.iadd, 1) := by decide +kernel
theorem dL_law_1519 : decode cL_law 1519 = .ok (.iaload, 1) := by decide +kernel
theorem dL_law_1520 : decode cL_law 1520 = .ok (.aload_n 0, 1) := by decide +kernel
theorem dL_law_1521 : decode cL_law 1521 = .ok (.iload 5, 2) := by decide +kernel
theorem dL_law_1523 : decode cL_law 1523 = .ok (.iconst 2, 1) := by decide +kernel
theorem dL_law_1524 : decode cL_law 1524 = .ok (.iadd, 1) := by decide +kernel
theorem dL_law_1525 : decode cL_law 1525 = .ok (.iaload, 1) := by decide +kernel
theorem dL_law_1526 : decode cL_law 1526 = .ok (.aload_n 3, 1) := by decide +kernel
theorem dL_law_1527 : decode cL_law 1527 = .ok (.invokestatic 191, 3) := by decide +kernel
theorem dL_law_1530 : decode cL_law 1530 = .ok (.istore 6, 2) := by decide +kernel
theorem dL_law_1532 : decode cL_law 1532 = .ok (.aload_n 2, 1) := by decide +kernel
theorem dL_law_1533 : decode cL_law 1533 = .ok (.aload_n 0, 1) := by decide +kernel
theorem dL_law_1534 : decode cL_law 1534 = .ok (.iload 5, 2) := by decide +kernel
theorem dL_law_1536 : decode cL_law 1536 = .ok (.iconst 1, 1) := by decide +kernel
theorem dL_law_1537 : decode cL_law 1537 = .ok (.iadd, 1) := by decide +kernel
theorem dL_law_1538 : decode cL_law 1538 = .ok (.iaload, 1) := by decide +kernel
theorem dL_law_1539 : decode cL_law 1539 = .ok (.aload_n 0, 1) := by decide +kernel
theorem dL_law_1540 : decode cL_law 1540 = .ok (.iload 5, 2) := by decide +kernel
theorem dL_law_1542 : decode cL_law 1542 = .ok (.iconst 2, 1) := by decide +kernel
theorem dL_law_1543 : decode cL_law 1543 = .ok (.iadd, 1) := by decide +kernel
theorem dL_law_1544 : decode cL_law 1544 = .ok (.iaload, 1) := by decide +kernel
theorem dL_law_1545 : decode cL_law 1545 = .ok (.invokevirtual 193, 3) := by decide +kernel
theorem dL_law_1548 : decode cL_law 1548 = .ok (.istore 7, 2) := by decide +kernel
theorem dL_law_1550 : decode cL_law 1550 = .ok (.aload_n 2, 1) := by decide +kernel
theorem dL_law_1551 : decode cL_law 1551 = .ok (.invokevirtual 132, 3) := by decide +kernel
theorem dL_law_1554 : decode cL_law 1554 = .ok (.iload 6, 2) := by decide +kernel
theorem dL_law_1556 : decode cL_law 1556 = .ok (.if_icmp .eq 5, 3) := by decide +kernel
theorem dL_law_1559 : decode cL_law 1559 = .ok (.iconst 0, 1) := by decide +kernel
theorem dL_law_1560 : decode cL_law 1560 = .ok (.ireturn, 1) := by decide +kernel
theorem dL_law_1561 : decode cL_law 1561 = .ok (.iload 6, 2) := by decide +kernel
theorem dL_law_1563 : decode cL_law 1563 = .ok (.ifCond .ne 15, 3) := by decide +kernel
theorem dL_law_1566 : decode cL_law 1566 = .ok (.aload_n 3, 1) := by decide +kernel
theorem dL_law_1567 : decode cL_law 1567 = .ok (.iconst 0, 1) := by decide +kernel
theorem dL_law_1568 : decode cL_law 1568 = .ok (.laload, 1) := by decide +kernel
theorem dL_law_1569 : decode cL_law 1569 = .ok (.iload 7, 2) := by decide +kernel
theorem dL_law_1571 : decode cL_law 1571 = .ok (.i2l, 1) := by decide +kernel
theorem dL_law_1572 : decode cL_law 1572 = .ok (.lcmp, 1) := by decide +kernel
theorem dL_law_1573 : decode cL_law 1573 = .ok (.ifCond .eq 5, 3) := by decide +kernel
theorem dL_law_1576 : decode cL_law 1576 = .ok (.iconst 0, 1) := by decide +kernel
theorem dL_law_1577 : decode cL_law 1577 = .ok (.ireturn, 1) := by decide +kernel
theorem dL_law_1578 : decode cL_law 1578 = .ok (.goto 683, 3) := by decide +kernel
theorem dL_law_1581 : decode cL_law 1581 = .ok (.aload_n 1, 1) := by decide +kernel
theorem dL_law_1582 : decode cL_law 1582 = .ok (.aload_n 0, 1) := by decide +kernel
theorem dL_law_1583 : decode cL_law 1583 = .ok (.iload 5, 2) := by decide +kernel
theorem dL_law_1585 : decode cL_law 1585 = .ok (.iconst 1, 1) := by decide +kernel
theorem dL_law_1586 : decode cL_law 1586 = .ok (.iadd, 1) := by decide +kernel
theorem dL_law_1587 : decode cL_law 1587 = .ok (.iaload, 1) := by decide +kernel
theorem dL_law_1588 : decode cL_law 1588 = .ok (.aload_n 0, 1) := by decide +kernel
theorem dL_law_1589 : decode cL_law 1589 = .ok (.iload 5, 2) := by decide +kernel
theorem dL_law_1591 : decode cL_law 1591 = .ok (.iconst 2, 1) := by decide +kernel
theorem dL_law_1592 : decode cL_law 1592 = .ok (.iadd, 1) := by decide +kernel
theorem dL_law_1593 : decode cL_law 1593 = .ok (.iaload, 1) := by decide +kernel
theorem dL_law_1594 : decode cL_law 1594 = .ok (.aload_n 0, 1) := by decide +kernel
theorem dL_law_1595 : decode cL_law 1595 = .ok (.iload 5, 2) := by decide +kernel
theorem dL_law_1597 : decode cL_law 1597 = .ok (.iconst 3, 1) := by decide +kernel
theorem dL_law_1598 : decode cL_law 1598 = .ok (.iadd, 1) := by decide +kernel
theorem dL_law_1599 : decode cL_law 1599 = .ok (.iaload, 1) := by decide +kernel
theorem dL_law_1600 : decode cL_law 1600 = .ok (.aload_n 3, 1) := by decide +kernel
theorem dL_law_1601 : decode cL_law 1601 = .ok (.invokestatic 194, 3) := by decide +kernel
theorem dL_law_1604 : decode cL_law 1604 = .ok (.istore 6, 2) := by decide +kernel
theorem dL_law_1606 : decode cL_law 1606 = .ok (.aload_n 2, 1) := by decide +kernel
theorem dL_law_1607 : decode cL_law 1607 = .ok (.aload_n 0, 1) := by decide +kernel
theorem dL_law_1608 : decode cL_law 1608 = .ok (.iload 5, 2) := by decide +kernel
theorem dL_law_1610 : decode cL_law 1610 = .ok (.iconst 1, 1) := by decide +kernel
theorem dL_law_1611 : decode cL_law 1611 = .ok (.iadd, 1) := by decide +kernel
theorem dL_law_1612 : decode cL_law 1612 = .ok (.iaload, 1) := by decide +kernel
theorem dL_law_1613 : decode cL_law 1613 = .ok (.aload_n 0, 1) := by decide +kernel
theorem dL_law_1614 : decode cL_law 1614 = .ok (.iload 5, 2) := by decide +kernel
theorem dL_law_1616 : decode cL_law 1616 = .ok (.iconst 2, 1) := by decide +kernel
theorem dL_law_1617 : decode cL_law 1617 = .ok (.iadd, 1) := by decide +kernel
theorem dL_law_1618 : decode cL_law 1618 = .ok (.iaload, 1) := by decide +kernel
theorem dL_law_1619 : decode cL_law 1619 = .ok (.aload_n 0, 1) := by decide +kernel
theorem dL_law_1620 : decode cL_law 1620 = .ok (.iload 5, 2) := by decide +kernel
theorem dL_law_1622 : decode cL_law 1622 = .ok (.iconst 3, 1) := by decide +kernel
theorem dL_law_1623 : decode cL_law 1623 = .ok (.iadd, 1) := by decide +kernel
theorem dL_law_1624 : decode cL_law 1624 = .ok (.iaload, 1) := by decide +kernel
theorem dL_law_1625 : decode cL_law 1625 = .ok (.invokevirtual 196, 3) := by decide +kernel
theorem dL_law_1628 : decode cL_law 1628 = .ok (.istore 7, 2) := by decide +kernel
theorem dL_law_1630 : decode cL_law 1630 = .ok (.aload_n 2, 1) := by decide +kernel
theorem dL_law_1631 : decode cL_law 1631 = .ok (.invokevirtual 132, 3) := by decide +kernel
theorem dL_law_1634 : decode cL_law 1634 = .ok (.iload 6, 2) := by decide +kernel
theorem dL_law_1636 : decode cL_law 1636 = .ok (.if_icmp .eq 5, 3) := by decide +kernel
theorem dL_law_1639 : decode cL_law 1639 = .ok (.iconst 0, 1) := by decide +kernel
theorem dL_law_1640 : decode cL_law 1640 = .ok (.ireturn, 1) := by decide +kernel
theorem dL_law_1641 : decode cL_law 1641 = .ok (.iload 6, 2) := by decide +kernel
theorem dL_law_1643 : decode cL_law 1643 = .ok (.ifCond .ne 15, 3) := by decide +kernel
theorem dL_law_1646 : decode cL_law 1646 = .ok (.aload_n 3, 1) := by decide +kernel
theorem dL_law_1647 : decode cL_law 1647 = .ok (.iconst 0, 1) := by decide +kernel
theorem dL_law_1648 : decode cL_law 1648 = .ok (.laload, 1) := by decide +kernel
theorem dL_law_1649 : decode cL_law 1649 = .ok (.iload 7, 2) := by decide +kernel
theorem dL_law_1651 : decode cL_law 1651 = .ok (.i2l, 1) := by decide +kernel
theorem dL_law_1652 : decode cL_law 1652 = .ok (.lcmp, 1) := by decide +kernel
theorem dL_law_1653 : decode cL_law 1653 = .ok (.ifCond .eq 5, 3) := by decide +kernel
theorem dL_law_1656 : decode cL_law 1656 = .ok (.iconst 0, 1) := by decide +kernel
theorem dL_law_1657 : decode cL_law 1657 = .ok (.ireturn, 1) := by decide +kernel
theorem dL_law_1658 : decode cL_law 1658 = .ok (.goto 603, 3) := by decide +kernel
theorem dL_law_1661 : decode cL_law 1661 = .ok (.aload_n 1, 1) := by decide +kernel
theorem dL_law_1662 : decode cL_law 1662 = .ok (.aload_n 0, 1) := by decide +kernel
theorem dL_law_1663 : decode cL_law 1663 = .ok (.iload 5, 2) := by decide +kernel
theorem dL_law_1665 : decode cL_law 1665 = .ok (.iconst 1, 1) := by decide +kernel
theorem dL_law_1666 : decode cL_law 1666 = .ok (.iadd, 1) := by decide +kernel
theorem dL_law_1667 : decode cL_law 1667 = .ok (.iaload, 1) := by decide +kernel
theorem dL_law_1668 : decode cL_law 1668 = .ok (.aload_n 3, 1) := by decide +kernel
theorem dL_law_1669 : decode cL_law 1669 = .ok (.invokestatic 197, 3) := by decide +kernel
theorem dL_law_1672 : decode cL_law 1672 = .ok (.istore 6, 2) := by decide +kernel
theorem dL_law_1674 : decode cL_law 1674 = .ok (.aload_n 2, 1) := by decide +kernel
theorem dL_law_1675 : decode cL_law 1675 = .ok (.aload_n 0, 1) := by decide +kernel
theorem dL_law_1676 : decode cL_law 1676 = .ok (.iload 5, 2) := by decide +kernel
theorem dL_law_1678 : decode cL_law 1678 = .ok (.iconst 1, 1) := by decide +kernel
theorem dL_law_1679 : decode cL_law 1679 = .ok (.iadd, 1) := by decide +kernel
theorem dL_law_1680 : decode cL_law 1680 = .ok (.iaload, 1) := by decide +kernel
theorem dL_law_1681 : decode cL_law 1681 = .ok (.invokevirtual 199, 3) := by decide +kernel
theorem dL_law_1684 : decode cL_law 1684 = .ok (.istore 7, 2) := by decide +kernel
theorem dL_law_1686 : decode cL_law 1686 = .ok (.aload_n 2, 1) := by decide +kernel
theorem dL_law_1687 : decode cL_law 1687 = .ok (.invokevirtual 132, 3) := by decide +kernel
theorem dL_law_1690 : decode cL_law 1690 = .ok (.iload 6, 2) := by decide +kernel
theorem dL_law_1692 : decode cL_law 1692 = .ok (.if_icmp .eq 5, 3) := by decide +kernel
theorem dL_law_1695 : decode cL_law 1695 = .ok (.iconst 0, 1) := by decide +kernel
theorem dL_law_1696 : decode cL_law 1696 = .ok (.ireturn, 1) := by decide +kernel
theorem dL_law_1697 : decode cL_law 1697 = .ok (.iload 6, 2) := by decide +kernel
theorem dL_law_1699 : decode cL_law 1699 = .ok (.ifCond .ne 15, 3) := by decide +kernel
theorem dL_law_1702 : decode cL_law 1702 = .ok (.aload_n 3, 1) := by decide +kernel
theorem dL_law_1703 : decode cL_law 1703 = .ok (.iconst 0, 1) := by decide +kernel
theorem dL_law_1704 : decode cL_law 1704 = .ok (.laload, 1) := by decide +kernel
theorem dL_law_1705 : decode cL_law 1705 = .ok (.iload 7, 2) := by decide +kernel
theorem dL_law_1707 : decode cL_law 1707 = .ok (.i2l, 1) := by decide +kernel
theorem dL_law_1708 : decode cL_law 1708 = .ok (.lcmp, 1) := by decide +kernel
theorem dL_law_1709 : decode cL_law 1709 = .ok (.ifCond .eq 5, 3) := by decide +kernel
theorem dL_law_1712 : decode cL_law 1712 = .ok (.iconst 0, 1) := by decide +kernel
theorem dL_law_1713 : decode cL_law 1713 = .ok (.ireturn, 1) := by decide +kernel
theorem dL_law_1714 : decode cL_law 1714 = .ok (.goto 547, 3) := by decide +kernel
theorem dL_law_1717 : decode cL_law 1717 = .ok (.aload_n 1, 1) := by decide +kernel
theorem dL_law_1718 : decode cL_law 1718 = .ok (.aload_n 0, 1) := by decide +kernel
theorem dL_law_1719 : decode cL_law 1719 = .ok (.iload 5, 2) := by decide +kernel
theorem dL_law_1721 : decode cL_law 1721 = .ok (.iconst 1, 1) := by decide +kernel
theorem dL_law_1722 : decode cL_law 1722 = .ok (.iadd, 1) := by decide +kernel
theorem dL_law_1723 : decode cL_law 1723 = .ok (.iaload, 1) := by decide +kernel
theorem dL_law_1724 : decode cL_law 1724 = .ok (.aload_n 3, 1) := by decide +kernel
theorem dL_law_1725 : decode cL_law 1725 = .ok (.invokestatic 200, 3) := by decide +kernel
theorem dL_law_1728 : decode cL_law 1728 = .ok (.istore 6, 2) := by decide +kernel
theorem dL_law_1730 : decode cL_law 1730 = .ok (.aload_n 2, 1) := by decide +kernel
theorem dL_law_1731 : decode cL_law 1731 = .ok (.aload_n 0, 1) := by decide +kernel
theorem dL_law_1732 : decode cL_law 1732 = .ok (.iload 5, 2) := by decide +kernel
theorem dL_law_1734 : decode cL_law 1734 = .ok (.iconst 1, 1) := by decide +kernel
theorem dL_law_1735 : decode cL_law 1735 = .ok (.iadd, 1) := by decide +kernel
theorem dL_law_1736 : decode cL_law 1736 = .ok (.iaload, 1) := by decide +kernel
theorem dL_law_1737 : decode cL_law 1737 = .ok (.invokevirtual 202, 3) := by decide +kernel
theorem dL_law_1740 : decode cL_law 1740 = .ok (.istore 7, 2) := by decide +kernel
theorem dL_law_1742 : decode cL_law 1742 = .ok (.aload_n 2, 1) := by decide +kernel
theorem dL_law_1743 : decode cL_law 1743 = .ok (.invokevirtual 132, 3) := by decide +kernel
theorem dL_law_1746 : decode cL_law 1746 = .ok (.iload 6, 2) := by decide +kernel
theorem dL_law_1748 : decode cL_law 1748 = .ok (.if_icmp .eq 5, 3) := by decide +kernel
theorem dL_law_1751 : decode cL_law 1751 = .ok (.iconst 0, 1) := by decide +kernel
theorem dL_law_1752 : decode cL_law 1752 = .ok (.ireturn, 1) := by decide +kernel
theorem dL_law_1753 : decode cL_law 1753 = .ok (.iload 6, 2) := by decide +kernel
theorem dL_law_1755 : decode cL_law 1755 = .ok (.ifCond .ne 15, 3) := by decide +kernel
theorem dL_law_1758 : decode cL_law 1758 = .ok (.aload_n 3, 1) := by decide +kernel
theorem dL_law_1759 : decode cL_law 1759 = .ok (.iconst 0, 1) := by decide +kernel
theorem dL_law_1760 : decode cL_law 1760 = .ok (.laload, 1) := by decide +kernel
theorem dL_law_1761 : decode cL_law 1761 = .ok (.iload 7, 2) := by decide +kernel
theorem dL_law_1763 : decode cL_law 1763 = .ok (.i2l, 1) := by decide +kernel
theorem dL_law_1764 : decode cL_law 1764 = .ok (.lcmp, 1) := by decide +kernel
theorem dL_law_1765 : decode cL_law 1765 = .ok (.ifCond .eq 5, 3) := by decide +kernel
theorem dL_law_1768 : decode cL_law 1768 = .ok (.iconst 0, 1) := by decide +kernel
theorem dL_law_1769 : decode cL_law 1769 = .ok (.ireturn, 1) := by decide +kernel
theorem dL_law_1770 : decode cL_law 1770 = .ok (.goto 491, 3) := by decide +kernel
theorem dL_law_1773 : decode cL_law 1773 = .ok (.aload_n 1, 1) := by decide +kernel
theorem dL_law_1774 : decode cL_law 1774 = .ok (.aload_n 0, 1) := by decide +kernel
theorem dL_law_1775 : decode cL_law 1775 = .ok (.iload 5, 2) := by decide +kernel
theorem dL_law_1777 : decode cL_law 1777 = .ok (.iconst 1, 1) := by decide +kernel
theorem dL_law_1778 : decode cL_law 1778 = .ok (.iadd, 1) := by decide +kernel
theorem dL_law_1779 : decode cL_law 1779 = .ok (.iaload, 1) := by decide +kernel
theorem dL_law_1780 : decode cL_law 1780 = .ok (.i2c, 1) := by decide +kernel
theorem dL_law_1781 : decode cL_law 1781 = .ok (.aload_n 3, 1) := by decide +kernel
theorem dL_law_1782 : decode cL_law 1782 = .ok (.invokestatic 203, 3) := by decide +kernel
theorem dL_law_1785 : decode cL_law 1785 = .ok (.istore 6, 2) := by decide +kernel
theorem dL_law_1787 : decode cL_law 1787 = .ok (.aload_n 2, 1) := by decide +kernel
theorem dL_law_1788 : decode cL_law 1788 = .ok (.aload_n 0, 1) := by decide +kernel
theorem dL_law_1789 : decode cL_law 1789 = .ok (.iload 5, 2) := by decide +kernel
theorem dL_law_1791 : decode cL_law 1791 = .ok (.iconst 1, 1) := by decide +kernel
theorem dL_law_1792 : decode cL_law 1792 = .ok (.iadd, 1) := by decide +kernel
theorem dL_law_1793 : decode cL_law 1793 = .ok (.iaload, 1) := by decide +kernel
theorem dL_law_1794 : decode cL_law 1794 = .ok (.i2c, 1) := by decide +kernel
theorem dL_law_1795 : decode cL_law 1795 = .ok (.invokevirtual 206, 3) := by decide +kernel
theorem dL_law_1798 : decode cL_law 1798 = .ok (.istore 7, 2) := by decide +kernel
theorem dL_law_1800 : decode cL_law 1800 = .ok (.aload_n 2, 1) := by decide +kernel
theorem dL_law_1801 : decode cL_law 1801 = .ok (.invokevirtual 132, 3) := by decide +kernel
theorem dL_law_1804 : decode cL_law 1804 = .ok (.iload 6, 2) := by decide +kernel
theorem dL_law_1806 : decode cL_law 1806 = .ok (.if_icmp .eq 5, 3) := by decide +kernel
theorem dL_law_1809 : decode cL_law 1809 = .ok (.iconst 0, 1) := by decide +kernel
theorem dL_law_1810 : decode cL_law 1810 = .ok (.ireturn, 1) := by decide +kernel
theorem dL_law_1811 : decode cL_law 1811 = .ok (.iload 6, 2) := by decide +kernel
theorem dL_law_1813 : decode cL_law 1813 = .ok (.ifCond .ne 15, 3) := by decide +kernel
theorem dL_law_1816 : decode cL_law 1816 = .ok (.aload_n 3, 1) := by decide +kernel
theorem dL_law_1817 : decode cL_law 1817 = .ok (.iconst 0, 1) := by decide +kernel
theorem dL_law_1818 : decode cL_law 1818 = .ok (.laload, 1) := by decide +kernel
theorem dL_law_1819 : decode cL_law 1819 = .ok (.iload 7, 2) := by decide +kernel
theorem dL_law_1821 : decode cL_law 1821 = .ok (.i2l, 1) := by decide +kernel
theorem dL_law_1822 : decode cL_law 1822 = .ok (.lcmp, 1) := by decide +kernel
theorem dL_law_1823 : decode cL_law 1823 = .ok (.ifCond .eq 5, 3) := by decide +kernel
theorem dL_law_1826 : decode cL_law 1826 = .ok (.iconst 0, 1) := by decide +kernel
theorem dL_law_1827 : decode cL_law 1827 = .ok (.ireturn, 1) := by decide +kernel
theorem dL_law_1828 : decode cL_law 1828 = .ok (.goto 433, 3) := by decide +kernel
theorem dL_law_1831 : decode cL_law 1831 = .ok (.aload_n 1, 1) := by decide +kernel
theorem dL_law_1832 : decode cL_law 1832 = .ok (.aload_n 3, 1) := by decide +kernel
theorem dL_law_1833 : decode cL_law 1833 = .ok (.invokestatic 207, 3) := by decide +kernel
theorem dL_law_1836 : decode cL_law 1836 = .ok (.istore 6, 2) := by decide +kernel
theorem dL_law_1838 : decode cL_law 1838 = .ok (.aload_n 2, 1) := by decide +kernel
theorem dL_law_1839 : decode cL_law 1839 = .ok (.invokevirtual 210, 3) := by decide +kernel
theorem dL_law_1842 : decode cL_law 1842 = .ok (.istore 7, 2) := by decide +kernel
theorem dL_law_1844 : decode cL_law 1844 = .ok (.aload_n 2, 1) := by decide +kernel
theorem dL_law_1845 : decode cL_law 1845 = .ok (.invokevirtual 132, 3) := by decide +kernel
theorem dL_law_1848 : decode cL_law 1848 = .ok (.iload 6, 2) := by decide +kernel
theorem dL_law_1850 : decode cL_law 1850 = .ok (.if_icmp .eq 5, 3) := by decide +kernel
theorem dL_law_1853 : decode cL_law 1853 = .ok (.iconst 0, 1) := by decide +kernel
theorem dL_law_1854 : decode cL_law 1854 = .ok (.ireturn, 1) := by decide +kernel
theorem dL_law_1855 : decode cL_law 1855 = .ok (.iload 6, 2) := by decide +kernel
theorem dL_law_1857 : decode cL_law 1857 = .ok (.ifCond .ne 15, 3) := by decide +kernel
theorem dL_law_1860 : decode cL_law 1860 = .ok (.aload_n 3, 1) := by decide +kernel
theorem dL_law_1861 : decode cL_law 1861 = .ok (.iconst 0, 1) := by decide +kernel
theorem dL_law_1862 : decode cL_law 1862 = .ok (.laload, 1) := by decide +kernel
theorem dL_law_1863 : decode cL_law 1863 = .ok (.iload 7, 2) := by decide +kernel
theorem dL_law_1865 : decode cL_law 1865 = .ok (.i2l, 1) := by decide +kernel
theorem dL_law_1866 : decode cL_law 1866 = .ok (.lcmp, 1) := by decide +kernel
theorem dL_law_1867 : decode cL_law 1867 = .ok (.ifCond .eq 5, 3) := by decide +kernel
theorem dL_law_1870 : decode cL_law 1870 = .ok (.iconst 0, 1) := by decide +kernel
theorem dL_law_1871 : decode cL_law 1871 = .ok (.ireturn, 1) := by decide +kernel
theorem dL_law_1872 : decode cL_law 1872 = .ok (.goto 389, 3) := by decide +kernel
theorem dL_law_1875 : decode cL_law 1875 = .ok (.aload_n 1, 1) := by decide +kernel
theorem dL_law_1876 : decode cL_law 1876 = .ok (.invokevirtual 211, 3) := by decide +kernel
theorem dL_law_1879 : decode cL_law 1879 = .ok (.aload_n 2, 1) := by decide +kernel
theorem dL_law_1880 : decode cL_law 1880 = .ok (.invokevirtual 214, 3) := by decide +kernel
theorem dL_law_1883 : decode cL_law 1883 = .ok (.if_icmp .eq 378, 3) := by decide +kernel
theorem dL_law_1886 : decode cL_law 1886 = .ok (.iconst 0, 1) := by decide +kernel
theorem dL_law_1887 : decode cL_law 1887 = .ok (.ireturn, 1) := by decide +kernel
theorem dL_law_1888 : decode cL_law 1888 = .ok (.aload_n 1, 1) := by decide +kernel
theorem dL_law_1889 : decode cL_law 1889 = .ok (.aload_n 0, 1) := by decide +kernel
theorem dL_law_1890 : decode cL_law 1890 = .ok (.iload 5, 2) := by decide +kernel
theorem dL_law_1892 : decode cL_law 1892 = .ok (.iconst 1, 1) := by decide +kernel
theorem dL_law_1893 : decode cL_law 1893 = .ok (.iadd, 1) := by decide +kernel
theorem dL_law_1894 : decode cL_law 1894 = .ok (.iaload, 1) := by decide +kernel
theorem dL_law_1895 : decode cL_law 1895 = .ok (.ifCond .eq 7, 3) := by decide +kernel
theorem dL_law_1898 : decode cL_law 1898 = .ok (.iconst 1, 1) := by decide +kernel
theorem dL_law_1899 : decode cL_law 1899 = .ok (.goto 4, 3) := by decide +kernel
theorem dL_law_1902 : decode cL_law 1902 = .ok (.iconst 0, 1) := by decide +kernel
theorem dL_law_1903 : decode cL_law 1903 = .ok (.aload_n 3, 1) := by decide +kernel
theorem dL_law_1904 : decode cL_law 1904 = .ok (.invokestatic 215, 3) := by decide +kernel
theorem dL_law_1907 : decode cL_law 1907 = .ok (.istore 6, 2) := by decide +kernel
theorem dL_law_1909 : decode cL_law 1909 = .ok (.aload_n 2, 1) := by decide +kernel
theorem dL_law_1910 : decode cL_law 1910 = .ok (.aload_n 0, 1) := by decide +kernel
theorem dL_law_1911 : decode cL_law 1911 = .ok (.iload 5, 2) := by decide +kernel
theorem dL_law_1913 : decode cL_law 1913 = .ok (.iconst 1, 1) := by decide +kernel
theorem dL_law_1914 : decode cL_law 1914 = .ok (.iadd, 1) := by decide +kernel
theorem dL_law_1915 : decode cL_law 1915 = .ok (.iaload, 1) := by decide +kernel
theorem dL_law_1916 : decode cL_law 1916 = .ok (.ifCond .eq 7, 3) := by decide +kernel
theorem dL_law_1919 : decode cL_law 1919 = .ok (.iconst 1, 1) := by decide +kernel
theorem dL_law_1920 : decode cL_law 1920 = .ok (.goto 4, 3) := by decide +kernel
theorem dL_law_1923 : decode cL_law 1923 = .ok (.iconst 0, 1) := by decide +kernel
theorem dL_law_1924 : decode cL_law 1924 = .ok (.invokevirtual 218, 3) := by decide +kernel
theorem dL_law_1927 : decode cL_law 1927 = .ok (.istore 7, 2) := by decide +kernel
theorem dL_law_1929 : decode cL_law 1929 = .ok (.aload_n 2, 1) := by decide +kernel
theorem dL_law_1930 : decode cL_law 1930 = .ok (.invokevirtual 132, 3) := by decide +kernel
theorem dL_law_1933 : decode cL_law 1933 = .ok (.iload 6, 2) := by decide +kernel
theorem dL_law_1935 : decode cL_law 1935 = .ok (.if_icmp .eq 5, 3) := by decide +kernel
theorem dL_law_1938 : decode cL_law 1938 = .ok (.iconst 0, 1) := by decide +kernel
theorem dL_law_1939 : decode cL_law 1939 = .ok (.ireturn, 1) := by decide +kernel
theorem dL_law_1940 : decode cL_law 1940 = .ok (.iload 6, 2) := by decide +kernel
theorem dL_law_1942 : decode cL_law 1942 = .ok (.ifCond .ne 15, 3) := by decide +kernel
theorem dL_law_1945 : decode cL_law 1945 = .ok (.aload_n 3, 1) := by decide +kernel
theorem dL_law_1946 : decode cL_law 1946 = .ok (.iconst 0, 1) := by decide +kernel
theorem dL_law_1947 : decode cL_law 1947 = .ok (.laload, 1) := by decide +kernel
theorem dL_law_1948 : decode cL_law 1948 = .ok (.iload 7, 2) := by decide +kernel
theorem dL_law_1950 : decode cL_law 1950 = .ok (.i2l, 1) := by decide +kernel
theorem dL_law_1951 : decode cL_law 1951 = .ok (.lcmp, 1) := by decide +kernel
theorem dL_law_1952 : decode cL_law 1952 = .ok (.ifCond .eq 5, 3) := by decide +kernel
theorem dL_law_1955 : decode cL_law 1955 = .ok (.iconst 0, 1) := by decide +kernel
theorem dL_law_1956 : decode cL_law 1956 = .ok (.ireturn, 1) := by decide +kernel
theorem dL_law_1957 : decode cL_law 1957 = .ok (.goto 304, 3) := by decide +kernel
theorem dL_law_1960 : decode cL_law 1960 = .ok (.aload_n 1, 1) := by decide +kernel
theorem dL_law_1961 : decode cL_law 1961 = .ok (.aload_n 0, 1) := by decide +kernel
theorem dL_law_1962 : decode cL_law 1962 = .ok (.iload 5, 2) := by decide +kernel
theorem dL_law_1964 : decode cL_law 1964 = .ok (.iconst 1, 1) := by decide +kernel
theorem dL_law_1965 : decode cL_law 1965 = .ok (.iadd, 1) := by decide +kernel
theorem dL_law_1966 : decode cL_law 1966 = .ok (.iaload, 1) := by decide +kernel
theorem dL_law_1967 : decode cL_law 1967 = .ok (.aload_n 3, 1) := by decide +kernel
theorem dL_law_1968 : decode cL_law 1968 = .ok (.invokestatic 219, 3) := by decide +kernel
theorem dL_law_1971 : decode cL_law 1971 = .ok (.istore 6, 2) := by decide +kernel
theorem dL_law_1973 : decode cL_law 1973 = .ok (.aload_n 2, 1) := by decide +kernel
theorem dL_law_1974 : decode cL_law 1974 = .ok (.aload_n 0, 1) := by decide +kernel
theorem dL_law_1975 : decode cL_law 1975 = .ok (.iload 5, 2) := by decide +kernel
theorem dL_law_1977 : decode cL_law 1977 = .ok (.iconst 1, 1) := by decide +kernel
theorem dL_law_1978 : decode cL_law 1978 = .ok (.iadd, 1) := by decide +kernel
theorem dL_law_1979 : decode cL_law 1979 = .ok (.iaload, 1) := by decide +kernel
theorem dL_law_1980 : decode cL_law 1980 = .ok (.invokevirtual 221, 3) := by decide +kernel
theorem dL_law_1983 : decode cL_law 1983 = .ok (.istore 7, 2) := by decide +kernel
theorem dL_law_1985 : decode cL_law 1985 = .ok (.aload_n 2, 1) := by decide +kernel
theorem dL_law_1986 : decode cL_law 1986 = .ok (.invokevirtual 132, 3) := by decide +kernel
theorem dL_law_1989 : decode cL_law 1989 = .ok (.iload 6, 2) := by decide +kernel
theorem dL_law_1991 : decode cL_law 1991 = .ok (.if_icmp .eq 5, 3) := by decide +kernel
theorem dL_law_1994 : decode cL_law 1994 = .ok (.iconst 0, 1) := by decide +kernel
theorem dL_law_1995 : decode cL_law 1995 = .ok (.ireturn, 1) := by decide +kernel
theorem dL_law_1996 : decode cL_law 1996 = .ok (.iload 6, 2) := by decide +kernel
theorem dL_law_1998 : decode cL_law 1998 = .ok (.ifCond .ne 15, 3) := by decide +kernel
theorem dL_law_2001 : decode cL_law 2001 = .ok (.aload_n 3, 1) := by decide +kernel
theorem dL_law_2002 : decode cL_law 2002 = .ok (.iconst 0, 1) := by decide +kernel
theorem dL_law_2003 : decode cL_law 2003 = .ok (.laload, 1) := by decide +kernel
theorem dL_law_2004 : decode cL_law 2004 = .ok (.iload 7, 2) := by decide +kernel
theorem dL_law_2006 : decode cL_law 2006 = .ok (.i2l, 1) := by decide +kernel
theorem dL_law_2007 : decode cL_law 2007 = .ok (.lcmp, 1) := by decide +kernel
theorem dL_law_2008 : decode cL_law 2008 = .ok (.ifCond .eq 5, 3) := by decide +kernel
theorem dL_law_2011 : decode cL_law 2011 = .ok (.iconst 0, 1) := by decide +kernel
theorem dL_law_2012 : decode cL_law 2012 = .ok (.ireturn, 1) := by decide +kernel
theorem dL_law_2013 : decode cL_law 2013 = .ok (.goto 248, 3) := by decide +kernel
theorem dL_law_2016 : decode cL_law 2016 = .ok (.aload_n 1, 1) := by decide +kernel
theorem dL_law_2017 : decode cL_law 2017 = .ok (.invokevirtual 222, 3) := by decide +kernel
theorem dL_law_2020 : decode cL_law 2020 = .ok (.aload_n 2, 1) := by decide +kernel
theorem dL_law_2021 : decode cL_law 2021 = .ok (.invokevirtual 226, 3) := by decide +kernel
theorem dL_law_2024 : decode cL_law 2024 = .ok (.if_icmp .eq 237, 3) := by decide +kernel
theorem dL_law_2027 : decode cL_law 2027 = .ok (.iconst 0, 1) := by decide +kernel
theorem dL_law_2028 : decode cL_law 2028 = .ok (.ireturn, 1) := by decide +kernel
theorem dL_law_2029 : decode cL_law 2029 = .ok (.aload_n 1, 1) := by decide +kernel
theorem dL_law_2030 : decode cL_law 2030 = .ok (.aload 4, 2) := by decide +kernel
theorem dL_law_2032 : decode cL_law 2032 = .ok (.invokestatic 227, 3) := by decide +kernel
theorem dL_law_2035 : decode cL_law 2035 = .ok (.istore 6, 2) := by decide +kernel
theorem dL_law_2037 : decode cL_law 2037 = .ok (.aload_n 2, 1) := by decide +kernel
theorem dL_law_2038 : decode cL_law 2038 = .ok (.invokevirtual 230, 3) := by decide +kernel
theorem dL_law_2041 : decode cL_law 2041 = .ok (.dstore 7, 2) := by decide +kernel
theorem dL_law_2043 : decode cL_law 2043 = .ok (.aload_n 2, 1) := by decide +kernel
theorem dL_law_2044 : decode cL_law 2044 = .ok (.invokevirtual 132, 3) := by decide +kernel
theorem dL_law_2047 : decode cL_law 2047 = .ok (.iload 6, 2) := by decide +kernel
theorem dL_law_2049 : decode cL_law 2049 = .ok (.if_icmp .eq 5, 3) := by decide +kernel
theorem dL_law_2052 : decode cL_law 2052 = .ok (.iconst 0, 1) := by decide +kernel
theorem dL_law_2053 : decode cL_law 2053 = .ok (.ireturn, 1) := by decide +kernel
theorem dL_law_2054 : decode cL_law 2054 = .ok (.iload 6, 2) := by decide +kernel
theorem dL_law_2056 : decode cL_law 2056 = .ok (.ifCond .ne 35, 3) := by decide +kernel
theorem dL_law_2059 : decode cL_law 2059 = .ok (.aload 4, 2) := by decide +kernel
theorem dL_law_2061 : decode cL_law 2061 = .ok (.iconst 0, 1) := by decide +kernel
theorem dL_law_2062 : decode cL_law 2062 = .ok (.daload, 1) := by decide +kernel
theorem dL_law_2063 : decode cL_law 2063 = .ok (.dload 7, 2) := by decide +kernel
theorem dL_law_2065 : decode cL_law 2065 = .ok (.dcmp .l, 1) := by decide +kernel
theorem dL_law_2066 : decode cL_law 2066 = .ok (.ifCond .eq 25, 3) := by decide +kernel
theorem dL_law_2069 : decode cL_law 2069 = .ok (.aload 4, 2) := by decide +kernel
theorem dL_law_2071 : decode cL_law 2071 = .ok (.iconst 0, 1) := by decide +kernel
theorem dL_law_2072 : decode cL_law 2072 = .ok (.daload, 1) := by decide +kernel
theorem dL_law_2073 : decode cL_law 2073 = .ok (.aload 4, 2) := by decide +kernel
theorem dL_law_2075 : decode cL_law 2075 = .ok (.iconst 0, 1) := by decide +kernel
theorem dL_law_2076 : decode cL_law 2076 = .ok (.daload, 1) := by decide +kernel
theorem dL_law_2077 : decode cL_law 2077 = .ok (.dcmp .l, 1) := by decide +kernel
theorem dL_law_2078 : decode cL_law 2078 = .ok (.ifCond .eq 11, 3) := by decide +kernel
theorem dL_law_2081 : decode cL_law 2081 = .ok (.dload 7, 2) := by decide +kernel
theorem dL_law_2083 : decode cL_law 2083 = .ok (.dload 7, 2) := by decide +kernel
theorem dL_law_2085 : decode cL_law 2085 = .ok (.dcmp .l, 1) := by decide +kernel
theorem dL_law_2086 : decode cL_law 2086 = .ok (.ifCond .ne 5, 3) := by decide +kernel
theorem dL_law_2089 : decode cL_law 2089 = .ok (.iconst 0, 1) := by decide +kernel
theorem dL_law_2090 : decode cL_law 2090 = .ok (.ireturn, 1) := by decide +kernel
theorem dL_law_2091 : decode cL_law 2091 = .ok (.goto 170, 3) := by decide +kernel
theorem dL_law_2094 : decode cL_law 2094 = .ok (.aload_n 1, 1) := by decide +kernel
theorem dL_law_2095 : decode cL_law 2095 = .ok (.aload 4, 2) := by decide +kernel
theorem dL_law_2097 : decode cL_law 2097 = .ok (.invokestatic 231, 3) := by decide +kernel
theorem dL_law_2100 : decode cL_law 2100 = .ok (.istore 6, 2) := by decide +kernel
theorem dL_law_2102 : decode cL_law 2102 = .ok (.aload_n 2, 1) := by decide +kernel
theorem dL_law_2103 : decode cL_law 2103 = .ok (.invokevirtual 233, 3) := by decide +kernel
theorem dL_law_2106 : decode cL_law 2106 = .ok (.fstore 7, 2) := by decide +kernel
theorem dL_law_2108 : decode cL_law 2108 = .ok (.aload_n 2, 1) := by decide +kernel
theorem dL_law_2109 : decode cL_law 2109 = .ok (.invokevirtual 132, 3) := by decide +kernel
theorem dL_law_2112 : decode cL_law 2112 = .ok (.iload 6, 2) := by decide +kernel
theorem dL_law_2114 : decode cL_law 2114 = .ok (.if_icmp .eq 5, 3) := by decide +kernel
theorem dL_law_2117 : decode cL_law 2117 = .ok (.iconst 0, 1) := by decide +kernel
theorem dL_law_2118 : decode cL_law 2118 = .ok (.ireturn, 1) := by decide +kernel
theorem dL_law_2119 : decode cL_law 2119 = .ok (.iload 6, 2) := by decide +kernel
theorem dL_law_2121 : decode cL_law 2121 = .ok (.ifCond .ne 36, 3) := by decide +kernel
theorem dL_law_2124 : decode cL_law 2124 = .ok (.aload 4, 2) := by decide +kernel
theorem dL_law_2126 : decode cL_law 2126 = .ok (.iconst 0, 1) := by decide +kernel
theorem dL_law_2127 : decode cL_law 2127 = .ok (.daload, 1) := by decide +kernel
theorem dL_law_2128 : decode cL_law 2128 = .ok (.fload 7, 2) := by decide +kernel
theorem dL_law_2130 : decode cL_law 2130 = .ok (.f2d, 1) := by decide +kernel
theorem dL_law_2131 : decode cL_law 2131 = .ok (.dcmp .l, 1) := by decide +kernel
theorem dL_law_2132 : decode cL_law 2132 = .ok (.ifCond .eq 25, 3) := by decide +kernel
theorem dL_law_2135 : decode cL_law 2135 = .ok (.aload 4, 2) := by decide +kernel
theorem dL_law_2137 : decode cL_law 2137 = .ok (.iconst 0, 1) := by decide +kernel
theorem dL_law_2138 : decode cL_law 2138 = .ok (.daload, 1) := by decide +kernel
theorem dL_law_2139 : decode cL_law 2139 = .ok (.aload 4, 2) := by decide +kernel
theorem dL_law_2141 : decode cL_law 2141 = .ok (.iconst 0, 1) := by decide +kernel
theorem dL_law_2142 : decode cL_law 2142 = .ok (.daload, 1) := by decide +kernel
theorem dL_law_2143 : decode cL_law 2143 = .ok (.dcmp .l, 1) := by decide +kernel
theorem dL_law_2144 : decode cL_law 2144 = .ok (.ifCond .eq 11, 3) := by decide +kernel
theorem dL_law_2147 : decode cL_law 2147 = .ok (.fload 7, 2) := by decide +kernel
theorem dL_law_2149 : decode cL_law 2149 = .ok (.fload 7, 2) := by decide +kernel
theorem dL_law_2151 : decode cL_law 2151 = .ok (.fcmp .l, 1) := by decide +kernel
theorem dL_law_2152 : decode cL_law 2152 = .ok (.ifCond .ne 5, 3) := by decide +kernel
theorem dL_law_2155 : decode cL_law 2155 = .ok (.iconst 0, 1) := by decide +kernel
theorem dL_law_2156 : decode cL_law 2156 = .ok (.ireturn, 1) := by decide +kernel
theorem dL_law_2157 : decode cL_law 2157 = .ok (.goto 104, 3) := by decide +kernel
theorem dL_law_2160 : decode cL_law 2160 = .ok (.aload_n 1, 1) := by decide +kernel
theorem dL_law_2161 : decode cL_law 2161 = .ok (.aload_n 3, 1) := by decide +kernel
theorem dL_law_2162 : decode cL_law 2162 = .ok (.invokestatic 234, 3) := by decide +kernel
theorem dL_law_2165 : decode cL_law 2165 = .ok (.istore 6, 2) := by decide +kernel
theorem dL_law_2167 : decode cL_law 2167 = .ok (.aload_n 2, 1) := by decide +kernel
theorem dL_law_2168 : decode cL_law 2168 = .ok (.invokevirtual 236, 3) := by decide +kernel
theorem dL_law_2171 : decode cL_law 2171 = .ok (.istore 7, 2) := by decide +kernel
theorem dL_law_2173 : decode cL_law 2173 = .ok (.aload_n 2, 1) := by decide +kernel
theorem dL_law_2174 : decode cL_law 2174 = .ok (.invokevirtual 132, 3) := by decide +kernel
theorem dL_law_2177 : decode cL_law 2177 = .ok (.iload 6, 2) := by decide +kernel
theorem dL_law_2179 : decode cL_law 2179 = .ok (.if_icmp .eq 5, 3) := by decide +kernel
theorem dL_law_2182 : decode cL_law 2182 = .ok (.iconst 0, 1) := by decide +kernel
theorem dL_law_2183 : decode cL_law 2183 = .ok (.ireturn, 1) := by decide +kernel
theorem dL_law_2184 : decode cL_law 2184 = .ok (.iload 6, 2) := by decide +kernel
theorem dL_law_2186 : decode cL_law 2186 = .ok (.ifCond .ne 15, 3) := by decide +kernel
theorem dL_law_2189 : decode cL_law 2189 = .ok (.aload_n 3, 1) := by decide +kernel
theorem dL_law_2190 : decode cL_law 2190 = .ok (.iconst 0, 1) := by decide +kernel
theorem dL_law_2191 : decode cL_law 2191 = .ok (.laload, 1) := by decide +kernel
theorem dL_law_2192 : decode cL_law 2192 = .ok (.iload 7, 2) := by decide +kernel
theorem dL_law_2194 : decode cL_law 2194 = .ok (.i2l, 1) := by decide +kernel
theorem dL_law_2195 : decode cL_law 2195 = .ok (.lcmp, 1) := by decide +kernel
theorem dL_law_2196 : decode cL_law 2196 = .ok (.ifCond .eq 5, 3) := by decide +kernel
theorem dL_law_2199 : decode cL_law 2199 = .ok (.iconst 0, 1) := by decide +kernel
theorem dL_law_2200 : decode cL_law 2200 = .ok (.ireturn, 1) := by decide +kernel
theorem dL_law_2201 : decode cL_law 2201 = .ok (.goto 60, 3) := by decide +kernel
theorem dL_law_2204 : decode cL_law 2204 = .ok (.aload_n 1, 1) := by decide +kernel
theorem dL_law_2205 : decode cL_law 2205 = .ok (.invokevirtual 237, 3) := by decide +kernel
theorem dL_law_2208 : decode cL_law 2208 = .ok (.aload_n 2, 1) := by decide +kernel
theorem dL_law_2209 : decode cL_law 2209 = .ok (.invokevirtual 240, 3) := by decide +kernel
theorem dL_law_2212 : decode cL_law 2212 = .ok (.if_icmp .eq 49, 3) := by decide +kernel
theorem dL_law_2215 : decode cL_law 2215 = .ok (.iconst 0, 1) := by decide +kernel
theorem dL_law_2216 : decode cL_law 2216 = .ok (.ireturn, 1) := by decide +kernel
theorem dL_law_2217 : decode cL_law 2217 = .ok (.aload_n 1, 1) := by decide +kernel
theorem dL_law_2218 : decode cL_law 2218 = .ok (.aload_n 3, 1) := by decide +kernel
theorem dL_law_2219 : decode cL_law 2219 = .ok (.invokestatic 241, 3) := by decide +kernel
theorem dL_law_2222 : decode cL_law 2222 = .ok (.istore 6, 2) := by decide +kernel
theorem dL_law_2224 : decode cL_law 2224 = .ok (.aload_n 2, 1) := by decide +kernel
theorem dL_law_2225 : decode cL_law 2225 = .ok (.invokevirtual 243, 3) := by decide +kernel
theorem dL_law_2228 : decode cL_law 2228 = .ok (.istore 7, 2) := by decide +kernel
theorem dL_law_2230 : decode cL_law 2230 = .ok (.aload_n 2, 1) := by decide +kernel
theorem dL_law_2231 : decode cL_law 2231 = .ok (.invokevirtual 132, 3) := by decide +kernel
theorem dL_law_2234 : decode cL_law 2234 = .ok (.iload 6, 2) := by decide +kernel
theorem dL_law_2236 : decode cL_law 2236 = .ok (.if_icmp .eq 5, 3) := by decide +kernel
theorem dL_law_2239 : decode cL_law 2239 = .ok (.iconst 0, 1) := by decide +kernel
theorem dL_law_2240 : decode cL_law 2240 = .ok (.ireturn, 1) := by decide +kernel
theorem dL_law_2241 : decode cL_law 2241 = .ok (.iload 6, 2) := by decide +kernel
theorem dL_law_2243 : decode cL_law 2243 = .ok (.ifCond .ne 15, 3) := by decide +kernel
theorem dL_law_2246 : decode cL_law 2246 = .ok (.aload_n 3, 1) := by decide +kernel
theorem dL_law_2247 : decode cL_law 2247 = .ok (.iconst 0, 1) := by decide +kernel
theorem dL_law_2248 : decode cL_law 2248 = .ok (.laload, 1) := by decide +kernel
theorem dL_law_2249 : decode cL_law 2249 = .ok (.iload 7, 2) := by decide +kernel
theorem dL_law_2251 : decode cL_law 2251 = .ok (.i2l, 1) := by decide +kernel
theorem dL_law_2252 : decode cL_law 2252 = .ok (.lcmp, 1) := by decide +kernel
theorem dL_law_2253 : decode cL_law 2253 = .ok (.ifCond .eq 5, 3) := by decide +kernel
theorem dL_law_2256 : decode cL_law 2256 = .ok (.iconst 0, 1) := by decide +kernel
theorem dL_law_2257 : decode cL_law 2257 = .ok (.ireturn, 1) := by decide +kernel
theorem dL_law_2258 : decode cL_law 2258 = .ok (.goto 3, 3) := by decide +kernel
theorem dL_law_2261 : decode cL_law 2261 = .ok (.iinc 5 5, 3) := by decide +kernel
theorem dL_law_2264 : decode cL_law 2264 = .ok (.goto (-2236), 3) := by decide +kernel
theorem dL_law_2267 : decode cL_law 2267 = .ok (.iconst 1, 1) := by decide +kernel
theorem dL_law_2268 : decode cL_law 2268 = .ok (.ireturn, 1) := by decide +kernel
