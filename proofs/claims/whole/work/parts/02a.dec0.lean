theorem dX0_init_0 : decode cX0_init 0 = .ok (.aload_n 0, 1) := by decide +kernel
theorem dX0_init_1 : decode cX0_init 1 = .ok (.invokespecial 1, 3) := by decide +kernel
theorem dX0_init_4 : decode cX0_init 4 = .ok (.aload_n 0, 1) := by decide +kernel
theorem dX0_init_5 : decode cX0_init 5 = .ok (.iload_n 1, 1) := by decide +kernel
theorem dX0_init_6 : decode cX0_init 6 = .ok (.putfield 7, 3) := by decide +kernel
theorem dX0_init_9 : decode cX0_init 9 = .ok (.aload_n 0, 1) := by decide +kernel
theorem dX0_init_10 : decode cX0_init 10 = .ok (.iload_n 2, 1) := by decide +kernel
theorem dX0_init_11 : decode cX0_init 11 = .ok (.putfield 13, 3) := by decide +kernel
theorem dX0_init_14 : decode cX0_init 14 = .ok (.return_, 1) := by decide +kernel
theorem dX0_happened_0 : decode cX0_happened 0 = .ok (.aload_n 0, 1) := by decide +kernel
theorem dX0_happened_1 : decode cX0_happened 1 = .ok (.ifnull 29, 3) := by decide +kernel
theorem dX0_happened_4 : decode cX0_happened 4 = .ok (.aload_n 0, 1) := by decide +kernel
theorem dX0_happened_5 : decode cX0_happened 5 = .ok (.getfield 7, 3) := by decide +kernel
theorem dX0_happened_8 : decode cX0_happened 8 = .ok (.aload_n 1, 1) := by decide +kernel
theorem dX0_happened_9 : decode cX0_happened 9 = .ok (.getfield 16, 3) := by decide +kernel
theorem dX0_happened_12 : decode cX0_happened 12 = .ok (.if_icmp .gt 18, 3) := by decide +kernel
theorem dX0_happened_15 : decode cX0_happened 15 = .ok (.aload_n 0, 1) := by decide +kernel
theorem dX0_happened_16 : decode cX0_happened 16 = .ok (.getfield 13, 3) := by decide +kernel
theorem dX0_happened_19 : decode cX0_happened 19 = .ok (.aload_n 1, 1) := by decide +kernel
theorem dX0_happened_20 : decode cX0_happened 20 = .ok (.getfield 21, 3) := by decide +kernel
theorem dX0_happened_23 : decode cX0_happened 23 = .ok (.if_icmp .gt 7, 3) := by decide +kernel
theorem dX0_happened_26 : decode cX0_happened 26 = .ok (.iconst 1, 1) := by decide +kernel
theorem dX0_happened_27 : decode cX0_happened 27 = .ok (.goto 4, 3) := by decide +kernel
theorem dX0_happened_30 : decode cX0_happened 30 = .ok (.iconst 0, 1) := by decide +kernel
theorem dX0_happened_31 : decode cX0_happened 31 = .ok (.ireturn, 1) := by decide +kernel
theorem dX1_init_0 : decode cX1_init 0 = .ok (.aload_n 0, 1) := by decide +kernel
theorem dX1_init_1 : decode cX1_init 1 = .ok (.invokespecial 3, 3) := by decide +kernel
theorem dX1_init_4 : decode cX1_init 4 = .ok (.aload_n 0, 1) := by decide +kernel
theorem dX1_init_5 : decode cX1_init 5 = .ok (.bipush 101, 2) := by decide +kernel
theorem dX1_init_7 : decode cX1_init 7 = .ok (.newarray .int, 2) := by decide +kernel
theorem dX1_init_9 : decode cX1_init 9 = .ok (.putfield 9, 3) := by decide +kernel
theorem dX1_init_12 : decode cX1_init 12 = .ok (.return_, 1) := by decide +kernel
theorem dX1_wholeAt_0 : decode cX1_wholeAt 0 = .ok (.iload_n 1, 1) := by decide +kernel
theorem dX1_wholeAt_1 : decode cX1_wholeAt 1 = .ok (.ifCond .lt 29, 3) := by decide +kernel
theorem dX1_wholeAt_4 : decode cX1_wholeAt 4 = .ok (.iload_n 1, 1) := by decide +kernel
theorem dX1_wholeAt_5 : decode cX1_wholeAt 5 = .ok (.aload_n 0, 1) := by decide +kernel
theorem dX1_wholeAt_6 : decode cX1_wholeAt 6 = .ok (.getfield 15, 3) := by decide +kernel
theorem dX1_wholeAt_9 : decode cX1_wholeAt 9 = .ok (.if_icmp .ge 21, 3) := by decide +kernel
theorem dX1_wholeAt_12 : decode cX1_wholeAt 12 = .ok (.iload_n 1, 1) := by decide +kernel
theorem dX1_wholeAt_13 : decode cX1_wholeAt 13 = .ok (.aload_n 0, 1) := by decide +kernel
theorem dX1_wholeAt_14 : decode cX1_wholeAt 14 = .ok (.getfield 9, 3) := by decide +kernel
theorem dX1_wholeAt_17 : decode cX1_wholeAt 17 = .ok (.arraylength, 1) := by decide +kernel
theorem dX1_wholeAt_18 : decode cX1_wholeAt 18 = .ok (.if_icmp .ge 12, 3) := by decide +kernel
theorem dX1_wholeAt_21 : decode cX1_wholeAt 21 = .ok (.aload_n 0, 1) := by decide +kernel
theorem dX1_wholeAt_22 : decode cX1_wholeAt 22 = .ok (.getfield 9, 3) := by decide +kernel
theorem dX1_wholeAt_25 : decode cX1_wholeAt 25 = .ok (.iload_n 1, 1) := by decide +kernel
theorem dX1_wholeAt_26 : decode cX1_wholeAt 26 = .ok (.iaload, 1) := by decide +kernel
theorem dX1_wholeAt_27 : decode cX1_wholeAt 27 = .ok (.goto 4, 3) := by decide +kernel
theorem dX1_wholeAt_30 : decode cX1_wholeAt 30 = .ok (.iconst (-1), 1) := by decide +kernel
theorem dX1_wholeAt_31 : decode cX1_wholeAt 31 = .ok (.ireturn, 1) := by decide +kernel
theorem dX1_closedBy_0 : decode cX1_closedBy 0 = .ok (.aload_n 1, 1) := by decide +kernel
theorem dX1_closedBy_1 : decode cX1_closedBy 1 = .ok (.aload_n 2, 1) := by decide +kernel
theorem dX1_closedBy_2 : decode cX1_closedBy 2 = .ok (.aload_n 3, 1) := by decide +kernel
theorem dX1_closedBy_3 : decode cX1_closedBy 3 = .ok (.invokestatic 19, 3) := by decide +kernel
theorem dX1_closedBy_6 : decode cX1_closedBy 6 = .ok (.aload_n 2, 1) := by decide +kernel
theorem dX1_closedBy_7 : decode cX1_closedBy 7 = .ok (.getfield 23, 3) := by decide +kernel
theorem dX1_closedBy_10 : decode cX1_closedBy 10 = .ok (.iconst (-1), 1) := by decide +kernel
theorem dX1_closedBy_11 : decode cX1_closedBy 11 = .ok (.if_icmp .ne 5, 3) := by decide +kernel
theorem dX1_closedBy_14 : decode cX1_closedBy 14 = .ok (.iconst 0, 1) := by decide +kernel
theorem dX1_closedBy_15 : decode cX1_closedBy 15 = .ok (.ireturn, 1) := by decide +kernel
theorem dX1_closedBy_16 : decode cX1_closedBy 16 = .ok (.aload_n 0, 1) := by decide +kernel
theorem dX1_closedBy_17 : decode cX1_closedBy 17 = .ok (.dup, 1) := by decide +kernel
theorem dX1_closedBy_18 : decode cX1_closedBy 18 = .ok (.getfield 28, 3) := by decide +kernel
theorem dX1_closedBy_21 : decode cX1_closedBy 21 = .ok (.iconst 1, 1) := by decide +kernel
theorem dX1_closedBy_22 : decode cX1_closedBy 22 = .ok (.iadd, 1) := by decide +kernel
theorem dX1_closedBy_23 : decode cX1_closedBy 23 = .ok (.putfield 28, 3) := by decide +kernel
theorem dX1_closedBy_26 : decode cX1_closedBy 26 = .ok (.aload_n 0, 1) := by decide +kernel
theorem dX1_closedBy_27 : decode cX1_closedBy 27 = .ok (.iconst 0, 1) := by decide +kernel
theorem dX1_closedBy_28 : decode cX1_closedBy 28 = .ok (.putfield 15, 3) := by decide +kernel
theorem dX1_closedBy_31 : decode cX1_closedBy 31 = .ok (.aload_n 0, 1) := by decide +kernel
theorem dX1_closedBy_32 : decode cX1_closedBy 32 = .ok (.aload_n 1, 1) := by decide +kernel
theorem dX1_closedBy_33 : decode cX1_closedBy 33 = .ok (.invokevirtual 31, 3) := by decide +kernel
theorem dX1_closedBy_36 : decode cX1_closedBy 36 = .ok (.aload_n 2, 1) := by decide +kernel
theorem dX1_closedBy_37 : decode cX1_closedBy 37 = .ok (.astore 4, 2) := by decide +kernel
theorem dX1_closedBy_39 : decode cX1_closedBy 39 = .ok (.iconst 0, 1) := by decide +kernel
theorem dX1_closedBy_40 : decode cX1_closedBy 40 = .ok (.istore 5, 2) := by decide +kernel
theorem dX1_closedBy_42 : decode cX1_closedBy 42 = .ok (.iload 5, 2) := by decide +kernel
theorem dX1_closedBy_44 : decode cX1_closedBy 44 = .ok (.bipush 100, 2) := by decide +kernel
theorem dX1_closedBy_46 : decode cX1_closedBy 46 = .ok (.if_icmp .ge 34, 3) := by decide +kernel
theorem dX1_closedBy_49 : decode cX1_closedBy 49 = .ok (.aload 4, 2) := by decide +kernel
theorem dX1_closedBy_51 : decode cX1_closedBy 51 = .ok (.ifnull 29, 3) := by decide +kernel
theorem dX1_closedBy_54 : decode cX1_closedBy 54 = .ok (.aload 4, 2) := by decide +kernel
theorem dX1_closedBy_56 : decode cX1_closedBy 56 = .ok (.aload_n 1, 1) := by decide +kernel
theorem dX1_closedBy_57 : decode cX1_closedBy 57 = .ok (.if_acmp .eq 23, 3) := by decide +kernel
theorem dX1_closedBy_60 : decode cX1_closedBy 60 = .ok (.aload_n 0, 1) := by decide +kernel
theorem dX1_closedBy_61 : decode cX1_closedBy 61 = .ok (.aload 4, 2) := by decide +kernel
theorem dX1_closedBy_63 : decode cX1_closedBy 63 = .ok (.invokevirtual 31, 3) := by decide +kernel
theorem dX1_closedBy_66 : decode cX1_closedBy 66 = .ok (.aload 4, 2) := by decide +kernel
theorem dX1_closedBy_68 : decode cX1_closedBy 68 = .ok (.aload_n 3, 1) := by decide +kernel
theorem dX1_closedBy_69 : decode cX1_closedBy 69 = .ok (.invokestatic 35, 3) := by decide +kernel
theorem dX1_closedBy_72 : decode cX1_closedBy 72 = .ok (.astore 4, 2) := by decide +kernel
theorem dX1_closedBy_74 : decode cX1_closedBy 74 = .ok (.iinc 5 1, 3) := by decide +kernel
theorem dX1_closedBy_77 : decode cX1_closedBy 77 = .ok (.goto (-35), 3) := by decide +kernel
theorem dX1_closedBy_80 : decode cX1_closedBy 80 = .ok (.iconst 1, 1) := by decide +kernel
theorem dX1_closedBy_81 : decode cX1_closedBy 81 = .ok (.ireturn, 1) := by decide +kernel
theorem dX1_measureSteps_0 : decode cX1_measureSteps 0 = .ok (.aload_n 2, 1) := by decide +kernel
theorem dX1_measureSteps_1 : decode cX1_measureSteps 1 = .ok (.astore_n 3, 1) := by decide +kernel
theorem dX1_measureSteps_2 : decode cX1_measureSteps 2 = .ok (.aload_n 3, 1) := by decide +kernel
theorem dX1_measureSteps_3 : decode cX1_measureSteps 3 = .ok (.ifnull 33, 3) := by decide +kernel
theorem dX1_measureSteps_6 : decode cX1_measureSteps 6 = .ok (.aload_n 3, 1) := by decide +kernel
theorem dX1_measureSteps_7 : decode cX1_measureSteps 7 = .ok (.getfield 39, 3) := by decide +kernel
theorem dX1_measureSteps_10 : decode cX1_measureSteps 10 = .ok (.getfield 45, 3) := by decide +kernel
theorem dX1_measureSteps_13 : decode cX1_measureSteps 13 = .ok (.iconst (-1), 1) := by decide +kernel
theorem dX1_measureSteps_14 : decode cX1_measureSteps 14 = .ok (.putfield 23, 3) := by decide +kernel
theorem dX1_measureSteps_17 : decode cX1_measureSteps 17 = .ok (.aload_n 3, 1) := by decide +kernel
theorem dX1_measureSteps_18 : decode cX1_measureSteps 18 = .ok (.getfield 51, 3) := by decide +kernel
theorem dX1_measureSteps_21 : decode cX1_measureSteps 21 = .ok (.getfield 45, 3) := by decide +kernel
theorem dX1_measureSteps_24 : decode cX1_measureSteps 24 = .ok (.iconst (-1), 1) := by decide +kernel
theorem dX1_measureSteps_25 : decode cX1_measureSteps 25 = .ok (.putfield 23, 3) := by decide +kernel
theorem dX1_measureSteps_28 : decode cX1_measureSteps 28 = .ok (.aload_n 3, 1) := by decide +kernel
theorem dX1_measureSteps_29 : decode cX1_measureSteps 29 = .ok (.getfield 54, 3) := by decide +kernel
theorem dX1_measureSteps_32 : decode cX1_measureSteps 32 = .ok (.astore_n 3, 1) := by decide +kernel
theorem dX1_measureSteps_33 : decode cX1_measureSteps 33 = .ok (.goto (-31), 3) := by decide +kernel
theorem dX1_measureSteps_36 : decode cX1_measureSteps 36 = .ok (.aload_n 1, 1) := by decide +kernel
theorem dX1_measureSteps_37 : decode cX1_measureSteps 37 = .ok (.iconst (-1), 1) := by decide +kernel
theorem dX1_measureSteps_38 : decode cX1_measureSteps 38 = .ok (.putfield 23, 3) := by decide +kernel
theorem dX1_measureSteps_41 : decode cX1_measureSteps 41 = .ok (.aload_n 0, 1) := by decide +kernel
theorem dX1_measureSteps_42 : decode cX1_measureSteps 42 = .ok (.iconst 0, 1) := by decide +kernel
theorem dX1_measureSteps_43 : decode cX1_measureSteps 43 = .ok (.putfield 23, 3) := by decide +kernel
theorem dX1_measureSteps_46 : decode cX1_measureSteps 46 = .ok (.iconst 1, 1) := by decide +kernel
theorem dX1_measureSteps_47 : decode cX1_measureSteps 47 = .ok (.istore_n 3, 1) := by decide +kernel
theorem dX1_measureSteps_48 : decode cX1_measureSteps 48 = .ok (.iconst 1, 1) := by decide +kernel
theorem dX1_measureSteps_49 : decode cX1_measureSteps 49 = .ok (.istore 4, 2) := by decide +kernel
theorem dX1_measureSteps_51 : decode cX1_measureSteps 51 = .ok (.iload 4, 2) := by decide +kernel
theorem dX1_measureSteps_53 : decode cX1_measureSteps 53 = .ok (.bipush 100, 2) := by decide +kernel
theorem dX1_measureSteps_55 : decode cX1_measureSteps 55 = .ok (.if_icmp .gt 87, 3) := by decide +kernel
theorem dX1_measureSteps_58 : decode cX1_measureSteps 58 = .ok (.iload_n 3, 1) := by decide +kernel
theorem dX1_measureSteps_59 : decode cX1_measureSteps 59 = .ok (.ifCond .eq 83, 3) := by decide +kernel
theorem dX1_measureSteps_62 : decode cX1_measureSteps 62 = .ok (.iconst 0, 1) := by decide +kernel
theorem dX1_measureSteps_63 : decode cX1_measureSteps 63 = .ok (.istore_n 3, 1) := by decide +kernel
theorem dX1_measureSteps_64 : decode cX1_measureSteps 64 = .ok (.aload_n 2, 1) := by decide +kernel
theorem dX1_measureSteps_65 : decode cX1_measureSteps 65 = .ok (.astore 5, 2) := by decide +kernel
theorem dX1_measureSteps_67 : decode cX1_measureSteps 67 = .ok (.aload 5, 2) := by decide +kernel
theorem dX1_measureSteps_69 : decode cX1_measureSteps 69 = .ok (.ifnull 67, 3) := by decide +kernel
theorem dX1_measureSteps_72 : decode cX1_measureSteps 72 = .ok (.aload 5, 2) := by decide +kernel
theorem dX1_measureSteps_74 : decode cX1_measureSteps 74 = .ok (.getfield 39, 3) := by decide +kernel
theorem dX1_measureSteps_77 : decode cX1_measureSteps 77 = .ok (.getfield 45, 3) := by decide +kernel
theorem dX1_measureSteps_80 : decode cX1_measureSteps 80 = .ok (.astore 6, 2) := by decide +kernel
theorem dX1_measureSteps_82 : decode cX1_measureSteps 82 = .ok (.aload 5, 2) := by decide +kernel
theorem dX1_measureSteps_84 : decode cX1_measureSteps 84 = .ok (.getfield 58, 3) := by decide +kernel
theorem dX1_measureSteps_87 : decode cX1_measureSteps 87 = .ok (.ifnonnull 39, 3) := by decide +kernel
theorem dX1_measureSteps_90 : decode cX1_measureSteps 90 = .ok (.aload 6, 2) := by decide +kernel
theorem dX1_measureSteps_92 : decode cX1_measureSteps 92 = .ok (.getfield 23, 3) := by decide +kernel
theorem dX1_measureSteps_95 : decode cX1_measureSteps 95 = .ok (.iconst (-1), 1) := by decide +kernel
theorem dX1_measureSteps_96 : decode cX1_measureSteps 96 = .ok (.if_icmp .ne 30, 3) := by decide +kernel
theorem dX1_measureSteps_99 : decode cX1_measureSteps 99 = .ok (.aload 5, 2) := by decide +kernel
theorem dX1_measureSteps_101 : decode cX1_measureSteps 101 = .ok (.getfield 51, 3) := by decide +kernel
theorem dX1_measureSteps_104 : decode cX1_measureSteps 104 = .ok (.getfield 45, 3) := by decide +kernel
theorem dX1_measureSteps_107 : decode cX1_measureSteps 107 = .ok (.getfield 23, 3) := by decide +kernel
theorem dX1_measureSteps_110 : decode cX1_measureSteps 110 = .ok (.iload 4, 2) := by decide +kernel
theorem dX1_measureSteps_112 : decode cX1_measureSteps 112 = .ok (.iconst 1, 1) := by decide +kernel
theorem dX1_measureSteps_113 : decode cX1_measureSteps 113 = .ok (.isub, 1) := by decide +kernel
theorem dX1_measureSteps_114 : decode cX1_measureSteps 114 = .ok (.if_icmp .ne 12, 3) := by decide +kernel
theorem dX1_measureSteps_117 : decode cX1_measureSteps 117 = .ok (.aload 6, 2) := by decide +kernel
theorem dX1_measureSteps_119 : decode cX1_measureSteps 119 = .ok (.iload 4, 2) := by decide +kernel
theorem dX1_measureSteps_121 : decode cX1_measureSteps 121 = .ok (.putfield 23, 3) := by decide +kernel
theorem dX1_measureSteps_124 : decode cX1_measureSteps 124 = .ok (.iconst 1, 1) := by decide +kernel
theorem dX1_measureSteps_125 : decode cX1_measureSteps 125 = .ok (.istore_n 3, 1) := by decide +kernel
theorem dX1_measureSteps_126 : decode cX1_measureSteps 126 = .ok (.aload 5, 2) := by decide +kernel
theorem dX1_measureSteps_128 : decode cX1_measureSteps 128 = .ok (.getfield 54, 3) := by decide +kernel
theorem dX1_measureSteps_131 : decode cX1_measureSteps 131 = .ok (.astore 5, 2) := by decide +kernel
theorem dX1_measureSteps_133 : decode cX1_measureSteps 133 = .ok (.goto (-66), 3) := by decide +kernel
theorem dX1_measureSteps_136 : decode cX1_measureSteps 136 = .ok (.iinc 4 1, 3) := by decide +kernel
theorem dX1_measureSteps_139 : decode cX1_measureSteps 139 = .ok (.goto (-88), 3) := by decide +kernel
theorem dX1_measureSteps_142 : decode cX1_measureSteps 142 = .ok (.return_, 1) := by decide +kernel
theorem dX1_nearer_0 : decode cX1_nearer 0 = .ok (.aload_n 1, 1) := by decide +kernel
theorem dX1_nearer_1 : decode cX1_nearer 1 = .ok (.astore_n 2, 1) := by decide +kernel
theorem dX1_nearer_2 : decode cX1_nearer 2 = .ok (.aload_n 2, 1) := by decide +kernel
theorem dX1_nearer_3 : decode cX1_nearer 3 = .ok (.ifnull 56, 3) := by decide +kernel
theorem dX1_nearer_6 : decode cX1_nearer 6 = .ok (.aload_n 2, 1) := by decide +kernel
theorem dX1_nearer_7 : decode cX1_nearer 7 = .ok (.getfield 58, 3) := by decide +kernel
theorem dX1_nearer_10 : decode cX1_nearer 10 = .ok (.ifnonnull 41, 3) := by decide +kernel
theorem dX1_nearer_13 : decode cX1_nearer 13 = .ok (.aload_n 2, 1) := by decide +kernel
theorem dX1_nearer_14 : decode cX1_nearer 14 = .ok (.getfield 39, 3) := by decide +kernel
theorem dX1_nearer_17 : decode cX1_nearer 17 = .ok (.getfield 45, 3) := by decide +kernel
theorem dX1_nearer_20 : decode cX1_nearer 20 = .ok (.aload_n 0, 1) := by decide +kernel
theorem dX1_nearer_21 : decode cX1_nearer 21 = .ok (.if_acmp .ne 30, 3) := by decide +kernel
theorem dX1_nearer_24 : decode cX1_nearer 24 = .ok (.aload_n 2, 1) := by decide +kernel
theorem dX1_nearer_25 : decode cX1_nearer 25 = .ok (.getfield 51, 3) := by decide +kernel
theorem dX1_nearer_28 : decode cX1_nearer 28 = .ok (.getfield 45, 3) := by decide +kernel
theorem dX1_nearer_31 : decode cX1_nearer 31 = .ok (.getfield 23, 3) := by decide +kernel
theorem dX1_nearer_34 : decode cX1_nearer 34 = .ok (.aload_n 0, 1) := by decide +kernel
theorem dX1_nearer_35 : decode cX1_nearer 35 = .ok (.getfield 23, 3) := by decide +kernel
theorem dX1_nearer_38 : decode cX1_nearer 38 = .ok (.iconst 1, 1) := by decide +kernel
theorem dX1_nearer_39 : decode cX1_nearer 39 = .ok (.isub, 1) := by decide +kernel
theorem dX1_nearer_40 : decode cX1_nearer 40 = .ok (.if_icmp .ne 11, 3) := by decide +kernel
theorem dX1_nearer_43 : decode cX1_nearer 43 = .ok (.aload_n 2, 1) := by decide +kernel
theorem dX1_nearer_44 : decode cX1_nearer 44 = .ok (.getfield 51, 3) := by decide +kernel
theorem dX1_nearer_47 : decode cX1_nearer 47 = .ok (.getfield 45, 3) := by decide +kernel
theorem dX1_nearer_50 : decode cX1_nearer 50 = .ok (.areturn, 1) := by decide +kernel
theorem dX1_nearer_51 : decode cX1_nearer 51 = .ok (.aload_n 2, 1) := by decide +kernel
theorem dX1_nearer_52 : decode cX1_nearer 52 = .ok (.getfield 54, 3) := by decide +kernel
theorem dX1_nearer_55 : decode cX1_nearer 55 = .ok (.astore_n 2, 1) := by decide +kernel
theorem dX1_nearer_56 : decode cX1_nearer 56 = .ok (.goto (-54), 3) := by decide +kernel
theorem dX1_nearer_59 : decode cX1_nearer 59 = .ok (.aconst_null, 1) := by decide +kernel
theorem dX1_nearer_60 : decode cX1_nearer 60 = .ok (.areturn, 1) := by decide +kernel
theorem dX1_add_0 : decode cX1_add 0 = .ok (.aload_n 0, 1) := by decide +kernel
theorem dX1_add_1 : decode cX1_add 1 = .ok (.getfield 15, 3) := by decide +kernel
theorem dX1_add_4 : decode cX1_add 4 = .ok (.aload_n 0, 1) := by decide +kernel
theorem dX1_add_5 : decode cX1_add 5 = .ok (.getfield 9, 3) := by decide +kernel
theorem dX1_add_8 : decode cX1_add 8 = .ok (.arraylength, 1) := by decide +kernel
theorem dX1_add_9 : decode cX1_add 9 = .ok (.if_icmp .ge 26, 3) := by decide +kernel
theorem dX1_add_12 : decode cX1_add 12 = .ok (.aload_n 0, 1) := by decide +kernel
theorem dX1_add_13 : decode cX1_add 13 = .ok (.getfield 9, 3) := by decide +kernel
theorem dX1_add_16 : decode cX1_add 16 = .ok (.aload_n 0, 1) := by decide +kernel
theorem dX1_add_17 : decode cX1_add 17 = .ok (.getfield 15, 3) := by decide +kernel
theorem dX1_add_20 : decode cX1_add 20 = .ok (.aload_n 1, 1) := by decide +kernel
theorem dX1_add_21 : decode cX1_add 21 = .ok (.invokevirtual 62, 3) := by decide +kernel
theorem dX1_add_24 : decode cX1_add 24 = .ok (.iastore, 1) := by decide +kernel
theorem dX1_add_25 : decode cX1_add 25 = .ok (.aload_n 0, 1) := by decide +kernel
theorem dX1_add_26 : decode cX1_add 26 = .ok (.dup, 1) := by decide +kernel
theorem dX1_add_27 : decode cX1_add 27 = .ok (.getfield 15, 3) := by decide +kernel
theorem dX1_add_30 : decode cX1_add 30 = .ok (.iconst 1, 1) := by decide +kernel
theorem dX1_add_31 : decode cX1_add 31 = .ok (.iadd, 1) := by decide +kernel
theorem dX1_add_32 : decode cX1_add 32 = .ok (.putfield 15, 3) := by decide +kernel
theorem dX1_add_35 : decode cX1_add 35 = .ok (.return_, 1) := by decide +kernel
theorem dX2_init_0 : decode cX2_init 0 = .ok (.aload_n 0, 1) := by decide +kernel
theorem dX2_init_1 : decode cX2_init 1 = .ok (.invokespecial 1, 3) := by decide +kernel
theorem dX2_init_4 : decode cX2_init 4 = .ok (.aload_n 0, 1) := by decide +kernel
theorem dX2_init_5 : decode cX2_init 5 = .ok (.iload_n 1, 1) := by decide +kernel
theorem dX2_init_6 : decode cX2_init 6 = .ok (.putfield 7, 3) := by decide +kernel
theorem dX2_init_9 : decode cX2_init 9 = .ok (.aload_n 0, 1) := by decide +kernel
theorem dX2_init_10 : decode cX2_init 10 = .ok (.aload_n 2, 1) := by decide +kernel
theorem dX2_init_11 : decode cX2_init 11 = .ok (.putfield 13, 3) := by decide +kernel
theorem dX2_init_14 : decode cX2_init 14 = .ok (.aload_n 0, 1) := by decide +kernel
theorem dX2_init_15 : decode cX2_init 15 = .ok (.aload_n 3, 1) := by decide +kernel
theorem dX2_init_16 : decode cX2_init 16 = .ok (.putfield 17, 3) := by decide +kernel
theorem dX2_init_19 : decode cX2_init 19 = .ok (.aload_n 0, 1) := by decide +kernel
theorem dX2_init_20 : decode cX2_init 20 = .ok (.lload 4, 2) := by decide +kernel
theorem dX2_init_22 : decode cX2_init 22 = .ok (.putfield 21, 3) := by decide +kernel
theorem dX2_init_25 : decode cX2_init 25 = .ok (.aload_n 0, 1) := by decide +kernel
theorem dX2_init_26 : decode cX2_init 26 = .ok (.iload 6, 2) := by decide +kernel
theorem dX2_init_28 : decode cX2_init 28 = .ok (.putfield 25, 3) := by decide +kernel
theorem dX2_init_31 : decode cX2_init 31 = .ok (.return_, 1) := by decide +kernel
theorem dX2_isBelow_0 : decode cX2_isBelow 0 = .ok (.aload_n 0, 1) := by decide +kernel
theorem dX2_isBelow_1 : decode cX2_isBelow 1 = .ok (.astore_n 2, 1) := by decide +kernel
theorem dX2_isBelow_2 : decode cX2_isBelow 2 = .ok (.aload_n 2, 1) := by decide +kernel
theorem dX2_isBelow_3 : decode cX2_isBelow 3 = .ok (.ifnull 18, 3) := by decide +kernel
theorem dX2_isBelow_6 : decode cX2_isBelow 6 = .ok (.aload_n 2, 1) := by decide +kernel
theorem dX2_isBelow_7 : decode cX2_isBelow 7 = .ok (.aload_n 1, 1) := by decide +kernel
theorem dX2_isBelow_8 : decode cX2_isBelow 8 = .ok (.if_acmp .ne 5, 3) := by decide +kernel
theorem dX2_isBelow_11 : decode cX2_isBelow 11 = .ok (.iconst 1, 1) := by decide +kernel
theorem dX2_isBelow_12 : decode cX2_isBelow 12 = .ok (.ireturn, 1) := by decide +kernel
theorem dX2_isBelow_13 : decode cX2_isBelow 13 = .ok (.aload_n 2, 1) := by decide +kernel
theorem dX2_isBelow_14 : decode cX2_isBelow 14 = .ok (.getfield 17, 3) := by decide +kernel
theorem dX2_isBelow_17 : decode cX2_isBelow 17 = .ok (.astore_n 2, 1) := by decide +kernel
theorem dX2_isBelow_18 : decode cX2_isBelow 18 = .ok (.goto (-16), 3) := by decide +kernel
theorem dX2_isBelow_21 : decode cX2_isBelow 21 = .ok (.iconst 0, 1) := by decide +kernel
theorem dX2_isBelow_22 : decode cX2_isBelow 22 = .ok (.ireturn, 1) := by decide +kernel
theorem dX2_recordRelease_0 : decode cX2_recordRelease 0 = .ok (.aload_n 0, 1) := by decide +kernel
theorem dX2_recordRelease_1 : decode cX2_recordRelease 1 = .ok (.getfield 28, 3) := by decide +kernel
theorem dX2_recordRelease_4 : decode cX2_recordRelease 4 = .ok (.ifnonnull 20, 3) := by decide +kernel
theorem dX2_recordRelease_7 : decode cX2_recordRelease 7 = .ok (.aload_n 0, 1) := by decide +kernel
theorem dX2_recordRelease_8 : decode cX2_recordRelease 8 = .ok (.aload_n 0, 1) := by decide +kernel
theorem dX2_recordRelease_9 : decode cX2_recordRelease 9 = .ok (.getfield 13, 3) := by decide +kernel
theorem dX2_recordRelease_12 : decode cX2_recordRelease 12 = .ok (.getfield 32, 3) := by decide +kernel
theorem dX2_recordRelease_15 : decode cX2_recordRelease 15 = .ok (.getfield 38, 3) := by decide +kernel
theorem dX2_recordRelease_18 : decode cX2_recordRelease 18 = .ok (.anewarray 43, 3) := by decide +kernel
theorem dX2_recordRelease_21 : decode cX2_recordRelease 21 = .ok (.putfield 28, 3) := by decide +kernel
theorem dX2_recordRelease_24 : decode cX2_recordRelease 24 = .ok (.iload_n 1, 1) := by decide +kernel
theorem dX2_recordRelease_25 : decode cX2_recordRelease 25 = .ok (.ifCond .lt 19, 3) := by decide +kernel
theorem dX2_recordRelease_28 : decode cX2_recordRelease 28 = .ok (.iload_n 1, 1) := by decide +kernel
theorem dX2_recordRelease_29 : decode cX2_recordRelease 29 = .ok (.aload_n 0, 1) := by decide +kernel
theorem dX2_recordRelease_30 : decode cX2_recordRelease 30 = .ok (.getfield 28, 3) := by decide +kernel
theorem dX2_recordRelease_33 : decode cX2_recordRelease 33 = .ok (.arraylength, 1) := by decide +kernel
theorem dX2_recordRelease_34 : decode cX2_recordRelease 34 = .ok (.if_icmp .ge 10, 3) := by decide +kernel
theorem dX2_recordRelease_37 : decode cX2_recordRelease 37 = .ok (.aload_n 0, 1) := by decide +kernel
theorem dX2_recordRelease_38 : decode cX2_recordRelease 38 = .ok (.getfield 28, 3) := by decide +kernel
theorem dX2_recordRelease_41 : decode cX2_recordRelease 41 = .ok (.iload_n 1, 1) := by decide +kernel
theorem dX2_recordRelease_42 : decode cX2_recordRelease 42 = .ok (.aload_n 2, 1) := by decide +kernel
theorem dX2_recordRelease_43 : decode cX2_recordRelease 43 = .ok (.aastore, 1) := by decide +kernel
theorem dX2_recordRelease_44 : decode cX2_recordRelease 44 = .ok (.return_, 1) := by decide +kernel
theorem dX2_isReleased_0 : decode cX2_isReleased 0 = .ok (.aload_n 0, 1) := by decide +kernel
theorem dX2_isReleased_1 : decode cX2_isReleased 1 = .ok (.astore_n 3, 1) := by decide +kernel
theorem dX2_isReleased_2 : decode cX2_isReleased 2 = .ok (.aload_n 3, 1) := by decide +kernel
theorem dX2_isReleased_3 : decode cX2_isReleased 3 = .ok (.ifnull 46, 3) := by decide +kernel
theorem dX2_isReleased_6 : decode cX2_isReleased 6 = .ok (.aload_n 3, 1) := by decide +kernel
theorem dX2_isReleased_7 : decode cX2_isReleased 7 = .ok (.getfield 28, 3) := by decide +kernel
theorem dX2_isReleased_10 : decode cX2_isReleased 10 = .ok (.astore 4, 2) := by decide +kernel
theorem dX2_isReleased_12 : decode cX2_isReleased 12 = .ok (.aload 4, 2) := by decide +kernel
theorem dX2_isReleased_14 : decode cX2_isReleased 14 = .ok (.ifnull 27, 3) := by decide +kernel
theorem dX2_isReleased_17 : decode cX2_isReleased 17 = .ok (.iload_n 1, 1) := by decide +kernel
theorem dX2_isReleased_18 : decode cX2_isReleased 18 = .ok (.ifCond .lt 23, 3) := by decide +kernel
theorem dX2_isReleased_21 : decode cX2_isReleased 21 = .ok (.iload_n 1, 1) := by decide +kernel
theorem dX2_isReleased_22 : decode cX2_isReleased 22 = .ok (.aload 4, 2) := by decide +kernel
theorem dX2_isReleased_24 : decode cX2_isReleased 24 = .ok (.arraylength, 1) := by decide +kernel
theorem dX2_isReleased_25 : decode cX2_isReleased 25 = .ok (.if_icmp .ge 16, 3) := by decide +kernel
theorem dX2_isReleased_28 : decode cX2_isReleased 28 = .ok (.aload 4, 2) := by decide +kernel
theorem dX2_isReleased_30 : decode cX2_isReleased 30 = .ok (.iload_n 1, 1) := by decide +kernel
theorem dX2_isReleased_31 : decode cX2_isReleased 31 = .ok (.aaload, 1) := by decide +kernel
theorem dX2_isReleased_32 : decode cX2_isReleased 32 = .ok (.aload_n 2, 1) := by decide +kernel
theorem dX2_isReleased_33 : decode cX2_isReleased 33 = .ok (.invokestatic 45, 3) := by decide +kernel
theorem dX2_isReleased_36 : decode cX2_isReleased 36 = .ok (.ifCond .eq 5, 3) := by decide +kernel
theorem dX2_isReleased_39 : decode cX2_isReleased 39 = .ok (.iconst 1, 1) := by decide +kernel
theorem dX2_isReleased_40 : decode cX2_isReleased 40 = .ok (.ireturn, 1) := by decide +kernel
theorem dX2_isReleased_41 : decode cX2_isReleased 41 = .ok (.aload_n 3, 1) := by decide +kernel
theorem dX2_isReleased_42 : decode cX2_isReleased 42 = .ok (.getfield 17, 3) := by decide +kernel
theorem dX2_isReleased_45 : decode cX2_isReleased 45 = .ok (.astore_n 3, 1) := by decide +kernel
theorem dX2_isReleased_46 : decode cX2_isReleased 46 = .ok (.goto (-44), 3) := by decide +kernel
theorem dX2_isReleased_49 : decode cX2_isReleased 49 = .ok (.iconst 0, 1) := by decide +kernel
theorem dX2_isReleased_50 : decode cX2_isReleased 50 = .ok (.ireturn, 1) := by decide +kernel
theorem dX2_liesOn_0 : decode cX2_liesOn 0 = .ok (.aload_n 0, 1) := by decide +kernel
theorem dX2_liesOn_1 : decode cX2_liesOn 1 = .ok (.getfield 13, 3) := by decide +kernel
theorem dX2_liesOn_4 : decode cX2_liesOn 4 = .ok (.getfield 32, 3) := by decide +kernel
theorem dX2_liesOn_7 : decode cX2_liesOn 7 = .ok (.astore_n 3, 1) := by decide +kernel
theorem dX2_liesOn_8 : decode cX2_liesOn 8 = .ok (.aload_n 3, 1) := by decide +kernel
theorem dX2_liesOn_9 : decode cX2_liesOn 9 = .ok (.iload_n 1, 1) := by decide +kernel
theorem dX2_liesOn_10 : decode cX2_liesOn 10 = .ok (.invokevirtual 49, 3) := by decide +kernel
theorem dX2_liesOn_13 : decode cX2_liesOn 13 = .ok (.ifCond .eq 38, 3) := by decide +kernel
theorem dX2_liesOn_16 : decode cX2_liesOn 16 = .ok (.aload_n 3, 1) := by decide +kernel
theorem dX2_liesOn_17 : decode cX2_liesOn 17 = .ok (.iload_n 1, 1) := by decide +kernel
theorem dX2_liesOn_18 : decode cX2_liesOn 18 = .ok (.invokevirtual 53, 3) := by decide +kernel
theorem dX2_liesOn_21 : decode cX2_liesOn 21 = .ok (.ifCond .ne 30, 3) := by decide +kernel
theorem dX2_liesOn_24 : decode cX2_liesOn 24 = .ok (.aload_n 0, 1) := by decide +kernel
theorem dX2_liesOn_25 : decode cX2_liesOn 25 = .ok (.getfield 13, 3) := by decide +kernel
theorem dX2_liesOn_28 : decode cX2_liesOn 28 = .ok (.getfield 56, 3) := by decide +kernel
theorem dX2_liesOn_31 : decode cX2_liesOn 31 = .ok (.iload_n 1, 1) := by decide +kernel
theorem dX2_liesOn_32 : decode cX2_liesOn 32 = .ok (.lushr, 1) := by decide +kernel
theorem dX2_liesOn_33 : decode cX2_liesOn 33 = .ok (.lconst 1, 1) := by decide +kernel
theorem dX2_liesOn_34 : decode cX2_liesOn 34 = .ok (.land, 1) := by decide +kernel
theorem dX2_liesOn_35 : decode cX2_liesOn 35 = .ok (.lconst 0, 1) := by decide +kernel
theorem dX2_liesOn_36 : decode cX2_liesOn 36 = .ok (.lcmp, 1) := by decide +kernel
theorem dX2_liesOn_37 : decode cX2_liesOn 37 = .ok (.ifCond .eq 14, 3) := by decide +kernel
theorem dX2_liesOn_40 : decode cX2_liesOn 40 = .ok (.aload_n 0, 1) := by decide +kernel
theorem dX2_liesOn_41 : decode cX2_liesOn 41 = .ok (.getfield 13, 3) := by decide +kernel
theorem dX2_liesOn_44 : decode cX2_liesOn 44 = .ok (.aload_n 2, 1) := by decide +kernel
theorem dX2_liesOn_45 : decode cX2_liesOn 45 = .ok (.invokevirtual 59, 3) := by decide +kernel
theorem dX2_liesOn_48 : decode cX2_liesOn 48 = .ok (.ifCond .ne 5, 3) := by decide +kernel
theorem dX2_liesOn_51 : decode cX2_liesOn 51 = .ok (.iconst 0, 1) := by decide +kernel
theorem dX2_liesOn_52 : decode cX2_liesOn 52 = .ok (.ireturn, 1) := by decide +kernel
theorem dX2_liesOn_53 : decode cX2_liesOn 53 = .ok (.aload_n 0, 1) := by decide +kernel
theorem dX2_liesOn_54 : decode cX2_liesOn 54 = .ok (.getfield 13, 3) := by decide +kernel
theorem dX2_liesOn_57 : decode cX2_liesOn 57 = .ok (.getfield 63, 3) := by decide +kernel
theorem dX2_liesOn_60 : decode cX2_liesOn 60 = .ok (.astore 4, 2) := by decide +kernel
theorem dX2_liesOn_62 : decode cX2_liesOn 62 = .ok (.aload 4, 2) := by decide +kernel
theorem dX2_liesOn_64 : decode cX2_liesOn 64 = .ok (.ifnull 34, 3) := by decide +kernel
theorem dX2_liesOn_67 : decode cX2_liesOn 67 = .ok (.aload 4, 2) := by decide +kernel
theorem dX2_liesOn_69 : decode cX2_liesOn 69 = .ok (.aload_n 0, 1) := by decide +kernel
theorem dX2_liesOn_70 : decode cX2_liesOn 70 = .ok (.invokevirtual 66, 3) := by decide +kernel
theorem dX2_liesOn_73 : decode cX2_liesOn 73 = .ok (.ifCond .eq 15, 3) := by decide +kernel
theorem dX2_liesOn_76 : decode cX2_liesOn 76 = .ok (.aload 4, 2) := by decide +kernel
theorem dX2_liesOn_78 : decode cX2_liesOn 78 = .ok (.iload_n 1, 1) := by decide +kernel
theorem dX2_liesOn_79 : decode cX2_liesOn 79 = .ok (.aload_n 2, 1) := by decide +kernel
theorem dX2_liesOn_80 : decode cX2_liesOn 80 = .ok (.invokevirtual 70, 3) := by decide +kernel
theorem dX2_liesOn_83 : decode cX2_liesOn 83 = .ok (.ifCond .ne 5, 3) := by decide +kernel
theorem dX2_liesOn_86 : decode cX2_liesOn 86 = .ok (.iconst 1, 1) := by decide +kernel
theorem dX2_liesOn_87 : decode cX2_liesOn 87 = .ok (.ireturn, 1) := by decide +kernel
theorem dX2_liesOn_88 : decode cX2_liesOn 88 = .ok (.aload 4, 2) := by decide +kernel
theorem dX2_liesOn_90 : decode cX2_liesOn 90 = .ok (.getfield 74, 3) := by decide +kernel
theorem dX2_liesOn_93 : decode cX2_liesOn 93 = .ok (.astore 4, 2) := by decide +kernel
theorem dX2_liesOn_95 : decode cX2_liesOn 95 = .ok (.goto (-33), 3) := by decide +kernel
theorem dX2_liesOn_98 : decode cX2_liesOn 98 = .ok (.iconst 0, 1) := by decide +kernel
theorem dX2_liesOn_99 : decode cX2_liesOn 99 = .ok (.ireturn, 1) := by decide +kernel
theorem dX3_init_0 : decode cX3_init 0 = .ok (.aload_n 0, 1) := by decide +kernel
theorem dX3_init_1 : decode cX3_init 1 = .ok (.invokespecial 1, 3) := by decide +kernel
theorem dX3_init_4 : decode cX3_init 4 = .ok (.aload_n 0, 1) := by decide +kernel
theorem dX3_init_5 : decode cX3_init 5 = .ok (.iload_n 1, 1) := by decide +kernel
theorem dX3_init_6 : decode cX3_init 6 = .ok (.putfield 7, 3) := by decide +kernel
theorem dX3_init_9 : decode cX3_init 9 = .ok (.aload_n 0, 1) := by decide +kernel
theorem dX3_init_10 : decode cX3_init 10 = .ok (.iload_n 2, 1) := by decide +kernel
theorem dX3_init_11 : decode cX3_init 11 = .ok (.putfield 13, 3) := by decide +kernel
theorem dX3_init_14 : decode cX3_init 14 = .ok (.return_, 1) := by decide +kernel
theorem dX3_hasParcel_0 : decode cX3_hasParcel 0 = .ok (.iload_n 1, 1) := by decide +kernel
theorem dX3_hasParcel_1 : decode cX3_hasParcel 1 = .ok (.ifCond .lt 15, 3) := by decide +kernel
theorem dX3_hasParcel_4 : decode cX3_hasParcel 4 = .ok (.iload_n 1, 1) := by decide +kernel
theorem dX3_hasParcel_5 : decode cX3_hasParcel 5 = .ok (.aload_n 0, 1) := by decide +kernel
theorem dX3_hasParcel_6 : decode cX3_hasParcel 6 = .ok (.getfield 13, 3) := by decide +kernel
theorem dX3_hasParcel_9 : decode cX3_hasParcel 9 = .ok (.if_icmp .ge 7, 3) := by decide +kernel
theorem dX3_hasParcel_12 : decode cX3_hasParcel 12 = .ok (.iconst 1, 1) := by decide +kernel
theorem dX3_hasParcel_13 : decode cX3_hasParcel 13 = .ok (.goto 4, 3) := by decide +kernel
theorem dX3_hasParcel_16 : decode cX3_hasParcel 16 = .ok (.iconst 0, 1) := by decide +kernel
theorem dX3_hasParcel_17 : decode cX3_hasParcel 17 = .ok (.ireturn, 1) := by decide +kernel
theorem dX3_isTorn_0 : decode cX3_isTorn 0 = .ok (.aload_n 0, 1) := by decide +kernel
theorem dX3_isTorn_1 : decode cX3_isTorn 1 = .ok (.getfield 16, 3) := by decide +kernel
theorem dX3_isTorn_4 : decode cX3_isTorn 4 = .ok (.iload_n 1, 1) := by decide +kernel
theorem dX3_isTorn_5 : decode cX3_isTorn 5 = .ok (.lushr, 1) := by decide +kernel
theorem dX3_isTorn_6 : decode cX3_isTorn 6 = .ok (.lconst 1, 1) := by decide +kernel
theorem dX3_isTorn_7 : decode cX3_isTorn 7 = .ok (.land, 1) := by decide +kernel
theorem dX3_isTorn_8 : decode cX3_isTorn 8 = .ok (.lconst 0, 1) := by decide +kernel
theorem dX3_isTorn_9 : decode cX3_isTorn 9 = .ok (.lcmp, 1) := by decide +kernel
theorem dX3_isTorn_10 : decode cX3_isTorn 10 = .ok (.ifCond .eq 7, 3) := by decide +kernel
theorem dX3_isTorn_13 : decode cX3_isTorn 13 = .ok (.iconst 1, 1) := by decide +kernel
theorem dX3_isTorn_14 : decode cX3_isTorn 14 = .ok (.goto 4, 3) := by decide +kernel
theorem dX3_isTorn_17 : decode cX3_isTorn 17 = .ok (.iconst 0, 1) := by decide +kernel
theorem dX3_isTorn_18 : decode cX3_isTorn 18 = .ok (.ireturn, 1) := by decide +kernel
theorem dX3_tearOff_0 : decode cX3_tearOff 0 = .ok (.aload_n 0, 1) := by decide +kernel
theorem dX3_tearOff_1 : decode cX3_tearOff 1 = .ok (.dup, 1) := by decide +kernel
theorem dX3_tearOff_2 : decode cX3_tearOff 2 = .ok (.getfield 16, 3) := by decide +kernel
theorem dX3_tearOff_5 : decode cX3_tearOff 5 = .ok (.lconst 1, 1) := by decide +kernel
theorem dX3_tearOff_6 : decode cX3_tearOff 6 = .ok (.iload_n 1, 1) := by decide +kernel
theorem dX3_tearOff_7 : decode cX3_tearOff 7 = .ok (.lshl, 1) := by decide +kernel
theorem dX3_tearOff_8 : decode cX3_tearOff 8 = .ok (.lor, 1) := by decide +kernel
theorem dX3_tearOff_9 : decode cX3_tearOff 9 = .ok (.putfield 16, 3) := by decide +kernel
theorem dX3_tearOff_12 : decode cX3_tearOff 12 = .ok (.return_, 1) := by decide +kernel
theorem dX3_allParcels_0 : decode cX3_allParcels 0 = .ok (.lconst 1, 1) := by decide +kernel
theorem dX3_allParcels_1 : decode cX3_allParcels 1 = .ok (.aload_n 0, 1) := by decide +kernel
theorem dX3_allParcels_2 : decode cX3_allParcels 2 = .ok (.getfield 13, 3) := by decide +kernel
theorem dX3_allParcels_5 : decode cX3_allParcels 5 = .ok (.lshl, 1) := by decide +kernel
theorem dX3_allParcels_6 : decode cX3_allParcels 6 = .ok (.lconst 1, 1) := by decide +kernel
theorem dX3_allParcels_7 : decode cX3_allParcels 7 = .ok (.lsub, 1) := by decide +kernel
theorem dX3_allParcels_8 : decode cX3_allParcels 8 = .ok (.lreturn, 1) := by decide +kernel
theorem dX3_insert_0 : decode cX3_insert 0 = .ok (.aload_n 0, 1) := by decide +kernel
theorem dX3_insert_1 : decode cX3_insert 1 = .ok (.getfield 20, 3) := by decide +kernel
theorem dX3_insert_4 : decode cX3_insert 4 = .ok (.astore_n 2, 1) := by decide +kernel
theorem dX3_insert_5 : decode cX3_insert 5 = .ok (.aload_n 2, 1) := by decide +kernel
theorem dX3_insert_6 : decode cX3_insert 6 = .ok (.ifnull 28, 3) := by decide +kernel
theorem dX3_insert_9 : decode cX3_insert 9 = .ok (.aload_n 2, 1) := by decide +kernel
theorem dX3_insert_10 : decode cX3_insert 10 = .ok (.getfield 24, 3) := by decide +kernel
theorem dX3_insert_13 : decode cX3_insert 13 = .ok (.getfield 30, 3) := by decide +kernel
theorem dX3_insert_16 : decode cX3_insert 16 = .ok (.aload_n 1, 1) := by decide +kernel
theorem dX3_insert_17 : decode cX3_insert 17 = .ok (.getfield 24, 3) := by decide +kernel
theorem dX3_insert_20 : decode cX3_insert 20 = .ok (.getfield 30, 3) := by decide +kernel
theorem dX3_insert_23 : decode cX3_insert 23 = .ok (.if_icmp .le 11, 3) := by decide +kernel
theorem dX3_insert_26 : decode cX3_insert 26 = .ok (.aload_n 2, 1) := by decide +kernel
theorem dX3_insert_27 : decode cX3_insert 27 = .ok (.getfield 35, 3) := by decide +kernel
theorem dX3_insert_30 : decode cX3_insert 30 = .ok (.astore_n 2, 1) := by decide +kernel
theorem dX3_insert_31 : decode cX3_insert 31 = .ok (.goto (-26), 3) := by decide +kernel
theorem dX3_insert_34 : decode cX3_insert 34 = .ok (.aload_n 2, 1) := by decide +kernel
theorem dX3_insert_35 : decode cX3_insert 35 = .ok (.ifnonnull 10, 3) := by decide +kernel
theorem dX3_insert_38 : decode cX3_insert 38 = .ok (.aload_n 0, 1) := by decide +kernel
theorem dX3_insert_39 : decode cX3_insert 39 = .ok (.getfield 38, 3) := by decide +kernel
theorem dX3_insert_42 : decode cX3_insert 42 = .ok (.goto 7, 3) := by decide +kernel
theorem dX3_insert_45 : decode cX3_insert 45 = .ok (.aload_n 2, 1) := by decide +kernel
theorem dX3_insert_46 : decode cX3_insert 46 = .ok (.getfield 41, 3) := by decide +kernel
theorem dX3_insert_49 : decode cX3_insert 49 = .ok (.astore_n 3, 1) := by decide +kernel
theorem dX3_insert_50 : decode cX3_insert 50 = .ok (.aload_n 1, 1) := by decide +kernel
theorem dX3_insert_51 : decode cX3_insert 51 = .ok (.aload_n 2, 1) := by decide +kernel
theorem dX3_insert_52 : decode cX3_insert 52 = .ok (.putfield 35, 3) := by decide +kernel
theorem dX3_insert_55 : decode cX3_insert 55 = .ok (.aload_n 1, 1) := by decide +kernel
theorem dX3_insert_56 : decode cX3_insert 56 = .ok (.aload_n 3, 1) := by decide +kernel
theorem dX3_insert_57 : decode cX3_insert 57 = .ok (.putfield 41, 3) := by decide +kernel
theorem dX3_insert_60 : decode cX3_insert 60 = .ok (.aload_n 2, 1) := by decide +kernel
theorem dX3_insert_61 : decode cX3_insert 61 = .ok (.ifnonnull 11, 3) := by decide +kernel
theorem dX3_insert_64 : decode cX3_insert 64 = .ok (.aload_n 0, 1) := by decide +kernel
theorem dX3_insert_65 : decode cX3_insert 65 = .ok (.aload_n 1, 1) := by decide +kernel
theorem dX3_insert_66 : decode cX3_insert 66 = .ok (.putfield 38, 3) := by decide +kernel
theorem dX3_insert_69 : decode cX3_insert 69 = .ok (.goto 8, 3) := by decide +kernel
theorem dX3_insert_72 : decode cX3_insert 72 = .ok (.aload_n 2, 1) := by decide +kernel
theorem dX3_insert_73 : decode cX3_insert 73 = .ok (.aload_n 1, 1) := by decide +kernel
theorem dX3_insert_74 : decode cX3_insert 74 = .ok (.putfield 41, 3) := by decide +kernel
theorem dX3_insert_77 : decode cX3_insert 77 = .ok (.aload_n 3, 1) := by decide +kernel
theorem dX3_insert_78 : decode cX3_insert 78 = .ok (.ifnonnull 11, 3) := by decide +kernel
theorem dX3_insert_81 : decode cX3_insert 81 = .ok (.aload_n 0, 1) := by decide +kernel
theorem dX3_insert_82 : decode cX3_insert 82 = .ok (.aload_n 1, 1) := by decide +kernel
theorem dX3_insert_83 : decode cX3_insert 83 = .ok (.putfield 20, 3) := by decide +kernel
theorem dX3_insert_86 : decode cX3_insert 86 = .ok (.goto 8, 3) := by decide +kernel
theorem dX3_insert_89 : decode cX3_insert 89 = .ok (.aload_n 3, 1) := by decide +kernel
theorem dX3_insert_90 : decode cX3_insert 90 = .ok (.aload_n 1, 1) := by decide +kernel
theorem dX3_insert_91 : decode cX3_insert 91 = .ok (.putfield 35, 3) := by decide +kernel
theorem dX3_insert_94 : decode cX3_insert 94 = .ok (.return_, 1) := by decide +kernel
theorem dX4_init_0 : decode cX4_init 0 = .ok (.aload_n 0, 1) := by decide +kernel
theorem dX4_init_1 : decode cX4_init 1 = .ok (.invokespecial 1, 3) := by decide +kernel
theorem dX4_init_4 : decode cX4_init 4 = .ok (.aload_n 0, 1) := by decide +kernel
theorem dX4_init_5 : decode cX4_init 5 = .ok (.iload_n 1, 1) := by decide +kernel
theorem dX4_init_6 : decode cX4_init 6 = .ok (.putfield 7, 3) := by decide +kernel
theorem dX4_init_9 : decode cX4_init 9 = .ok (.aload_n 0, 1) := by decide +kernel
theorem dX4_init_10 : decode cX4_init 10 = .ok (.iload_n 2, 1) := by decide +kernel
theorem dX4_init_11 : decode cX4_init 11 = .ok (.putfield 13, 3) := by decide +kernel
theorem dX4_init_14 : decode cX4_init 14 = .ok (.return_, 1) := by decide +kernel
theorem dX5_init_0 : decode cX5_init 0 = .ok (.aload_n 0, 1) := by decide +kernel
theorem dX5_init_1 : decode cX5_init 1 = .ok (.invokespecial 1, 3) := by decide +kernel
theorem dX5_init_4 : decode cX5_init 4 = .ok (.aload_n 0, 1) := by decide +kernel
theorem dX5_init_5 : decode cX5_init 5 = .ok (.iload_n 1, 1) := by decide +kernel
theorem dX5_init_6 : decode cX5_init 6 = .ok (.putfield 7, 3) := by decide +kernel
theorem dX5_init_9 : decode cX5_init 9 = .ok (.aload_n 0, 1) := by decide +kernel
theorem dX5_init_10 : decode cX5_init 10 = .ok (.aload_n 2, 1) := by decide +kernel
theorem dX5_init_11 : decode cX5_init 11 = .ok (.putfield 13, 3) := by decide +kernel
theorem dX5_init_14 : decode cX5_init 14 = .ok (.aload_n 0, 1) := by decide +kernel
theorem dX5_init_15 : decode cX5_init 15 = .ok (.aload_n 3, 1) := by decide +kernel
theorem dX5_init_16 : decode cX5_init 16 = .ok (.putfield 17, 3) := by decide +kernel
theorem dX5_init_19 : decode cX5_init 19 = .ok (.aload_n 0, 1) := by decide +kernel
theorem dX5_init_20 : decode cX5_init 20 = .ok (.lload 4, 2) := by decide +kernel
theorem dX5_init_22 : decode cX5_init 22 = .ok (.putfield 20, 3) := by decide +kernel
theorem dX5_init_25 : decode cX5_init 25 = .ok (.aload_n 0, 1) := by decide +kernel
theorem dX5_init_26 : decode cX5_init 26 = .ok (.aload 6, 2) := by decide +kernel
theorem dX5_init_28 : decode cX5_init 28 = .ok (.putfield 24, 3) := by decide +kernel
theorem dX5_init_31 : decode cX5_init 31 = .ok (.return_, 1) := by decide +kernel
theorem dX5_countsOn_0 : decode cX5_countsOn 0 = .ok (.aload_n 0, 1) := by decide +kernel
theorem dX5_countsOn_1 : decode cX5_countsOn 1 = .ok (.getfield 13, 3) := by decide +kernel
theorem dX5_countsOn_4 : decode cX5_countsOn 4 = .ok (.getfield 28, 3) := by decide +kernel
theorem dX5_countsOn_7 : decode cX5_countsOn 7 = .ok (.getfield 34, 3) := by decide +kernel
theorem dX5_countsOn_10 : decode cX5_countsOn 10 = .ok (.aload_n 1, 1) := by decide +kernel
theorem dX5_countsOn_11 : decode cX5_countsOn 11 = .ok (.if_acmp .ne 53, 3) := by decide +kernel
theorem dX5_countsOn_14 : decode cX5_countsOn 14 = .ok (.aload_n 0, 1) := by decide +kernel
theorem dX5_countsOn_15 : decode cX5_countsOn 15 = .ok (.getfield 24, 3) := by decide +kernel
theorem dX5_countsOn_18 : decode cX5_countsOn 18 = .ok (.aload_n 3, 1) := by decide +kernel
theorem dX5_countsOn_19 : decode cX5_countsOn 19 = .ok (.invokestatic 40, 3) := by decide +kernel
theorem dX5_countsOn_22 : decode cX5_countsOn 22 = .ok (.ifCond .eq 42, 3) := by decide +kernel
theorem dX5_countsOn_25 : decode cX5_countsOn 25 = .ok (.aload_n 0, 1) := by decide +kernel
theorem dX5_countsOn_26 : decode cX5_countsOn 26 = .ok (.getfield 46, 3) := by decide +kernel
theorem dX5_countsOn_29 : decode cX5_countsOn 29 = .ok (.aload_n 3, 1) := by decide +kernel
theorem dX5_countsOn_30 : decode cX5_countsOn 30 = .ok (.invokestatic 40, 3) := by decide +kernel
theorem dX5_countsOn_33 : decode cX5_countsOn 33 = .ok (.ifCond .ne 31, 3) := by decide +kernel
theorem dX5_countsOn_36 : decode cX5_countsOn 36 = .ok (.aload_n 0, 1) := by decide +kernel
theorem dX5_countsOn_37 : decode cX5_countsOn 37 = .ok (.getfield 13, 3) := by decide +kernel
theorem dX5_countsOn_40 : decode cX5_countsOn 40 = .ok (.iload_n 2, 1) := by decide +kernel
theorem dX5_countsOn_41 : decode cX5_countsOn 41 = .ok (.aload_n 3, 1) := by decide +kernel
theorem dX5_countsOn_42 : decode cX5_countsOn 42 = .ok (.invokevirtual 49, 3) := by decide +kernel
theorem dX5_countsOn_45 : decode cX5_countsOn 45 = .ok (.ifCond .eq 19, 3) := by decide +kernel
theorem dX5_countsOn_48 : decode cX5_countsOn 48 = .ok (.aload_n 0, 1) := by decide +kernel
theorem dX5_countsOn_49 : decode cX5_countsOn 49 = .ok (.getfield 17, 3) := by decide +kernel
theorem dX5_countsOn_52 : decode cX5_countsOn 52 = .ok (.iload_n 2, 1) := by decide +kernel
theorem dX5_countsOn_53 : decode cX5_countsOn 53 = .ok (.aload_n 3, 1) := by decide +kernel
theorem dX5_countsOn_54 : decode cX5_countsOn 54 = .ok (.invokevirtual 49, 3) := by decide +kernel
theorem dX5_countsOn_57 : decode cX5_countsOn 57 = .ok (.ifCond .eq 7, 3) := by decide +kernel
theorem dX5_countsOn_60 : decode cX5_countsOn 60 = .ok (.iconst 1, 1) := by decide +kernel
theorem dX5_countsOn_61 : decode cX5_countsOn 61 = .ok (.goto 4, 3) := by decide +kernel
theorem dX5_countsOn_64 : decode cX5_countsOn 64 = .ok (.iconst 0, 1) := by decide +kernel
theorem dX5_countsOn_65 : decode cX5_countsOn 65 = .ok (.ireturn, 1) := by decide +kernel
theorem dX5_changePlaces_0 : decode cX5_changePlaces 0 = .ok (.aload_n 0, 1) := by decide +kernel
theorem dX5_changePlaces_1 : decode cX5_changePlaces 1 = .ok (.getfield 13, 3) := by decide +kernel
theorem dX5_changePlaces_4 : decode cX5_changePlaces 4 = .ok (.getfield 28, 3) := by decide +kernel
theorem dX5_changePlaces_7 : decode cX5_changePlaces 7 = .ok (.astore_n 1, 1) := by decide +kernel
theorem dX5_changePlaces_8 : decode cX5_changePlaces 8 = .ok (.aload_n 0, 1) := by decide +kernel
theorem dX5_changePlaces_9 : decode cX5_changePlaces 9 = .ok (.getfield 17, 3) := by decide +kernel
theorem dX5_changePlaces_12 : decode cX5_changePlaces 12 = .ok (.getfield 28, 3) := by decide +kernel
theorem dX5_changePlaces_15 : decode cX5_changePlaces 15 = .ok (.astore_n 2, 1) := by decide +kernel
theorem dX5_changePlaces_16 : decode cX5_changePlaces 16 = .ok (.aload_n 1, 1) := by decide +kernel
theorem dX5_changePlaces_17 : decode cX5_changePlaces 17 = .ok (.getfield 53, 3) := by decide +kernel
theorem dX5_changePlaces_20 : decode cX5_changePlaces 20 = .ok (.aload_n 2, 1) := by decide +kernel
theorem dX5_changePlaces_21 : decode cX5_changePlaces 21 = .ok (.getfield 53, 3) := by decide +kernel
theorem dX5_changePlaces_24 : decode cX5_changePlaces 24 = .ok (.if_icmp .lt 4, 3) := by decide +kernel
theorem dX5_changePlaces_27 : decode cX5_changePlaces 27 = .ok (.return_, 1) := by decide +kernel
theorem dX5_changePlaces_28 : decode cX5_changePlaces 28 = .ok (.aload_n 1, 1) := by decide +kernel
theorem dX5_changePlaces_29 : decode cX5_changePlaces 29 = .ok (.getfield 53, 3) := by decide +kernel
theorem dX5_changePlaces_32 : decode cX5_changePlaces 32 = .ok (.istore_n 3, 1) := by decide +kernel
theorem dX5_changePlaces_33 : decode cX5_changePlaces 33 = .ok (.aload_n 1, 1) := by decide +kernel
theorem dX5_changePlaces_34 : decode cX5_changePlaces 34 = .ok (.aload_n 2, 1) := by decide +kernel
theorem dX5_changePlaces_35 : decode cX5_changePlaces 35 = .ok (.getfield 53, 3) := by decide +kernel
theorem dX5_changePlaces_38 : decode cX5_changePlaces 38 = .ok (.putfield 53, 3) := by decide +kernel
theorem dX5_changePlaces_41 : decode cX5_changePlaces 41 = .ok (.aload_n 2, 1) := by decide +kernel
theorem dX5_changePlaces_42 : decode cX5_changePlaces 42 = .ok (.iload_n 3, 1) := by decide +kernel
theorem dX5_changePlaces_43 : decode cX5_changePlaces 43 = .ok (.putfield 53, 3) := by decide +kernel
theorem dX5_changePlaces_46 : decode cX5_changePlaces 46 = .ok (.aload_n 1, 1) := by decide +kernel
theorem dX5_changePlaces_47 : decode cX5_changePlaces 47 = .ok (.dup, 1) := by decide +kernel
theorem dX5_changePlaces_48 : decode cX5_changePlaces 48 = .ok (.getfield 56, 3) := by decide +kernel
theorem dX5_changePlaces_51 : decode cX5_changePlaces 51 = .ok (.iconst 1, 1) := by decide +kernel
theorem dX5_changePlaces_52 : decode cX5_changePlaces 52 = .ok (.iadd, 1) := by decide +kernel
theorem dX5_changePlaces_53 : decode cX5_changePlaces 53 = .ok (.putfield 56, 3) := by decide +kernel
theorem dX5_changePlaces_56 : decode cX5_changePlaces 56 = .ok (.aload_n 2, 1) := by decide +kernel
theorem dX5_changePlaces_57 : decode cX5_changePlaces 57 = .ok (.dup, 1) := by decide +kernel
theorem dX5_changePlaces_58 : decode cX5_changePlaces 58 = .ok (.getfield 56, 3) := by decide +kernel
theorem dX5_changePlaces_61 : decode cX5_changePlaces 61 = .ok (.iconst 1, 1) := by decide +kernel
theorem dX5_changePlaces_62 : decode cX5_changePlaces 62 = .ok (.iadd, 1) := by decide +kernel
theorem dX5_changePlaces_63 : decode cX5_changePlaces 63 = .ok (.putfield 56, 3) := by decide +kernel
theorem dX5_changePlaces_66 : decode cX5_changePlaces 66 = .ok (.return_, 1) := by decide +kernel
theorem dX6_init_0 : decode cX6_init 0 = .ok (.aload_n 0, 1) := by decide +kernel
theorem dX6_init_1 : decode cX6_init 1 = .ok (.invokespecial 3, 3) := by decide +kernel
theorem dX6_init_4 : decode cX6_init 4 = .ok (.aload_n 0, 1) := by decide +kernel
theorem dX6_init_5 : decode cX6_init 5 = .ok (.aload_n 1, 1) := by decide +kernel
theorem dX6_init_6 : decode cX6_init 6 = .ok (.putfield 9, 3) := by decide +kernel
theorem dX6_init_9 : decode cX6_init 9 = .ok (.aload_n 0, 1) := by decide +kernel
theorem dX6_init_10 : decode cX6_init 10 = .ok (.iload_n 2, 1) := by decide +kernel
theorem dX6_init_11 : decode cX6_init 11 = .ok (.putfield 15, 3) := by decide +kernel
theorem dX6_init_14 : decode cX6_init 14 = .ok (.aload_n 0, 1) := by decide +kernel
theorem dX6_init_15 : decode cX6_init 15 = .ok (.aload_n 3, 1) := by decide +kernel
theorem dX6_init_16 : decode cX6_init 16 = .ok (.putfield 19, 3) := by decide +kernel
theorem dX6_init_19 : decode cX6_init 19 = .ok (.aload_n 0, 1) := by decide +kernel
theorem dX6_init_20 : decode cX6_init 20 = .ok (.aload 4, 2) := by decide +kernel
theorem dX6_init_22 : decode cX6_init 22 = .ok (.putfield 23, 3) := by decide +kernel
theorem dX6_init_25 : decode cX6_init 25 = .ok (.return_, 1) := by decide +kernel
theorem dX6_arrange_0 : decode cX6_arrange 0 = .ok (.aload_n 0, 1) := by decide +kernel
theorem dX6_arrange_1 : decode cX6_arrange 1 = .ok (.getfield 9, 3) := by decide +kernel
theorem dX6_arrange_4 : decode cX6_arrange 4 = .ok (.getfield 27, 3) := by decide +kernel
theorem dX6_arrange_7 : decode cX6_arrange 7 = .ok (.astore_n 1, 1) := by decide +kernel
theorem dX6_arrange_8 : decode cX6_arrange 8 = .ok (.aload_n 1, 1) := by decide +kernel
theorem dX6_arrange_9 : decode cX6_arrange 9 = .ok (.ifnull 55, 3) := by decide +kernel
theorem dX6_arrange_12 : decode cX6_arrange 12 = .ok (.aload_n 1, 1) := by decide +kernel
theorem dX6_arrange_13 : decode cX6_arrange 13 = .ok (.aload_n 1, 1) := by decide +kernel
theorem dX6_arrange_14 : decode cX6_arrange 14 = .ok (.getfield 33, 3) := by decide +kernel
theorem dX6_arrange_17 : decode cX6_arrange 17 = .ok (.ifnull 25, 3) := by decide +kernel
theorem dX6_arrange_20 : decode cX6_arrange 20 = .ok (.aload_n 1, 1) := by decide +kernel
theorem dX6_arrange_21 : decode cX6_arrange 21 = .ok (.getfield 33, 3) := by decide +kernel
theorem dX6_arrange_24 : decode cX6_arrange 24 = .ok (.aload_n 0, 1) := by decide +kernel
theorem dX6_arrange_25 : decode cX6_arrange 25 = .ok (.getfield 15, 3) := by decide +kernel
theorem dX6_arrange_28 : decode cX6_arrange 28 = .ok (.aload_n 0, 1) := by decide +kernel
theorem dX6_arrange_29 : decode cX6_arrange 29 = .ok (.getfield 19, 3) := by decide +kernel
theorem dX6_arrange_32 : decode cX6_arrange 32 = .ok (.invokevirtual 39, 3) := by decide +kernel
theorem dX6_arrange_35 : decode cX6_arrange 35 = .ok (.ifCond .eq 7, 3) := by decide +kernel
theorem dX6_arrange_38 : decode cX6_arrange 38 = .ok (.iconst 1, 1) := by decide +kernel
theorem dX6_arrange_39 : decode cX6_arrange 39 = .ok (.goto 4, 3) := by decide +kernel
theorem dX6_arrange_42 : decode cX6_arrange 42 = .ok (.iconst 0, 1) := by decide +kernel
theorem dX6_arrange_43 : decode cX6_arrange 43 = .ok (.putfield 45, 3) := by decide +kernel
theorem dX6_arrange_46 : decode cX6_arrange 46 = .ok (.aload_n 1, 1) := by decide +kernel
theorem dX6_arrange_47 : decode cX6_arrange 47 = .ok (.iconst (-1), 1) := by decide +kernel
theorem dX6_arrange_48 : decode cX6_arrange 48 = .ok (.putfield 49, 3) := by decide +kernel
theorem dX6_arrange_51 : decode cX6_arrange 51 = .ok (.aload_n 1, 1) := by decide +kernel
theorem dX6_arrange_52 : decode cX6_arrange 52 = .ok (.iconst 0, 1) := by decide +kernel
theorem dX6_arrange_53 : decode cX6_arrange 53 = .ok (.putfield 52, 3) := by decide +kernel
theorem dX6_arrange_56 : decode cX6_arrange 56 = .ok (.aload_n 1, 1) := by decide +kernel
theorem dX6_arrange_57 : decode cX6_arrange 57 = .ok (.getfield 55, 3) := by decide +kernel
theorem dX6_arrange_60 : decode cX6_arrange 60 = .ok (.astore_n 1, 1) := by decide +kernel
theorem dX6_arrange_61 : decode cX6_arrange 61 = .ok (.goto (-53), 3) := by decide +kernel
theorem dX6_arrange_64 : decode cX6_arrange 64 = .ok (.aload_n 0, 1) := by decide +kernel
theorem dX6_arrange_65 : decode cX6_arrange 65 = .ok (.iconst 1, 1) := by decide +kernel
theorem dX6_arrange_66 : decode cX6_arrange 66 = .ok (.invokevirtual 58, 3) := by decide +kernel
theorem dX6_arrange_69 : decode cX6_arrange 69 = .ok (.aload_n 0, 1) := by decide +kernel
theorem dX6_arrange_70 : decode cX6_arrange 70 = .ok (.iconst 0, 1) := by decide +kernel
theorem dX6_arrange_71 : decode cX6_arrange 71 = .ok (.invokevirtual 58, 3) := by decide +kernel
theorem dX6_arrange_74 : decode cX6_arrange 74 = .ok (.aload_n 0, 1) := by decide +kernel
theorem dX6_arrange_75 : decode cX6_arrange 75 = .ok (.getfield 23, 3) := by decide +kernel
theorem dX6_arrange_78 : decode cX6_arrange 78 = .ok (.astore_n 1, 1) := by decide +kernel
theorem dX6_arrange_79 : decode cX6_arrange 79 = .ok (.aload_n 1, 1) := by decide +kernel
theorem dX6_arrange_80 : decode cX6_arrange 80 = .ok (.ifnull 34, 3) := by decide +kernel
theorem dX6_arrange_83 : decode cX6_arrange 83 = .ok (.aload_n 1, 1) := by decide +kernel
theorem dX6_arrange_84 : decode cX6_arrange 84 = .ok (.aload_n 0, 1) := by decide +kernel
theorem dX6_arrange_85 : decode cX6_arrange 85 = .ok (.getfield 9, 3) := by decide +kernel
theorem dX6_arrange_88 : decode cX6_arrange 88 = .ok (.aload_n 0, 1) := by decide +kernel
theorem dX6_arrange_89 : decode cX6_arrange 89 = .ok (.getfield 15, 3) := by decide +kernel
theorem dX6_arrange_92 : decode cX6_arrange 92 = .ok (.aload_n 0, 1) := by decide +kernel
theorem dX6_arrange_93 : decode cX6_arrange 93 = .ok (.getfield 19, 3) := by decide +kernel
theorem dX6_arrange_96 : decode cX6_arrange 96 = .ok (.invokevirtual 62, 3) := by decide +kernel
theorem dX6_arrange_99 : decode cX6_arrange 99 = .ok (.ifCond .eq 7, 3) := by decide +kernel
theorem dX6_arrange_102 : decode cX6_arrange 102 = .ok (.aload_n 1, 1) := by decide +kernel
theorem dX6_arrange_103 : decode cX6_arrange 103 = .ok (.invokevirtual 68, 3) := by decide +kernel
theorem dX6_arrange_106 : decode cX6_arrange 106 = .ok (.aload_n 1, 1) := by decide +kernel
theorem dX6_arrange_107 : decode cX6_arrange 107 = .ok (.getfield 71, 3) := by decide +kernel
theorem dX6_arrange_110 : decode cX6_arrange 110 = .ok (.astore_n 1, 1) := by decide +kernel
theorem dX6_arrange_111 : decode cX6_arrange 111 = .ok (.goto (-32), 3) := by decide +kernel
theorem dX6_arrange_114 : decode cX6_arrange 114 = .ok (.return_, 1) := by decide +kernel
theorem dX6_rankPlaces_0 : decode cX6_rankPlaces 0 = .ok (.aload_n 0, 1) := by decide +kernel
theorem dX6_rankPlaces_1 : decode cX6_rankPlaces 1 = .ok (.getfield 9, 3) := by decide +kernel
theorem dX6_rankPlaces_4 : decode cX6_rankPlaces 4 = .ok (.getfield 27, 3) := by decide +kernel
theorem dX6_rankPlaces_7 : decode cX6_rankPlaces 7 = .ok (.astore_n 2, 1) := by decide +kernel
theorem dX6_rankPlaces_8 : decode cX6_rankPlaces 8 = .ok (.aload_n 2, 1) := by decide +kernel
theorem dX6_rankPlaces_9 : decode cX6_rankPlaces 9 = .ok (.ifnull 48, 3) := by decide +kernel
theorem dX6_rankPlaces_12 : decode cX6_rankPlaces 12 = .ok (.aload_n 0, 1) := by decide +kernel
theorem dX6_rankPlaces_13 : decode cX6_rankPlaces 13 = .ok (.aload_n 2, 1) := by decide +kernel
theorem dX6_rankPlaces_14 : decode cX6_rankPlaces 14 = .ok (.iload_n 1, 1) := by decide +kernel
theorem dX6_rankPlaces_15 : decode cX6_rankPlaces 15 = .ok (.invokevirtual 73, 3) := by decide +kernel
theorem dX6_rankPlaces_18 : decode cX6_rankPlaces 18 = .ok (.astore_n 3, 1) := by decide +kernel
theorem dX6_rankPlaces_19 : decode cX6_rankPlaces 19 = .ok (.aload_n 3, 1) := by decide +kernel
theorem dX6_rankPlaces_20 : decode cX6_rankPlaces 20 = .ok (.ifnull 29, 3) := by decide +kernel
theorem dX6_rankPlaces_23 : decode cX6_rankPlaces 23 = .ok (.aload_n 3, 1) := by decide +kernel
theorem dX6_rankPlaces_24 : decode cX6_rankPlaces 24 = .ok (.getfield 49, 3) := by decide +kernel
theorem dX6_rankPlaces_27 : decode cX6_rankPlaces 27 = .ok (.iconst (-1), 1) := by decide +kernel
theorem dX6_rankPlaces_28 : decode cX6_rankPlaces 28 = .ok (.if_icmp .ne 21, 3) := by decide +kernel
theorem dX6_rankPlaces_31 : decode cX6_rankPlaces 31 = .ok (.aload_n 3, 1) := by decide +kernel
theorem dX6_rankPlaces_32 : decode cX6_rankPlaces 32 = .ok (.aload_n 0, 1) := by decide +kernel
theorem dX6_rankPlaces_33 : decode cX6_rankPlaces 33 = .ok (.getfield 77, 3) := by decide +kernel
theorem dX6_rankPlaces_36 : decode cX6_rankPlaces 36 = .ok (.putfield 49, 3) := by decide +kernel
theorem dX6_rankPlaces_39 : decode cX6_rankPlaces 39 = .ok (.aload_n 0, 1) := by decide +kernel
theorem dX6_rankPlaces_40 : decode cX6_rankPlaces 40 = .ok (.dup, 1) := by decide +kernel
theorem dX6_rankPlaces_41 : decode cX6_rankPlaces 41 = .ok (.getfield 77, 3) := by decide +kernel
theorem dX6_rankPlaces_44 : decode cX6_rankPlaces 44 = .ok (.iconst 1, 1) := by decide +kernel
theorem dX6_rankPlaces_45 : decode cX6_rankPlaces 45 = .ok (.iadd, 1) := by decide +kernel
theorem dX6_rankPlaces_46 : decode cX6_rankPlaces 46 = .ok (.putfield 77, 3) := by decide +kernel
theorem dX6_rankPlaces_49 : decode cX6_rankPlaces 49 = .ok (.aload_n 2, 1) := by decide +kernel
theorem dX6_rankPlaces_50 : decode cX6_rankPlaces 50 = .ok (.getfield 55, 3) := by decide +kernel
theorem dX6_rankPlaces_53 : decode cX6_rankPlaces 53 = .ok (.astore_n 2, 1) := by decide +kernel
theorem dX6_rankPlaces_54 : decode cX6_rankPlaces 54 = .ok (.goto (-46), 3) := by decide +kernel
theorem dX6_rankPlaces_57 : decode cX6_rankPlaces 57 = .ok (.return_, 1) := by decide +kernel
theorem dX6_placedBy_0 : decode cX6_placedBy 0 = .ok (.aload_n 1, 1) := by decide +kernel
theorem dX6_placedBy_1 : decode cX6_placedBy 1 = .ok (.getfield 45, 3) := by decide +kernel
theorem dX6_placedBy_4 : decode cX6_placedBy 4 = .ok (.ifCond .ne 5, 3) := by decide +kernel
theorem dX6_placedBy_7 : decode cX6_placedBy 7 = .ok (.aconst_null, 1) := by decide +kernel
theorem dX6_placedBy_8 : decode cX6_placedBy 8 = .ok (.areturn, 1) := by decide +kernel
theorem dX6_placedBy_9 : decode cX6_placedBy 9 = .ok (.aload_n 1, 1) := by decide +kernel
theorem dX6_placedBy_10 : decode cX6_placedBy 10 = .ok (.getfield 80, 3) := by decide +kernel
theorem dX6_placedBy_13 : decode cX6_placedBy 13 = .ok (.getfield 84, 3) := by decide +kernel
theorem dX6_placedBy_16 : decode cX6_placedBy 16 = .ok (.bipush 6, 2) := by decide +kernel
theorem dX6_placedBy_18 : decode cX6_placedBy 18 = .ok (.if_icmp .eq 24, 3) := by decide +kernel
theorem dX6_placedBy_21 : decode cX6_placedBy 21 = .ok (.aload_n 1, 1) := by decide +kernel
theorem dX6_placedBy_22 : decode cX6_placedBy 22 = .ok (.getfield 80, 3) := by decide +kernel
theorem dX6_placedBy_25 : decode cX6_placedBy 25 = .ok (.aload_n 0, 1) := by decide +kernel
theorem dX6_placedBy_26 : decode cX6_placedBy 26 = .ok (.getfield 19, 3) := by decide +kernel
theorem dX6_placedBy_29 : decode cX6_placedBy 29 = .ok (.invokevirtual 89, 3) := by decide +kernel
theorem dX6_placedBy_32 : decode cX6_placedBy 32 = .ok (.iload_n 2, 1) := by decide +kernel
theorem dX6_placedBy_33 : decode cX6_placedBy 33 = .ok (.if_icmp .ne 7, 3) := by decide +kernel
theorem dX6_placedBy_36 : decode cX6_placedBy 36 = .ok (.aload_n 1, 1) := by decide +kernel
theorem dX6_placedBy_37 : decode cX6_placedBy 37 = .ok (.goto 4, 3) := by decide +kernel
theorem dX6_placedBy_40 : decode cX6_placedBy 40 = .ok (.aconst_null, 1) := by decide +kernel
theorem dX6_placedBy_41 : decode cX6_placedBy 41 = .ok (.areturn, 1) := by decide +kernel
theorem dX6_placedBy_42 : decode cX6_placedBy 42 = .ok (.iload_n 2, 1) := by decide +kernel
theorem dX6_placedBy_43 : decode cX6_placedBy 43 = .ok (.ifCond .ne 17, 3) := by decide +kernel
theorem dX6_placedBy_46 : decode cX6_placedBy 46 = .ok (.aload_n 1, 1) := by decide +kernel
theorem dX6_placedBy_47 : decode cX6_placedBy 47 = .ok (.getfield 93, 3) := by decide +kernel
theorem dX6_placedBy_50 : decode cX6_placedBy 50 = .ok (.aload_n 0, 1) := by decide +kernel
theorem dX6_placedBy_51 : decode cX6_placedBy 51 = .ok (.getfield 19, 3) := by decide +kernel
theorem dX6_placedBy_54 : decode cX6_placedBy 54 = .ok (.invokestatic 97, 3) := by decide +kernel
theorem dX6_placedBy_57 : decode cX6_placedBy 57 = .ok (.ifCond .ne 5, 3) := by decide +kernel
theorem dX6_placedBy_60 : decode cX6_placedBy 60 = .ok (.aconst_null, 1) := by decide +kernel
theorem dX6_placedBy_61 : decode cX6_placedBy 61 = .ok (.areturn, 1) := by decide +kernel
theorem dX6_placedBy_62 : decode cX6_placedBy 62 = .ok (.aload_n 1, 1) := by decide +kernel
theorem dX6_placedBy_63 : decode cX6_placedBy 63 = .ok (.getfield 103, 3) := by decide +kernel
theorem dX6_placedBy_66 : decode cX6_placedBy 66 = .ok (.astore_n 3, 1) := by decide +kernel
theorem dX6_placedBy_67 : decode cX6_placedBy 67 = .ok (.aload_n 3, 1) := by decide +kernel
theorem dX6_placedBy_68 : decode cX6_placedBy 68 = .ok (.ifnull 14, 3) := by decide +kernel
theorem dX6_placedBy_71 : decode cX6_placedBy 71 = .ok (.aload_n 3, 1) := by decide +kernel
theorem dX6_placedBy_72 : decode cX6_placedBy 72 = .ok (.getfield 45, 3) := by decide +kernel
theorem dX6_placedBy_75 : decode cX6_placedBy 75 = .ok (.ifCond .eq 7, 3) := by decide +kernel
theorem dX6_placedBy_78 : decode cX6_placedBy 78 = .ok (.aload_n 3, 1) := by decide +kernel
theorem dX6_placedBy_79 : decode cX6_placedBy 79 = .ok (.goto 4, 3) := by decide +kernel
theorem dX6_placedBy_82 : decode cX6_placedBy 82 = .ok (.aconst_null, 1) := by decide +kernel
theorem dX6_placedBy_83 : decode cX6_placedBy 83 = .ok (.areturn, 1) := by decide +kernel
theorem dX6_wholeAt_0 : decode cX6_wholeAt 0 = .ok (.aload_n 0, 1) := by decide +kernel
theorem dX6_wholeAt_1 : decode cX6_wholeAt 1 = .ok (.getfield 9, 3) := by decide +kernel
theorem dX6_wholeAt_4 : decode cX6_wholeAt 4 = .ok (.getfield 27, 3) := by decide +kernel
theorem dX6_wholeAt_7 : decode cX6_wholeAt 7 = .ok (.astore_n 2, 1) := by decide +kernel
theorem dX6_wholeAt_8 : decode cX6_wholeAt 8 = .ok (.aload_n 2, 1) := by decide +kernel
theorem dX6_wholeAt_9 : decode cX6_wholeAt 9 = .ok (.ifnull 29, 3) := by decide +kernel
theorem dX6_wholeAt_12 : decode cX6_wholeAt 12 = .ok (.aload_n 2, 1) := by decide +kernel
theorem dX6_wholeAt_13 : decode cX6_wholeAt 13 = .ok (.getfield 49, 3) := by decide +kernel
theorem dX6_wholeAt_16 : decode cX6_wholeAt 16 = .ok (.iconst (-1), 1) := by decide +kernel
theorem dX6_wholeAt_17 : decode cX6_wholeAt 17 = .ok (.if_icmp .eq 13, 3) := by decide +kernel
theorem dX6_wholeAt_20 : decode cX6_wholeAt 20 = .ok (.aload_n 2, 1) := by decide +kernel
theorem dX6_wholeAt_21 : decode cX6_wholeAt 21 = .ok (.getfield 49, 3) := by decide +kernel
theorem dX6_wholeAt_24 : decode cX6_wholeAt 24 = .ok (.iload_n 1, 1) := by decide +kernel
theorem dX6_wholeAt_25 : decode cX6_wholeAt 25 = .ok (.if_icmp .ne 5, 3) := by decide +kernel
theorem dX6_wholeAt_28 : decode cX6_wholeAt 28 = .ok (.aload_n 2, 1) := by decide +kernel
theorem dX6_wholeAt_29 : decode cX6_wholeAt 29 = .ok (.areturn, 1) := by decide +kernel
theorem dX6_wholeAt_30 : decode cX6_wholeAt 30 = .ok (.aload_n 2, 1) := by decide +kernel
theorem dX6_wholeAt_31 : decode cX6_wholeAt 31 = .ok (.getfield 55, 3) := by decide +kernel
theorem dX6_wholeAt_34 : decode cX6_wholeAt 34 = .ok (.astore_n 2, 1) := by decide +kernel
theorem dX6_wholeAt_35 : decode cX6_wholeAt 35 = .ok (.goto (-27), 3) := by decide +kernel
theorem dX6_wholeAt_38 : decode cX6_wholeAt 38 = .ok (.aconst_null, 1) := by decide +kernel
theorem dX6_wholeAt_39 : decode cX6_wholeAt 39 = .ok (.areturn, 1) := by decide +kernel
theorem dX7_init_0 : decode cX7_init 0 = .ok (.aload_n 0, 1) := by decide +kernel
theorem dX7_init_1 : decode cX7_init 1 = .ok (.invokespecial 3, 3) := by decide +kernel
theorem dX7_init_4 : decode cX7_init 4 = .ok (.aload_n 0, 1) := by decide +kernel
theorem dX7_init_5 : decode cX7_init 5 = .ok (.aload_n 1, 1) := by decide +kernel
theorem dX7_init_6 : decode cX7_init 6 = .ok (.putfield 9, 3) := by decide +kernel
theorem dX7_init_9 : decode cX7_init 9 = .ok (.aload_n 0, 1) := by decide +kernel
theorem dX7_init_10 : decode cX7_init 10 = .ok (.lload_n 2, 1) := by decide +kernel
theorem dX7_init_11 : decode cX7_init 11 = .ok (.putfield 15, 3) := by decide +kernel
theorem dX7_init_14 : decode cX7_init 14 = .ok (.return_, 1) := by decide +kernel
theorem dX7_distribute_0 : decode cX7_distribute 0 = .ok (.aload_n 0, 1) := by decide +kernel
theorem dX7_distribute_1 : decode cX7_distribute 1 = .ok (.getfield 9, 3) := by decide +kernel
theorem dX7_distribute_4 : decode cX7_distribute 4 = .ok (.getfield 19, 3) := by decide +kernel
theorem dX7_distribute_7 : decode cX7_distribute 7 = .ok (.getfield 25, 3) := by decide +kernel
theorem dX7_distribute_10 : decode cX7_distribute 10 = .ok (.astore_n 1, 1) := by decide +kernel
theorem dX7_distribute_11 : decode cX7_distribute 11 = .ok (.aload_n 1, 1) := by decide +kernel
theorem dX7_distribute_12 : decode cX7_distribute 12 = .ok (.ifnull 24, 3) := by decide +kernel
theorem dX7_distribute_15 : decode cX7_distribute 15 = .ok (.aload_n 1, 1) := by decide +kernel
theorem dX7_distribute_16 : decode cX7_distribute 16 = .ok (.getfield 31, 3) := by decide +kernel
theorem dX7_distribute_19 : decode cX7_distribute 19 = .ok (.iconst (-1), 1) := by decide +kernel
theorem dX7_distribute_20 : decode cX7_distribute 20 = .ok (.if_icmp .eq 8, 3) := by decide +kernel
theorem dX7_distribute_23 : decode cX7_distribute 23 = .ok (.aload_n 0, 1) := by decide +kernel
theorem dX7_distribute_24 : decode cX7_distribute 24 = .ok (.aload_n 1, 1) := by decide +kernel
theorem dX7_distribute_25 : decode cX7_distribute 25 = .ok (.invokevirtual 37, 3) := by decide +kernel
theorem dX7_distribute_28 : decode cX7_distribute 28 = .ok (.aload_n 1, 1) := by decide +kernel
theorem dX7_distribute_29 : decode cX7_distribute 29 = .ok (.getfield 41, 3) := by decide +kernel
theorem dX7_distribute_32 : decode cX7_distribute 32 = .ok (.astore_n 1, 1) := by decide +kernel
theorem dX7_distribute_33 : decode cX7_distribute 33 = .ok (.goto (-22), 3) := by decide +kernel
theorem dX7_distribute_36 : decode cX7_distribute 36 = .ok (.aload_n 0, 1) := by decide +kernel
theorem dX7_distribute_37 : decode cX7_distribute 37 = .ok (.iconst 1, 1) := by decide +kernel
theorem dX7_distribute_38 : decode cX7_distribute 38 = .ok (.invokevirtual 44, 3) := by decide +kernel
theorem dX7_distribute_41 : decode cX7_distribute 41 = .ok (.aload_n 0, 1) := by decide +kernel
theorem dX7_distribute_42 : decode cX7_distribute 42 = .ok (.iconst 0, 1) := by decide +kernel
theorem dX7_distribute_43 : decode cX7_distribute 43 = .ok (.invokevirtual 44, 3) := by decide +kernel
theorem dX7_distribute_46 : decode cX7_distribute 46 = .ok (.aload_n 0, 1) := by decide +kernel
theorem dX7_distribute_47 : decode cX7_distribute 47 = .ok (.getfield 9, 3) := by decide +kernel
theorem dX7_distribute_50 : decode cX7_distribute 50 = .ok (.getfield 48, 3) := by decide +kernel
theorem dX7_distribute_53 : decode cX7_distribute 53 = .ok (.astore_n 1, 1) := by decide +kernel
theorem dX7_distribute_54 : decode cX7_distribute 54 = .ok (.aload_n 1, 1) := by decide +kernel
theorem dX7_distribute_55 : decode cX7_distribute 55 = .ok (.ifnull 43, 3) := by decide +kernel
theorem dX7_distribute_58 : decode cX7_distribute 58 = .ok (.aload_n 1, 1) := by decide +kernel
theorem dX7_distribute_59 : decode cX7_distribute 59 = .ok (.aload_n 0, 1) := by decide +kernel
theorem dX7_distribute_60 : decode cX7_distribute 60 = .ok (.getfield 9, 3) := by decide +kernel
theorem dX7_distribute_63 : decode cX7_distribute 63 = .ok (.getfield 19, 3) := by decide +kernel
theorem dX7_distribute_66 : decode cX7_distribute 66 = .ok (.aload_n 0, 1) := by decide +kernel
theorem dX7_distribute_67 : decode cX7_distribute 67 = .ok (.getfield 9, 3) := by decide +kernel
theorem dX7_distribute_70 : decode cX7_distribute 70 = .ok (.getfield 52, 3) := by decide +kernel
theorem dX7_distribute_73 : decode cX7_distribute 73 = .ok (.aload_n 0, 1) := by decide +kernel
theorem dX7_distribute_74 : decode cX7_distribute 74 = .ok (.getfield 9, 3) := by decide +kernel
theorem dX7_distribute_77 : decode cX7_distribute 77 = .ok (.getfield 55, 3) := by decide +kernel
theorem dX7_distribute_80 : decode cX7_distribute 80 = .ok (.invokevirtual 59, 3) := by decide +kernel
theorem dX7_distribute_83 : decode cX7_distribute 83 = .ok (.ifCond .eq 7, 3) := by decide +kernel
theorem dX7_distribute_86 : decode cX7_distribute 86 = .ok (.aload_n 1, 1) := by decide +kernel
theorem dX7_distribute_87 : decode cX7_distribute 87 = .ok (.invokestatic 65, 3) := by decide +kernel
theorem dX7_distribute_90 : decode cX7_distribute 90 = .ok (.aload_n 1, 1) := by decide +kernel
theorem dX7_distribute_91 : decode cX7_distribute 91 = .ok (.getfield 69, 3) := by decide +kernel
theorem dX7_distribute_94 : decode cX7_distribute 94 = .ok (.astore_n 1, 1) := by decide +kernel
theorem dX7_distribute_95 : decode cX7_distribute 95 = .ok (.goto (-41), 3) := by decide +kernel
theorem dX7_distribute_98 : decode cX7_distribute 98 = .ok (.aload_n 0, 1) := by decide +kernel
theorem dX7_distribute_99 : decode cX7_distribute 99 = .ok (.getfield 9, 3) := by decide +kernel
theorem dX7_distribute_102 : decode cX7_distribute 102 = .ok (.getfield 19, 3) := by decide +kernel
theorem dX7_distribute_105 : decode cX7_distribute 105 = .ok (.getfield 25, 3) := by decide +kernel
theorem dX7_distribute_108 : decode cX7_distribute 108 = .ok (.astore_n 1, 1) := by decide +kernel
theorem dX7_distribute_109 : decode cX7_distribute 109 = .ok (.aload_n 1, 1) := by decide +kernel
theorem dX7_distribute_110 : decode cX7_distribute 110 = .ok (.ifnull 23, 3) := by decide +kernel
theorem dX7_distribute_113 : decode cX7_distribute 113 = .ok (.aload_n 1, 1) := by decide +kernel
theorem dX7_distribute_114 : decode cX7_distribute 114 = .ok (.getfield 31, 3) := by decide +kernel
theorem dX7_distribute_117 : decode cX7_distribute 117 = .ok (.iconst (-1), 1) := by decide +kernel
theorem dX7_distribute_118 : decode cX7_distribute 118 = .ok (.if_icmp .eq 7, 3) := by decide +kernel
theorem dX7_distribute_121 : decode cX7_distribute 121 = .ok (.aload_n 1, 1) := by decide +kernel
theorem dX7_distribute_122 : decode cX7_distribute 122 = .ok (.invokestatic 71, 3) := by decide +kernel
theorem dX7_distribute_125 : decode cX7_distribute 125 = .ok (.aload_n 1, 1) := by decide +kernel
theorem dX7_distribute_126 : decode cX7_distribute 126 = .ok (.getfield 41, 3) := by decide +kernel
theorem dX7_distribute_129 : decode cX7_distribute 129 = .ok (.astore_n 1, 1) := by decide +kernel
theorem dX7_distribute_130 : decode cX7_distribute 130 = .ok (.goto (-21), 3) := by decide +kernel
theorem dX7_distribute_133 : decode cX7_distribute 133 = .ok (.return_, 1) := by decide +kernel
theorem dX7_makeReady_0 : decode cX7_makeReady 0 = .ok (.aload_n 1, 1) := by decide +kernel
theorem dX7_makeReady_1 : decode cX7_makeReady 1 = .ok (.aload_n 0, 1) := by decide +kernel
theorem dX7_makeReady_2 : decode cX7_makeReady 2 = .ok (.getfield 9, 3) := by decide +kernel
theorem dX7_makeReady_5 : decode cX7_makeReady 5 = .ok (.getfield 55, 3) := by decide +kernel
theorem dX7_makeReady_8 : decode cX7_makeReady 8 = .ok (.getfield 74, 3) := by decide +kernel
theorem dX7_makeReady_11 : decode cX7_makeReady 11 = .ok (.invokevirtual 79, 3) := by decide +kernel
theorem dX7_makeReady_14 : decode cX7_makeReady 14 = .ok (.aload_n 1, 1) := by decide +kernel
theorem dX7_makeReady_15 : decode cX7_makeReady 15 = .ok (.getfield 83, 3) := by decide +kernel
theorem dX7_makeReady_18 : decode cX7_makeReady 18 = .ok (.astore_n 2, 1) := by decide +kernel
theorem dX7_makeReady_19 : decode cX7_makeReady 19 = .ok (.aload_n 2, 1) := by decide +kernel
theorem dX7_makeReady_20 : decode cX7_makeReady 20 = .ok (.ifnull 42, 3) := by decide +kernel
theorem dX7_makeReady_23 : decode cX7_makeReady 23 = .ok (.aload_n 2, 1) := by decide +kernel
theorem dX7_makeReady_24 : decode cX7_makeReady 24 = .ok (.lconst 0, 1) := by decide +kernel
theorem dX7_makeReady_25 : decode cX7_makeReady 25 = .ok (.putfield 87, 3) := by decide +kernel
theorem dX7_makeReady_28 : decode cX7_makeReady 28 = .ok (.aload_n 2, 1) := by decide +kernel
theorem dX7_makeReady_29 : decode cX7_makeReady 29 = .ok (.aload_n 0, 1) := by decide +kernel
theorem dX7_makeReady_30 : decode cX7_makeReady 30 = .ok (.getfield 9, 3) := by decide +kernel
theorem dX7_makeReady_33 : decode cX7_makeReady 33 = .ok (.getfield 52, 3) := by decide +kernel
theorem dX7_makeReady_36 : decode cX7_makeReady 36 = .ok (.aload_n 0, 1) := by decide +kernel
theorem dX7_makeReady_37 : decode cX7_makeReady 37 = .ok (.getfield 9, 3) := by decide +kernel
theorem dX7_makeReady_40 : decode cX7_makeReady 40 = .ok (.getfield 55, 3) := by decide +kernel
theorem dX7_makeReady_43 : decode cX7_makeReady 43 = .ok (.invokevirtual 92, 3) := by decide +kernel
theorem dX7_makeReady_46 : decode cX7_makeReady 46 = .ok (.ifCond .eq 8, 3) := by decide +kernel
theorem dX7_makeReady_49 : decode cX7_makeReady 49 = .ok (.aload_n 2, 1) := by decide +kernel
theorem dX7_makeReady_50 : decode cX7_makeReady 50 = .ok (.lconst 0, 1) := by decide +kernel
theorem dX7_makeReady_51 : decode cX7_makeReady 51 = .ok (.putfield 96, 3) := by decide +kernel
theorem dX7_makeReady_54 : decode cX7_makeReady 54 = .ok (.aload_n 2, 1) := by decide +kernel
theorem dX7_makeReady_55 : decode cX7_makeReady 55 = .ok (.getfield 99, 3) := by decide +kernel
theorem dX7_makeReady_58 : decode cX7_makeReady 58 = .ok (.astore_n 2, 1) := by decide +kernel
theorem dX7_makeReady_59 : decode cX7_makeReady 59 = .ok (.goto (-40), 3) := by decide +kernel
theorem dX7_makeReady_62 : decode cX7_makeReady 62 = .ok (.return_, 1) := by decide +kernel
theorem dX7_payPlaces_0 : decode cX7_payPlaces 0 = .ok (.aload_n 0, 1) := by decide +kernel
theorem dX7_payPlaces_1 : decode cX7_payPlaces 1 = .ok (.getfield 9, 3) := by decide +kernel
theorem dX7_payPlaces_4 : decode cX7_payPlaces 4 = .ok (.getfield 19, 3) := by decide +kernel
theorem dX7_payPlaces_7 : decode cX7_payPlaces 7 = .ok (.getfield 25, 3) := by decide +kernel
theorem dX7_payPlaces_10 : decode cX7_payPlaces 10 = .ok (.astore_n 2, 1) := by decide +kernel
theorem dX7_payPlaces_11 : decode cX7_payPlaces 11 = .ok (.aload_n 2, 1) := by decide +kernel
theorem dX7_payPlaces_12 : decode cX7_payPlaces 12 = .ok (.ifnull 76, 3) := by decide +kernel
theorem dX7_payPlaces_15 : decode cX7_payPlaces 15 = .ok (.aload_n 0, 1) := by decide +kernel
theorem dX7_payPlaces_16 : decode cX7_payPlaces 16 = .ok (.getfield 9, 3) := by decide +kernel
theorem dX7_payPlaces_19 : decode cX7_payPlaces 19 = .ok (.aload_n 2, 1) := by decide +kernel
theorem dX7_payPlaces_20 : decode cX7_payPlaces 20 = .ok (.iload_n 1, 1) := by decide +kernel
theorem dX7_payPlaces_21 : decode cX7_payPlaces 21 = .ok (.invokevirtual 102, 3) := by decide +kernel
theorem dX7_payPlaces_24 : decode cX7_payPlaces 24 = .ok (.astore_n 3, 1) := by decide +kernel
theorem dX7_payPlaces_25 : decode cX7_payPlaces 25 = .ok (.aload_n 3, 1) := by decide +kernel
theorem dX7_payPlaces_26 : decode cX7_payPlaces 26 = .ok (.ifnull 54, 3) := by decide +kernel
theorem dX7_payPlaces_29 : decode cX7_payPlaces 29 = .ok (.aload_n 3, 1) := by decide +kernel
theorem dX7_payPlaces_30 : decode cX7_payPlaces 30 = .ok (.getfield 106, 3) := by decide +kernel
theorem dX7_payPlaces_33 : decode cX7_payPlaces 33 = .ok (.ifnull 47, 3) := by decide +kernel
theorem dX7_payPlaces_36 : decode cX7_payPlaces 36 = .ok (.aload_n 3, 1) := by decide +kernel
theorem dX7_payPlaces_37 : decode cX7_payPlaces 37 = .ok (.aload_n 2, 1) := by decide +kernel
theorem dX7_payPlaces_38 : decode cX7_payPlaces 38 = .ok (.if_acmp .ne 10, 3) := by decide +kernel
theorem dX7_payPlaces_41 : decode cX7_payPlaces 41 = .ok (.aload_n 0, 1) := by decide +kernel
theorem dX7_payPlaces_42 : decode cX7_payPlaces 42 = .ok (.getfield 15, 3) := by decide +kernel
theorem dX7_payPlaces_45 : decode cX7_payPlaces 45 = .ok (.goto 15, 3) := by decide +kernel
theorem dX7_payPlaces_48 : decode cX7_payPlaces 48 = .ok (.aload_n 0, 1) := by decide +kernel
theorem dX7_payPlaces_49 : decode cX7_payPlaces 49 = .ok (.getfield 15, 3) := by decide +kernel
theorem dX7_payPlaces_52 : decode cX7_payPlaces 52 = .ok (.aload_n 2, 1) := by decide +kernel
theorem dX7_payPlaces_53 : decode cX7_payPlaces 53 = .ok (.aconst_null, 1) := by decide +kernel
theorem dX7_payPlaces_54 : decode cX7_payPlaces 54 = .ok (.invokevirtual 109, 3) := by decide +kernel
theorem dX7_payPlaces_57 : decode cX7_payPlaces 57 = .ok (.invokestatic 113, 3) := by decide +kernel
theorem dX7_payPlaces_60 : decode cX7_payPlaces 60 = .ok (.lstore 4, 2) := by decide +kernel
theorem dX7_payPlaces_62 : decode cX7_payPlaces 62 = .ok (.aload_n 0, 1) := by decide +kernel
theorem dX7_payPlaces_63 : decode cX7_payPlaces 63 = .ok (.dup, 1) := by decide +kernel
theorem dX7_payPlaces_64 : decode cX7_payPlaces 64 = .ok (.getfield 15, 3) := by decide +kernel
theorem dX7_payPlaces_67 : decode cX7_payPlaces 67 = .ok (.aload_n 3, 1) := by decide +kernel
theorem dX7_payPlaces_68 : decode cX7_payPlaces 68 = .ok (.getfield 106, 3) := by decide +kernel
theorem dX7_payPlaces_71 : decode cX7_payPlaces 71 = .ok (.lload 4, 2) := by decide +kernel
theorem dX7_payPlaces_73 : decode cX7_payPlaces 73 = .ok (.invokestatic 119, 3) := by decide +kernel
theorem dX7_payPlaces_76 : decode cX7_payPlaces 76 = .ok (.lsub, 1) := by decide +kernel
theorem dX7_payPlaces_77 : decode cX7_payPlaces 77 = .ok (.putfield 15, 3) := by decide +kernel
theorem dX7_payPlaces_80 : decode cX7_payPlaces 80 = .ok (.aload_n 2, 1) := by decide +kernel
theorem dX7_payPlaces_81 : decode cX7_payPlaces 81 = .ok (.getfield 41, 3) := by decide +kernel
theorem dX7_payPlaces_84 : decode cX7_payPlaces 84 = .ok (.astore_n 2, 1) := by decide +kernel
theorem dX7_payPlaces_85 : decode cX7_payPlaces 85 = .ok (.goto (-74), 3) := by decide +kernel
theorem dX7_payPlaces_88 : decode cX7_payPlaces 88 = .ok (.return_, 1) := by decide +kernel
theorem dX7_giveWay_0 : decode cX7_giveWay 0 = .ok (.aload_n 0, 1) := by decide +kernel
theorem dX7_giveWay_1 : decode cX7_giveWay 1 = .ok (.getfield 123, 3) := by decide +kernel
theorem dX7_giveWay_4 : decode cX7_giveWay 4 = .ok (.getfield 126, 3) := by decide +kernel
theorem dX7_giveWay_7 : decode cX7_giveWay 7 = .ok (.aload_n 0, 1) := by decide +kernel
theorem dX7_giveWay_8 : decode cX7_giveWay 8 = .ok (.getfield 123, 3) := by decide +kernel
theorem dX7_giveWay_11 : decode cX7_giveWay 11 = .ok (.invokevirtual 129, 3) := by decide +kernel
theorem dX7_giveWay_14 : decode cX7_giveWay 14 = .ok (.lstore_n 1, 1) := by decide +kernel
theorem dX7_giveWay_15 : decode cX7_giveWay 15 = .ok (.aload_n 0, 1) := by decide +kernel
theorem dX7_giveWay_16 : decode cX7_giveWay 16 = .ok (.getfield 132, 3) := by decide +kernel
theorem dX7_giveWay_19 : decode cX7_giveWay 19 = .ok (.aload_n 0, 1) := by decide +kernel
theorem dX7_giveWay_20 : decode cX7_giveWay 20 = .ok (.getfield 135, 3) := by decide +kernel
theorem dX7_giveWay_23 : decode cX7_giveWay 23 = .ok (.invokestatic 138, 3) := by decide +kernel
theorem dX7_giveWay_26 : decode cX7_giveWay 26 = .ok (.lload_n 1, 1) := by decide +kernel
theorem dX7_giveWay_27 : decode cX7_giveWay 27 = .ok (.invokestatic 113, 3) := by decide +kernel
theorem dX7_giveWay_30 : decode cX7_giveWay 30 = .ok (.invokestatic 113, 3) := by decide +kernel
theorem dX7_giveWay_33 : decode cX7_giveWay 33 = .ok (.lstore_n 3, 1) := by decide +kernel
theorem dX7_giveWay_34 : decode cX7_giveWay 34 = .ok (.lload_n 3, 1) := by decide +kernel
theorem dX7_giveWay_35 : decode cX7_giveWay 35 = .ok (.aload_n 0, 1) := by decide +kernel
theorem dX7_giveWay_36 : decode cX7_giveWay 36 = .ok (.getfield 123, 3) := by decide +kernel
theorem dX7_giveWay_39 : decode cX7_giveWay 39 = .ok (.invokestatic 138, 3) := by decide +kernel
theorem dX7_giveWay_42 : decode cX7_giveWay 42 = .ok (.invokestatic 113, 3) := by decide +kernel
theorem dX7_giveWay_45 : decode cX7_giveWay 45 = .ok (.lstore 5, 2) := by decide +kernel
theorem dX7_giveWay_47 : decode cX7_giveWay 47 = .ok (.aload_n 0, 1) := by decide +kernel
theorem dX7_giveWay_48 : decode cX7_giveWay 48 = .ok (.getfield 135, 3) := by decide +kernel
theorem dX7_giveWay_51 : decode cX7_giveWay 51 = .ok (.lload_n 3, 1) := by decide +kernel
theorem dX7_giveWay_52 : decode cX7_giveWay 52 = .ok (.invokestatic 141, 3) := by decide +kernel
theorem dX7_giveWay_55 : decode cX7_giveWay 55 = .ok (.aload_n 0, 1) := by decide +kernel
theorem dX7_giveWay_56 : decode cX7_giveWay 56 = .ok (.getfield 123, 3) := by decide +kernel
theorem dX7_giveWay_59 : decode cX7_giveWay 59 = .ok (.lload 5, 2) := by decide +kernel
theorem dX7_giveWay_61 : decode cX7_giveWay 61 = .ok (.invokestatic 141, 3) := by decide +kernel
theorem dX7_giveWay_64 : decode cX7_giveWay 64 = .ok (.aload_n 0, 1) := by decide +kernel
theorem dX7_giveWay_65 : decode cX7_giveWay 65 = .ok (.getfield 123, 3) := by decide +kernel
theorem dX7_giveWay_68 : decode cX7_giveWay 68 = .ok (.lload_n 3, 1) := by decide +kernel
theorem dX7_giveWay_69 : decode cX7_giveWay 69 = .ok (.invokestatic 119, 3) := by decide +kernel
theorem dX7_giveWay_72 : decode cX7_giveWay 72 = .ok (.pop2, 1) := by decide +kernel
theorem dX7_giveWay_73 : decode cX7_giveWay 73 = .ok (.aload_n 0, 1) := by decide +kernel
theorem dX7_giveWay_74 : decode cX7_giveWay 74 = .ok (.getfield 135, 3) := by decide +kernel
theorem dX7_giveWay_77 : decode cX7_giveWay 77 = .ok (.lload 5, 2) := by decide +kernel
theorem dX7_giveWay_79 : decode cX7_giveWay 79 = .ok (.invokestatic 119, 3) := by decide +kernel
theorem dX7_giveWay_82 : decode cX7_giveWay 82 = .ok (.pop2, 1) := by decide +kernel
theorem dX7_giveWay_83 : decode cX7_giveWay 83 = .ok (.return_, 1) := by decide +kernel
theorem dX7_hasBelow_0 : decode cX7_hasBelow 0 = .ok (.lconst 0, 1) := by decide +kernel
theorem dX7_hasBelow_1 : decode cX7_hasBelow 1 = .ok (.lstore_n 1, 1) := by decide +kernel
theorem dX7_hasBelow_2 : decode cX7_hasBelow 2 = .ok (.aload_n 0, 1) := by decide +kernel
theorem dX7_hasBelow_3 : decode cX7_hasBelow 3 = .ok (.getfield 126, 3) := by decide +kernel
theorem dX7_hasBelow_6 : decode cX7_hasBelow 6 = .ok (.getfield 83, 3) := by decide +kernel
theorem dX7_hasBelow_9 : decode cX7_hasBelow 9 = .ok (.astore_n 3, 1) := by decide +kernel
theorem dX7_hasBelow_10 : decode cX7_hasBelow 10 = .ok (.aload_n 3, 1) := by decide +kernel
theorem dX7_hasBelow_11 : decode cX7_hasBelow 11 = .ok (.ifnull 26, 3) := by decide +kernel
theorem dX7_hasBelow_14 : decode cX7_hasBelow 14 = .ok (.aload_n 3, 1) := by decide +kernel
theorem dX7_hasBelow_15 : decode cX7_hasBelow 15 = .ok (.aload_n 0, 1) := by decide +kernel
theorem dX7_hasBelow_16 : decode cX7_hasBelow 16 = .ok (.invokevirtual 145, 3) := by decide +kernel
theorem dX7_hasBelow_19 : decode cX7_hasBelow 19 = .ok (.ifCond .eq 10, 3) := by decide +kernel
theorem dX7_hasBelow_22 : decode cX7_hasBelow 22 = .ok (.lload_n 1, 1) := by decide +kernel
theorem dX7_hasBelow_23 : decode cX7_hasBelow 23 = .ok (.aload_n 3, 1) := by decide +kernel
theorem dX7_hasBelow_24 : decode cX7_hasBelow 24 = .ok (.getfield 87, 3) := by decide +kernel
theorem dX7_hasBelow_27 : decode cX7_hasBelow 27 = .ok (.ladd, 1) := by decide +kernel
theorem dX7_hasBelow_28 : decode cX7_hasBelow 28 = .ok (.lstore_n 1, 1) := by decide +kernel
theorem dX7_hasBelow_29 : decode cX7_hasBelow 29 = .ok (.aload_n 3, 1) := by decide +kernel
theorem dX7_hasBelow_30 : decode cX7_hasBelow 30 = .ok (.getfield 99, 3) := by decide +kernel
theorem dX7_hasBelow_33 : decode cX7_hasBelow 33 = .ok (.astore_n 3, 1) := by decide +kernel
theorem dX7_hasBelow_34 : decode cX7_hasBelow 34 = .ok (.goto (-24), 3) := by decide +kernel
theorem dX7_hasBelow_37 : decode cX7_hasBelow 37 = .ok (.lload_n 1, 1) := by decide +kernel
theorem dX7_hasBelow_38 : decode cX7_hasBelow 38 = .ok (.lreturn, 1) := by decide +kernel
theorem dX7_give_0 : decode cX7_give 0 = .ok (.lload_n 1, 1) := by decide +kernel
theorem dX7_give_1 : decode cX7_give 1 = .ok (.lstore_n 3, 1) := by decide +kernel
theorem dX7_give_2 : decode cX7_give 2 = .ok (.aload_n 0, 1) := by decide +kernel
theorem dX7_give_3 : decode cX7_give 3 = .ok (.getfield 126, 3) := by decide +kernel
theorem dX7_give_6 : decode cX7_give 6 = .ok (.getfield 149, 3) := by decide +kernel
theorem dX7_give_9 : decode cX7_give 9 = .ok (.astore 5, 2) := by decide +kernel
theorem dX7_give_11 : decode cX7_give 11 = .ok (.aload 5, 2) := by decide +kernel
theorem dX7_give_13 : decode cX7_give 13 = .ok (.ifnull 50, 3) := by decide +kernel
theorem dX7_give_16 : decode cX7_give 16 = .ok (.aload 5, 2) := by decide +kernel
theorem dX7_give_18 : decode cX7_give 18 = .ok (.aload_n 0, 1) := by decide +kernel
theorem dX7_give_19 : decode cX7_give 19 = .ok (.invokevirtual 145, 3) := by decide +kernel
theorem dX7_give_22 : decode cX7_give 22 = .ok (.ifCond .eq 31, 3) := by decide +kernel
theorem dX7_give_25 : decode cX7_give 25 = .ok (.lload_n 3, 1) := by decide +kernel
theorem dX7_give_26 : decode cX7_give 26 = .ok (.aload 5, 2) := by decide +kernel
theorem dX7_give_28 : decode cX7_give 28 = .ok (.getfield 87, 3) := by decide +kernel
theorem dX7_give_31 : decode cX7_give 31 = .ok (.invokestatic 113, 3) := by decide +kernel
theorem dX7_give_34 : decode cX7_give 34 = .ok (.lstore 6, 2) := by decide +kernel
theorem dX7_give_36 : decode cX7_give 36 = .ok (.aload 5, 2) := by decide +kernel
theorem dX7_give_38 : decode cX7_give 38 = .ok (.dup, 1) := by decide +kernel
theorem dX7_give_39 : decode cX7_give 39 = .ok (.getfield 87, 3) := by decide +kernel
theorem dX7_give_42 : decode cX7_give 42 = .ok (.lload 6, 2) := by decide +kernel
theorem dX7_give_44 : decode cX7_give 44 = .ok (.lsub, 1) := by decide +kernel
theorem dX7_give_45 : decode cX7_give 45 = .ok (.putfield 87, 3) := by decide +kernel
theorem dX7_give_48 : decode cX7_give 48 = .ok (.lload_n 3, 1) := by decide +kernel
theorem dX7_give_49 : decode cX7_give 49 = .ok (.lload 6, 2) := by decide +kernel
theorem dX7_give_51 : decode cX7_give 51 = .ok (.lsub, 1) := by decide +kernel
theorem dX7_give_52 : decode cX7_give 52 = .ok (.lstore_n 3, 1) := by decide +kernel
theorem dX7_give_53 : decode cX7_give 53 = .ok (.aload 5, 2) := by decide +kernel
theorem dX7_give_55 : decode cX7_give 55 = .ok (.getfield 152, 3) := by decide +kernel
theorem dX7_give_58 : decode cX7_give 58 = .ok (.astore 5, 2) := by decide +kernel
theorem dX7_give_60 : decode cX7_give 60 = .ok (.goto (-49), 3) := by decide +kernel
theorem dX7_give_63 : decode cX7_give 63 = .ok (.return_, 1) := by decide +kernel
theorem dX7_get_0 : decode cX7_get 0 = .ok (.lload_n 1, 1) := by decide +kernel
theorem dX7_get_1 : decode cX7_get 1 = .ok (.lstore_n 3, 1) := by decide +kernel
theorem dX7_get_2 : decode cX7_get 2 = .ok (.aload_n 0, 1) := by decide +kernel
theorem dX7_get_3 : decode cX7_get 3 = .ok (.getfield 126, 3) := by decide +kernel
theorem dX7_get_6 : decode cX7_get 6 = .ok (.getfield 83, 3) := by decide +kernel
theorem dX7_get_9 : decode cX7_get 9 = .ok (.astore 5, 2) := by decide +kernel
theorem dX7_get_11 : decode cX7_get 11 = .ok (.aload 5, 2) := by decide +kernel
theorem dX7_get_13 : decode cX7_get 13 = .ok (.ifnull 56, 3) := by decide +kernel
theorem dX7_get_16 : decode cX7_get 16 = .ok (.aload 5, 2) := by decide +kernel
theorem dX7_get_18 : decode cX7_get 18 = .ok (.aload_n 0, 1) := by decide +kernel
theorem dX7_get_19 : decode cX7_get 19 = .ok (.invokevirtual 145, 3) := by decide +kernel
theorem dX7_get_22 : decode cX7_get 22 = .ok (.ifCond .eq 37, 3) := by decide +kernel
theorem dX7_get_25 : decode cX7_get 25 = .ok (.lload_n 3, 1) := by decide +kernel
theorem dX7_get_26 : decode cX7_get 26 = .ok (.aload 5, 2) := by decide +kernel
theorem dX7_get_28 : decode cX7_get 28 = .ok (.getfield 96, 3) := by decide +kernel
theorem dX7_get_31 : decode cX7_get 31 = .ok (.aload 5, 2) := by decide +kernel
theorem dX7_get_33 : decode cX7_get 33 = .ok (.getfield 87, 3) := by decide +kernel
theorem dX7_get_36 : decode cX7_get 36 = .ok (.lsub, 1) := by decide +kernel
theorem dX7_get_37 : decode cX7_get 37 = .ok (.invokestatic 113, 3) := by decide +kernel
theorem dX7_get_40 : decode cX7_get 40 = .ok (.lstore 6, 2) := by decide +kernel
theorem dX7_get_42 : decode cX7_get 42 = .ok (.aload 5, 2) := by decide +kernel
theorem dX7_get_44 : decode cX7_get 44 = .ok (.dup, 1) := by decide +kernel
theorem dX7_get_45 : decode cX7_get 45 = .ok (.getfield 87, 3) := by decide +kernel
theorem dX7_get_48 : decode cX7_get 48 = .ok (.lload 6, 2) := by decide +kernel
theorem dX7_get_50 : decode cX7_get 50 = .ok (.ladd, 1) := by decide +kernel
theorem dX7_get_51 : decode cX7_get 51 = .ok (.putfield 87, 3) := by decide +kernel
theorem dX7_get_54 : decode cX7_get 54 = .ok (.lload_n 3, 1) := by decide +kernel
theorem dX7_get_55 : decode cX7_get 55 = .ok (.lload 6, 2) := by decide +kernel
theorem dX7_get_57 : decode cX7_get 57 = .ok (.lsub, 1) := by decide +kernel
theorem dX7_get_58 : decode cX7_get 58 = .ok (.lstore_n 3, 1) := by decide +kernel
theorem dX7_get_59 : decode cX7_get 59 = .ok (.aload 5, 2) := by decide +kernel
theorem dX7_get_61 : decode cX7_get 61 = .ok (.getfield 99, 3) := by decide +kernel
theorem dX7_get_64 : decode cX7_get 64 = .ok (.astore 5, 2) := by decide +kernel
theorem dX7_get_66 : decode cX7_get 66 = .ok (.goto (-55), 3) := by decide +kernel
theorem dX7_get_69 : decode cX7_get 69 = .ok (.lload_n 1, 1) := by decide +kernel
theorem dX7_get_70 : decode cX7_get 70 = .ok (.lload_n 3, 1) := by decide +kernel
theorem dX7_get_71 : decode cX7_get 71 = .ok (.lsub, 1) := by decide +kernel
theorem dX7_get_72 : decode cX7_get 72 = .ok (.lreturn, 1) := by decide +kernel
theorem dX7_tellShares_0 : decode cX7_tellShares 0 = .ok (.aload_n 0, 1) := by decide +kernel
theorem dX7_tellShares_1 : decode cX7_tellShares 1 = .ok (.getfield 83, 3) := by decide +kernel
theorem dX7_tellShares_4 : decode cX7_tellShares 4 = .ok (.astore_n 1, 1) := by decide +kernel
theorem dX7_tellShares_5 : decode cX7_tellShares 5 = .ok (.aload_n 1, 1) := by decide +kernel
theorem dX7_tellShares_6 : decode cX7_tellShares 6 = .ok (.ifnull 38, 3) := by decide +kernel
theorem dX7_tellShares_9 : decode cX7_tellShares 9 = .ok (.aload_n 1, 1) := by decide +kernel
theorem dX7_tellShares_10 : decode cX7_tellShares 10 = .ok (.astore_n 2, 1) := by decide +kernel
theorem dX7_tellShares_11 : decode cX7_tellShares 11 = .ok (.aload_n 2, 1) := by decide +kernel
theorem dX7_tellShares_12 : decode cX7_tellShares 12 = .ok (.ifnull 24, 3) := by decide +kernel
theorem dX7_tellShares_15 : decode cX7_tellShares 15 = .ok (.aload_n 2, 1) := by decide +kernel
theorem dX7_tellShares_16 : decode cX7_tellShares 16 = .ok (.dup, 1) := by decide +kernel
theorem dX7_tellShares_17 : decode cX7_tellShares 17 = .ok (.getfield 155, 3) := by decide +kernel
theorem dX7_tellShares_20 : decode cX7_tellShares 20 = .ok (.aload_n 1, 1) := by decide +kernel
theorem dX7_tellShares_21 : decode cX7_tellShares 21 = .ok (.getfield 87, 3) := by decide +kernel
theorem dX7_tellShares_24 : decode cX7_tellShares 24 = .ok (.ladd, 1) := by decide +kernel
theorem dX7_tellShares_25 : decode cX7_tellShares 25 = .ok (.putfield 155, 3) := by decide +kernel
theorem dX7_tellShares_28 : decode cX7_tellShares 28 = .ok (.aload_n 2, 1) := by decide +kernel
theorem dX7_tellShares_29 : decode cX7_tellShares 29 = .ok (.getfield 158, 3) := by decide +kernel
theorem dX7_tellShares_32 : decode cX7_tellShares 32 = .ok (.astore_n 2, 1) := by decide +kernel
theorem dX7_tellShares_33 : decode cX7_tellShares 33 = .ok (.goto (-22), 3) := by decide +kernel
theorem dX7_tellShares_36 : decode cX7_tellShares 36 = .ok (.aload_n 1, 1) := by decide +kernel
theorem dX7_tellShares_37 : decode cX7_tellShares 37 = .ok (.getfield 99, 3) := by decide +kernel
theorem dX7_tellShares_40 : decode cX7_tellShares 40 = .ok (.astore_n 1, 1) := by decide +kernel
theorem dX7_tellShares_41 : decode cX7_tellShares 41 = .ok (.goto (-36), 3) := by decide +kernel
theorem dX7_tellShares_44 : decode cX7_tellShares 44 = .ok (.return_, 1) := by decide +kernel
theorem dX7_carryOut_0 : decode cX7_carryOut 0 = .ok (.new 161, 3) := by decide +kernel
theorem dX7_carryOut_3 : decode cX7_carryOut 3 = .ok (.dup, 1) := by decide +kernel
theorem dX7_carryOut_4 : decode cX7_carryOut 4 = .ok (.aload_n 0, 1) := by decide +kernel
theorem dX7_carryOut_5 : decode cX7_carryOut 5 = .ok (.getfield 9, 3) := by decide +kernel
theorem dX7_carryOut_8 : decode cX7_carryOut 8 = .ok (.getfield 55, 3) := by decide +kernel
theorem dX7_carryOut_11 : decode cX7_carryOut 11 = .ok (.getfield 74, 3) := by decide +kernel
theorem dX7_carryOut_14 : decode cX7_carryOut 14 = .ok (.aload_n 0, 1) := by decide +kernel
theorem dX7_carryOut_15 : decode cX7_carryOut 15 = .ok (.getfield 9, 3) := by decide +kernel
theorem dX7_carryOut_18 : decode cX7_carryOut 18 = .ok (.getfield 55, 3) := by decide +kernel
theorem dX7_carryOut_21 : decode cX7_carryOut 21 = .ok (.getfield 74, 3) := by decide +kernel
theorem dX7_carryOut_24 : decode cX7_carryOut 24 = .ok (.invokespecial 163, 3) := by decide +kernel
theorem dX7_carryOut_27 : decode cX7_carryOut 27 = .ok (.astore_n 1, 1) := by decide +kernel
theorem dX7_carryOut_28 : decode cX7_carryOut 28 = .ok (.aload_n 0, 1) := by decide +kernel
theorem dX7_carryOut_29 : decode cX7_carryOut 29 = .ok (.getfield 9, 3) := by decide +kernel
theorem dX7_carryOut_32 : decode cX7_carryOut 32 = .ok (.getfield 19, 3) := by decide +kernel
theorem dX7_carryOut_35 : decode cX7_carryOut 35 = .ok (.getfield 25, 3) := by decide +kernel
theorem dX7_carryOut_38 : decode cX7_carryOut 38 = .ok (.astore_n 2, 1) := by decide +kernel
theorem dX7_carryOut_39 : decode cX7_carryOut 39 = .ok (.aload_n 2, 1) := by decide +kernel
theorem dX7_carryOut_40 : decode cX7_carryOut 40 = .ok (.ifnull 44, 3) := by decide +kernel
theorem dX7_carryOut_43 : decode cX7_carryOut 43 = .ok (.aload_n 2, 1) := by decide +kernel
theorem dX7_carryOut_44 : decode cX7_carryOut 44 = .ok (.getfield 31, 3) := by decide +kernel
theorem dX7_carryOut_47 : decode cX7_carryOut 47 = .ok (.iconst (-1), 1) := by decide +kernel
theorem dX7_carryOut_48 : decode cX7_carryOut 48 = .ok (.if_icmp .eq 28, 3) := by decide +kernel
theorem dX7_carryOut_51 : decode cX7_carryOut 51 = .ok (.aload_n 0, 1) := by decide +kernel
theorem dX7_carryOut_52 : decode cX7_carryOut 52 = .ok (.aload_n 2, 1) := by decide +kernel
theorem dX7_carryOut_53 : decode cX7_carryOut 53 = .ok (.aload_n 1, 1) := by decide +kernel
theorem dX7_carryOut_54 : decode cX7_carryOut 54 = .ok (.invokevirtual 166, 3) := by decide +kernel
theorem dX7_carryOut_57 : decode cX7_carryOut 57 = .ok (.aload_n 2, 1) := by decide +kernel
theorem dX7_carryOut_58 : decode cX7_carryOut 58 = .ok (.getfield 170, 3) := by decide +kernel
theorem dX7_carryOut_61 : decode cX7_carryOut 61 = .ok (.aload_n 1, 1) := by decide +kernel
theorem dX7_carryOut_62 : decode cX7_carryOut 62 = .ok (.getfield 174, 3) := by decide +kernel
theorem dX7_carryOut_65 : decode cX7_carryOut 65 = .ok (.putfield 177, 3) := by decide +kernel
theorem dX7_carryOut_68 : decode cX7_carryOut 68 = .ok (.aload_n 2, 1) := by decide +kernel
theorem dX7_carryOut_69 : decode cX7_carryOut 69 = .ok (.getfield 170, 3) := by decide +kernel
theorem dX7_carryOut_72 : decode cX7_carryOut 72 = .ok (.iconst 1, 1) := by decide +kernel
theorem dX7_carryOut_73 : decode cX7_carryOut 73 = .ok (.putfield 182, 3) := by decide +kernel
theorem dX7_carryOut_76 : decode cX7_carryOut 76 = .ok (.aload_n 2, 1) := by decide +kernel
theorem dX7_carryOut_77 : decode cX7_carryOut 77 = .ok (.getfield 41, 3) := by decide +kernel
theorem dX7_carryOut_80 : decode cX7_carryOut 80 = .ok (.astore_n 2, 1) := by decide +kernel
theorem dX7_carryOut_81 : decode cX7_carryOut 81 = .ok (.goto (-42), 3) := by decide +kernel
theorem dX7_carryOut_84 : decode cX7_carryOut 84 = .ok (.return_, 1) := by decide +kernel
theorem dX7_settleLeaves_0 : decode cX7_settleLeaves 0 = .ok (.aload_n 1, 1) := by decide +kernel
theorem dX7_settleLeaves_1 : decode cX7_settleLeaves 1 = .ok (.getfield 83, 3) := by decide +kernel
theorem dX7_settleLeaves_4 : decode cX7_settleLeaves 4 = .ok (.astore_n 3, 1) := by decide +kernel
theorem dX7_settleLeaves_5 : decode cX7_settleLeaves 5 = .ok (.aload_n 3, 1) := by decide +kernel
theorem dX7_settleLeaves_6 : decode cX7_settleLeaves 6 = .ok (.ifnull 96, 3) := by decide +kernel
theorem dX7_settleLeaves_9 : decode cX7_settleLeaves 9 = .ok (.aload_n 3, 1) := by decide +kernel
theorem dX7_settleLeaves_10 : decode cX7_settleLeaves 10 = .ok (.aload_n 0, 1) := by decide +kernel
theorem dX7_settleLeaves_11 : decode cX7_settleLeaves 11 = .ok (.getfield 9, 3) := by decide +kernel
theorem dX7_settleLeaves_14 : decode cX7_settleLeaves 14 = .ok (.getfield 52, 3) := by decide +kernel
theorem dX7_settleLeaves_17 : decode cX7_settleLeaves 17 = .ok (.aload_n 0, 1) := by decide +kernel
theorem dX7_settleLeaves_18 : decode cX7_settleLeaves 18 = .ok (.getfield 9, 3) := by decide +kernel
theorem dX7_settleLeaves_21 : decode cX7_settleLeaves 21 = .ok (.getfield 55, 3) := by decide +kernel
theorem dX7_settleLeaves_24 : decode cX7_settleLeaves 24 = .ok (.invokevirtual 92, 3) := by decide +kernel
theorem dX7_settleLeaves_27 : decode cX7_settleLeaves 27 = .ok (.ifCond .ne 67, 3) := by decide +kernel
theorem dX7_settleLeaves_30 : decode cX7_settleLeaves 30 = .ok (.aload_n 3, 1) := by decide +kernel
theorem dX7_settleLeaves_31 : decode cX7_settleLeaves 31 = .ok (.getfield 96, 3) := by decide +kernel
theorem dX7_settleLeaves_34 : decode cX7_settleLeaves 34 = .ok (.aload_n 3, 1) := by decide +kernel
theorem dX7_settleLeaves_35 : decode cX7_settleLeaves 35 = .ok (.getfield 87, 3) := by decide +kernel
theorem dX7_settleLeaves_38 : decode cX7_settleLeaves 38 = .ok (.lsub, 1) := by decide +kernel
theorem dX7_settleLeaves_39 : decode cX7_settleLeaves 39 = .ok (.lstore 4, 2) := by decide +kernel
theorem dX7_settleLeaves_41 : decode cX7_settleLeaves 41 = .ok (.aload_n 1, 1) := by decide +kernel
theorem dX7_settleLeaves_42 : decode cX7_settleLeaves 42 = .ok (.getfield 170, 3) := by decide +kernel
theorem dX7_settleLeaves_45 : decode cX7_settleLeaves 45 = .ok (.getfield 186, 3) := by decide +kernel
theorem dX7_settleLeaves_48 : decode cX7_settleLeaves 48 = .ok (.iconst 4, 1) := by decide +kernel
theorem dX7_settleLeaves_49 : decode cX7_settleLeaves 49 = .ok (.if_icmp .ne 7, 3) := by decide +kernel
theorem dX7_settleLeaves_52 : decode cX7_settleLeaves 52 = .ok (.iconst 1, 1) := by decide +kernel
theorem dX7_settleLeaves_53 : decode cX7_settleLeaves 53 = .ok (.goto 4, 3) := by decide +kernel
theorem dX7_settleLeaves_56 : decode cX7_settleLeaves 56 = .ok (.iconst 0, 1) := by decide +kernel
theorem dX7_settleLeaves_57 : decode cX7_settleLeaves 57 = .ok (.istore 6, 2) := by decide +kernel
theorem dX7_settleLeaves_59 : decode cX7_settleLeaves 59 = .ok (.aload_n 3, 1) := by decide +kernel
theorem dX7_settleLeaves_60 : decode cX7_settleLeaves 60 = .ok (.iload 6, 2) := by decide +kernel
theorem dX7_settleLeaves_62 : decode cX7_settleLeaves 62 = .ok (.ifCond .eq 8, 3) := by decide +kernel
theorem dX7_settleLeaves_65 : decode cX7_settleLeaves 65 = .ok (.lload 4, 2) := by decide +kernel
theorem dX7_settleLeaves_67 : decode cX7_settleLeaves 67 = .ok (.goto 12, 3) := by decide +kernel
theorem dX7_settleLeaves_70 : decode cX7_settleLeaves 70 = .ok (.lload 4, 2) := by decide +kernel
theorem dX7_settleLeaves_72 : decode cX7_settleLeaves 72 = .ok (.aload_n 3, 1) := by decide +kernel
theorem dX7_settleLeaves_73 : decode cX7_settleLeaves 73 = .ok (.getfield 189, 3) := by decide +kernel
theorem dX7_settleLeaves_76 : decode cX7_settleLeaves 76 = .ok (.invokestatic 113, 3) := by decide +kernel
theorem dX7_settleLeaves_79 : decode cX7_settleLeaves 79 = .ok (.putfield 189, 3) := by decide +kernel
theorem dX7_settleLeaves_82 : decode cX7_settleLeaves 82 = .ok (.aload_n 3, 1) := by decide +kernel
theorem dX7_settleLeaves_83 : decode cX7_settleLeaves 83 = .ok (.aload_n 0, 1) := by decide +kernel
theorem dX7_settleLeaves_84 : decode cX7_settleLeaves 84 = .ok (.getfield 9, 3) := by decide +kernel
theorem dX7_settleLeaves_87 : decode cX7_settleLeaves 87 = .ok (.getfield 52, 3) := by decide +kernel
theorem dX7_settleLeaves_90 : decode cX7_settleLeaves 90 = .ok (.aload_n 2, 1) := by decide +kernel
theorem dX7_settleLeaves_91 : decode cX7_settleLeaves 91 = .ok (.invokevirtual 192, 3) := by decide +kernel
theorem dX7_settleLeaves_94 : decode cX7_settleLeaves 94 = .ok (.aload_n 3, 1) := by decide +kernel
theorem dX7_settleLeaves_95 : decode cX7_settleLeaves 95 = .ok (.getfield 99, 3) := by decide +kernel
theorem dX7_settleLeaves_98 : decode cX7_settleLeaves 98 = .ok (.astore_n 3, 1) := by decide +kernel
theorem dX7_settleLeaves_99 : decode cX7_settleLeaves 99 = .ok (.goto (-94), 3) := by decide +kernel
theorem dX7_settleLeaves_102 : decode cX7_settleLeaves 102 = .ok (.return_, 1) := by decide +kernel
theorem dX8_init_0 : decode cX8_init 0 = .ok (.aload_n 0, 1) := by decide +kernel
theorem dX8_init_1 : decode cX8_init 1 = .ok (.invokespecial 3, 3) := by decide +kernel
theorem dX8_init_4 : decode cX8_init 4 = .ok (.aload_n 0, 1) := by decide +kernel
theorem dX8_init_5 : decode cX8_init 5 = .ok (.iload_n 1, 1) := by decide +kernel
theorem dX8_init_6 : decode cX8_init 6 = .ok (.putfield 9, 3) := by decide +kernel
theorem dX8_init_9 : decode cX8_init 9 = .ok (.aload_n 0, 1) := by decide +kernel
theorem dX8_init_10 : decode cX8_init 10 = .ok (.iload_n 2, 1) := by decide +kernel
theorem dX8_init_11 : decode cX8_init 11 = .ok (.putfield 15, 3) := by decide +kernel
theorem dX8_init_14 : decode cX8_init 14 = .ok (.aload_n 0, 1) := by decide +kernel
theorem dX8_init_15 : decode cX8_init 15 = .ok (.lload_n 3, 1) := by decide +kernel
theorem dX8_init_16 : decode cX8_init 16 = .ok (.putfield 18, 3) := by decide +kernel
theorem dX8_init_19 : decode cX8_init 19 = .ok (.aload_n 0, 1) := by decide +kernel
theorem dX8_init_20 : decode cX8_init 20 = .ok (.iload 5, 2) := by decide +kernel
theorem dX8_init_22 : decode cX8_init 22 = .ok (.putfield 22, 3) := by decide +kernel
theorem dX8_init_25 : decode cX8_init 25 = .ok (.aload_n 0, 1) := by decide +kernel
theorem dX8_init_26 : decode cX8_init 26 = .ok (.iconst 2, 1) := by decide +kernel
theorem dX8_init_27 : decode cX8_init 27 = .ok (.putfield 25, 3) := by decide +kernel
theorem dX8_init_30 : decode cX8_init 30 = .ok (.return_, 1) := by decide +kernel
theorem dX8_isDivisible_0 : decode cX8_isDivisible 0 = .ok (.aload_n 0, 1) := by decide +kernel
theorem dX8_isDivisible_1 : decode cX8_isDivisible 1 = .ok (.getfield 9, 3) := by decide +kernel
theorem dX8_isDivisible_4 : decode cX8_isDivisible 4 = .ok (.iconst 4, 1) := by decide +kernel
theorem dX8_isDivisible_5 : decode cX8_isDivisible 5 = .ok (.if_icmp .eq 16, 3) := by decide +kernel
theorem dX8_isDivisible_8 : decode cX8_isDivisible 8 = .ok (.aload_n 0, 1) := by decide +kernel
theorem dX8_isDivisible_9 : decode cX8_isDivisible 9 = .ok (.getfield 9, 3) := by decide +kernel
theorem dX8_isDivisible_12 : decode cX8_isDivisible 12 = .ok (.bipush 6, 2) := by decide +kernel
theorem dX8_isDivisible_14 : decode cX8_isDivisible 14 = .ok (.if_icmp .eq 7, 3) := by decide +kernel
theorem dX8_isDivisible_17 : decode cX8_isDivisible 17 = .ok (.iconst 1, 1) := by decide +kernel
theorem dX8_isDivisible_18 : decode cX8_isDivisible 18 = .ok (.goto 4, 3) := by decide +kernel
theorem dX8_isDivisible_21 : decode cX8_isDivisible 21 = .ok (.iconst 0, 1) := by decide +kernel
theorem dX8_isDivisible_22 : decode cX8_isDivisible 22 = .ok (.ireturn, 1) := by decide +kernel
theorem dX8_hasPaper_0 : decode cX8_hasPaper 0 = .ok (.aload_n 0, 1) := by decide +kernel
theorem dX8_hasPaper_1 : decode cX8_hasPaper 1 = .ok (.getfield 9, 3) := by decide +kernel
theorem dX8_hasPaper_4 : decode cX8_hasPaper 4 = .ok (.iconst 2, 1) := by decide +kernel
theorem dX8_hasPaper_5 : decode cX8_hasPaper 5 = .ok (.if_icmp .eq 11, 3) := by decide +kernel
theorem dX8_hasPaper_8 : decode cX8_hasPaper 8 = .ok (.aload_n 0, 1) := by decide +kernel
theorem dX8_hasPaper_9 : decode cX8_hasPaper 9 = .ok (.getfield 9, 3) := by decide +kernel
theorem dX8_hasPaper_12 : decode cX8_hasPaper 12 = .ok (.iconst 3, 1) := by decide +kernel
theorem dX8_hasPaper_13 : decode cX8_hasPaper 13 = .ok (.if_icmp .ne 7, 3) := by decide +kernel
theorem dX8_hasPaper_16 : decode cX8_hasPaper 16 = .ok (.iconst 1, 1) := by decide +kernel
theorem dX8_hasPaper_17 : decode cX8_hasPaper 17 = .ok (.goto 4, 3) := by decide +kernel
theorem dX8_hasPaper_20 : decode cX8_hasPaper 20 = .ok (.iconst 0, 1) := by decide +kernel
theorem dX8_hasPaper_21 : decode cX8_hasPaper 21 = .ok (.ireturn, 1) := by decide +kernel
theorem dX8_claimAhead_0 : decode cX8_claimAhead 0 = .ok (.aload_n 0, 1) := by decide +kernel
theorem dX8_claimAhead_1 : decode cX8_claimAhead 1 = .ok (.iload_n 1, 1) := by decide +kernel
theorem dX8_claimAhead_2 : decode cX8_claimAhead 2 = .ok (.putfield 28, 3) := by decide +kernel
theorem dX8_claimAhead_5 : decode cX8_claimAhead 5 = .ok (.aload_n 0, 1) := by decide +kernel
theorem dX8_claimAhead_6 : decode cX8_claimAhead 6 = .ok (.iload_n 2, 1) := by decide +kernel
theorem dX8_claimAhead_7 : decode cX8_claimAhead 7 = .ok (.putfield 25, 3) := by decide +kernel
theorem dX8_claimAhead_10 : decode cX8_claimAhead 10 = .ok (.aload_n 0, 1) := by decide +kernel
theorem dX8_claimAhead_11 : decode cX8_claimAhead 11 = .ok (.aload_n 3, 1) := by decide +kernel
theorem dX8_claimAhead_12 : decode cX8_claimAhead 12 = .ok (.putfield 31, 3) := by decide +kernel
theorem dX8_claimAhead_15 : decode cX8_claimAhead 15 = .ok (.return_, 1) := by decide +kernel
theorem dX8_goesAhead_0 : decode cX8_goesAhead 0 = .ok (.aload_n 0, 1) := by decide +kernel
theorem dX8_goesAhead_1 : decode cX8_goesAhead 1 = .ok (.getfield 31, 3) := by decide +kernel
theorem dX8_goesAhead_4 : decode cX8_goesAhead 4 = .ok (.aload_n 1, 1) := by decide +kernel
theorem dX8_goesAhead_5 : decode cX8_goesAhead 5 = .ok (.invokestatic 35, 3) := by decide +kernel
theorem dX8_goesAhead_8 : decode cX8_goesAhead 8 = .ok (.ifCond .eq 18, 3) := by decide +kernel
theorem dX8_goesAhead_11 : decode cX8_goesAhead 11 = .ok (.aload_n 0, 1) := by decide +kernel
theorem dX8_goesAhead_12 : decode cX8_goesAhead 12 = .ok (.getfield 28, 3) := by decide +kernel
theorem dX8_goesAhead_15 : decode cX8_goesAhead 15 = .ok (.aload_n 1, 1) := by decide +kernel
theorem dX8_goesAhead_16 : decode cX8_goesAhead 16 = .ok (.getfield 41, 3) := by decide +kernel
theorem dX8_goesAhead_19 : decode cX8_goesAhead 19 = .ok (.if_icmp .gt 7, 3) := by decide +kernel
theorem dX8_goesAhead_22 : decode cX8_goesAhead 22 = .ok (.iconst 1, 1) := by decide +kernel
theorem dX8_goesAhead_23 : decode cX8_goesAhead 23 = .ok (.goto 4, 3) := by decide +kernel
theorem dX8_goesAhead_26 : decode cX8_goesAhead 26 = .ok (.iconst 0, 1) := by decide +kernel
theorem dX8_goesAhead_27 : decode cX8_goesAhead 27 = .ok (.ireturn, 1) := by decide +kernel
theorem dX8_dueOf_0 : decode cX8_dueOf 0 = .ok (.aload_n 0, 1) := by decide +kernel
theorem dX8_dueOf_1 : decode cX8_dueOf 1 = .ok (.getfield 9, 3) := by decide +kernel
theorem dX8_dueOf_4 : decode cX8_dueOf 4 = .ok (.tableswitch 68 3 6 #[54, 34, 68, 32], 32) := by decide +kernel
theorem dX8_dueOf_36 : decode cX8_dueOf 36 = .ok (.lconst 0, 1) := by decide +kernel
theorem dX8_dueOf_37 : decode cX8_dueOf 37 = .ok (.lreturn, 1) := by decide +kernel
theorem dX8_dueOf_38 : decode cX8_dueOf 38 = .ok (.aload_n 0, 1) := by decide +kernel
theorem dX8_dueOf_39 : decode cX8_dueOf 39 = .ok (.getfield 46, 3) := by decide +kernel
theorem dX8_dueOf_42 : decode cX8_dueOf 42 = .ok (.ifCond .eq 7, 3) := by decide +kernel
theorem dX8_dueOf_45 : decode cX8_dueOf 45 = .ok (.lload_n 1, 1) := by decide +kernel
theorem dX8_dueOf_46 : decode cX8_dueOf 46 = .ok (.goto 11, 3) := by decide +kernel
theorem dX8_dueOf_49 : decode cX8_dueOf 49 = .ok (.lload_n 1, 1) := by decide +kernel
theorem dX8_dueOf_50 : decode cX8_dueOf 50 = .ok (.aload_n 0, 1) := by decide +kernel
theorem dX8_dueOf_51 : decode cX8_dueOf 51 = .ok (.iload_n 3, 1) := by decide +kernel
theorem dX8_dueOf_52 : decode cX8_dueOf 52 = .ok (.invokevirtual 50, 3) := by decide +kernel
theorem dX8_dueOf_55 : decode cX8_dueOf 55 = .ok (.i2l, 1) := by decide +kernel
theorem dX8_dueOf_56 : decode cX8_dueOf 56 = .ok (.lmul, 1) := by decide +kernel
theorem dX8_dueOf_57 : decode cX8_dueOf 57 = .ok (.lreturn, 1) := by decide +kernel
theorem dX8_dueOf_58 : decode cX8_dueOf 58 = .ok (.aload_n 0, 1) := by decide +kernel
theorem dX8_dueOf_59 : decode cX8_dueOf 59 = .ok (.getfield 18, 3) := by decide +kernel
theorem dX8_dueOf_62 : decode cX8_dueOf 62 = .ok (.aload_n 0, 1) := by decide +kernel
theorem dX8_dueOf_63 : decode cX8_dueOf 63 = .ok (.lload_n 1, 1) := by decide +kernel
theorem dX8_dueOf_64 : decode cX8_dueOf 64 = .ok (.iload_n 3, 1) := by decide +kernel
theorem dX8_dueOf_65 : decode cX8_dueOf 65 = .ok (.invokevirtual 54, 3) := by decide +kernel
theorem dX8_dueOf_68 : decode cX8_dueOf 68 = .ok (.invokestatic 58, 3) := by decide +kernel
theorem dX8_dueOf_71 : decode cX8_dueOf 71 = .ok (.lreturn, 1) := by decide +kernel
theorem dX8_dueOf_72 : decode cX8_dueOf 72 = .ok (.aload_n 0, 1) := by decide +kernel
theorem dX8_dueOf_73 : decode cX8_dueOf 73 = .ok (.lload_n 1, 1) := by decide +kernel
theorem dX8_dueOf_74 : decode cX8_dueOf 74 = .ok (.iload_n 3, 1) := by decide +kernel
theorem dX8_dueOf_75 : decode cX8_dueOf 75 = .ok (.invokevirtual 54, 3) := by decide +kernel
theorem dX8_dueOf_78 : decode cX8_dueOf 78 = .ok (.lreturn, 1) := by decide +kernel
theorem dX8_withInterest_0 : decode cX8_withInterest 0 = .ok (.iload_n 3, 1) := by decide +kernel
theorem dX8_withInterest_1 : decode cX8_withInterest 1 = .ok (.aload_n 0, 1) := by decide +kernel
theorem dX8_withInterest_2 : decode cX8_withInterest 2 = .ok (.getfield 22, 3) := by decide +kernel
theorem dX8_withInterest_5 : decode cX8_withInterest 5 = .ok (.isub, 1) := by decide +kernel
theorem dX8_withInterest_6 : decode cX8_withInterest 6 = .ok (.sipush 365, 3) := by decide +kernel
theorem dX8_withInterest_9 : decode cX8_withInterest 9 = .ok (.aload_n 0, 1) := by decide +kernel
theorem dX8_withInterest_10 : decode cX8_withInterest 10 = .ok (.getfield 25, 3) := by decide +kernel
theorem dX8_withInterest_13 : decode cX8_withInterest 13 = .ok (.imul, 1) := by decide +kernel
theorem dX8_withInterest_14 : decode cX8_withInterest 14 = .ok (.invokestatic 64, 3) := by decide +kernel
theorem dX8_withInterest_17 : decode cX8_withInterest 17 = .ok (.istore 4, 2) := by decide +kernel
theorem dX8_withInterest_19 : decode cX8_withInterest 19 = .ok (.lload_n 1, 1) := by decide +kernel
theorem dX8_withInterest_20 : decode cX8_withInterest 20 = .ok (.lload_n 1, 1) := by decide +kernel
theorem dX8_withInterest_21 : decode cX8_withInterest 21 = .ok (.aload_n 0, 1) := by decide +kernel
theorem dX8_withInterest_22 : decode cX8_withInterest 22 = .ok (.getfield 15, 3) := by decide +kernel
theorem dX8_withInterest_25 : decode cX8_withInterest 25 = .ok (.i2l, 1) := by decide +kernel
theorem dX8_withInterest_26 : decode cX8_withInterest 26 = .ok (.lmul, 1) := by decide +kernel
theorem dX8_withInterest_27 : decode cX8_withInterest 27 = .ok (.iload 4, 2) := by decide +kernel
theorem dX8_withInterest_29 : decode cX8_withInterest 29 = .ok (.i2l, 1) := by decide +kernel
theorem dX8_withInterest_30 : decode cX8_withInterest 30 = .ok (.lmul, 1) := by decide +kernel
theorem dX8_withInterest_31 : decode cX8_withInterest 31 = .ok (.ldc2_w 67, 3) := by decide +kernel
theorem dX8_withInterest_34 : decode cX8_withInterest 34 = .ok (.ldiv, 1) := by decide +kernel
theorem dX8_withInterest_35 : decode cX8_withInterest 35 = .ok (.ladd, 1) := by decide +kernel
theorem dX8_withInterest_36 : decode cX8_withInterest 36 = .ok (.lreturn, 1) := by decide +kernel
theorem dX8_rentYears_0 : decode cX8_rentYears 0 = .ok (.aload_n 0, 1) := by decide +kernel
theorem dX8_rentYears_1 : decode cX8_rentYears 1 = .ok (.getfield 15, 3) := by decide +kernel
theorem dX8_rentYears_4 : decode cX8_rentYears 4 = .ok (.ifCond .ne 6, 3) := by decide +kernel
theorem dX8_rentYears_7 : decode cX8_rentYears 7 = .ok (.bipush 20, 2) := by decide +kernel
theorem dX8_rentYears_9 : decode cX8_rentYears 9 = .ok (.ireturn, 1) := by decide +kernel
theorem dX8_rentYears_10 : decode cX8_rentYears 10 = .ok (.bipush 20, 2) := by decide +kernel
theorem dX8_rentYears_12 : decode cX8_rentYears 12 = .ok (.iconst 0, 1) := by decide +kernel
theorem dX8_rentYears_13 : decode cX8_rentYears 13 = .ok (.aload_n 0, 1) := by decide +kernel
theorem dX8_rentYears_14 : decode cX8_rentYears 14 = .ok (.getfield 15, 3) := by decide +kernel
theorem dX8_rentYears_17 : decode cX8_rentYears 17 = .ok (.iload_n 1, 1) := by decide +kernel
theorem dX8_rentYears_18 : decode cX8_rentYears 18 = .ok (.isub, 1) := by decide +kernel
theorem dX8_rentYears_19 : decode cX8_rentYears 19 = .ok (.invokestatic 69, 3) := by decide +kernel
theorem dX8_rentYears_22 : decode cX8_rentYears 22 = .ok (.sipush 365, 3) := by decide +kernel
theorem dX8_rentYears_25 : decode cX8_rentYears 25 = .ok (.idiv, 1) := by decide +kernel
theorem dX8_rentYears_26 : decode cX8_rentYears 26 = .ok (.invokestatic 64, 3) := by decide +kernel
theorem dX8_rentYears_29 : decode cX8_rentYears 29 = .ok (.ireturn, 1) := by decide +kernel
theorem dX9_init_0 : decode cX9_init 0 = .ok (.aload_n 0, 1) := by decide +kernel
theorem dX9_init_1 : decode cX9_init 1 = .ok (.invokespecial 3, 3) := by decide +kernel
theorem dX9_init_4 : decode cX9_init 4 = .ok (.aload_n 0, 1) := by decide +kernel
theorem dX9_init_5 : decode cX9_init 5 = .ok (.aload_n 1, 1) := by decide +kernel
theorem dX9_init_6 : decode cX9_init 6 = .ok (.putfield 9, 3) := by decide +kernel
theorem dX9_init_9 : decode cX9_init 9 = .ok (.aload_n 0, 1) := by decide +kernel
theorem dX9_init_10 : decode cX9_init 10 = .ok (.lload_n 2, 1) := by decide +kernel
theorem dX9_init_11 : decode cX9_init 11 = .ok (.putfield 15, 3) := by decide +kernel
theorem dX9_init_14 : decode cX9_init 14 = .ok (.aload_n 0, 1) := by decide +kernel
theorem dX9_init_15 : decode cX9_init 15 = .ok (.aload 4, 2) := by decide +kernel
theorem dX9_init_17 : decode cX9_init 17 = .ok (.putfield 19, 3) := by decide +kernel
theorem dX9_init_20 : decode cX9_init 20 = .ok (.aload_n 0, 1) := by decide +kernel
theorem dX9_init_21 : decode cX9_init 21 = .ok (.aload 5, 2) := by decide +kernel
theorem dX9_init_23 : decode cX9_init 23 = .ok (.putfield 23, 3) := by decide +kernel
theorem dX9_init_26 : decode cX9_init 26 = .ok (.aload_n 0, 1) := by decide +kernel
theorem dX9_init_27 : decode cX9_init 27 = .ok (.iconst 1, 1) := by decide +kernel
theorem dX9_init_28 : decode cX9_init 28 = .ok (.putfield 27, 3) := by decide +kernel
theorem dX9_init_31 : decode cX9_init 31 = .ok (.return_, 1) := by decide +kernel
theorem dX9_begin_0 : decode cX9_begin 0 = .ok (.aload_n 0, 1) := by decide +kernel
theorem dX9_begin_1 : decode cX9_begin 1 = .ok (.aload_n 1, 1) := by decide +kernel
theorem dX9_begin_2 : decode cX9_begin 2 = .ok (.putfield 31, 3) := by decide +kernel
theorem dX9_begin_5 : decode cX9_begin 5 = .ok (.aload_n 0, 1) := by decide +kernel
theorem dX9_begin_6 : decode cX9_begin 6 = .ok (.aload_n 1, 1) := by decide +kernel
theorem dX9_begin_7 : decode cX9_begin 7 = .ok (.putfield 35, 3) := by decide +kernel
theorem dX9_begin_10 : decode cX9_begin 10 = .ok (.aload_n 0, 1) := by decide +kernel
theorem dX9_begin_11 : decode cX9_begin 11 = .ok (.aload_n 1, 1) := by decide +kernel
theorem dX9_begin_12 : decode cX9_begin 12 = .ok (.putfield 38, 3) := by decide +kernel
theorem dX9_begin_15 : decode cX9_begin 15 = .ok (.return_, 1) := by decide +kernel
theorem dX9_number_0 : decode cX9_number 0 = .ok (.aload_n 0, 1) := by decide +kernel
theorem dX9_number_1 : decode cX9_number 1 = .ok (.getfield 31, 3) := by decide +kernel
theorem dX9_number_4 : decode cX9_number 4 = .ok (.ifnonnull 7, 3) := by decide +kernel
theorem dX9_number_7 : decode cX9_number 7 = .ok (.iconst (-1), 1) := by decide +kernel
theorem dX9_number_8 : decode cX9_number 8 = .ok (.goto 10, 3) := by decide +kernel
theorem dX9_number_11 : decode cX9_number 11 = .ok (.aload_n 0, 1) := by decide +kernel
theorem dX9_number_12 : decode cX9_number 12 = .ok (.getfield 31, 3) := by decide +kernel
theorem dX9_number_15 : decode cX9_number 15 = .ok (.getfield 41, 3) := by decide +kernel
theorem dX9_number_18 : decode cX9_number 18 = .ok (.ireturn, 1) := by decide +kernel
theorem dX9_livesAt_0 : decode cX9_livesAt 0 = .ok (.aload_n 0, 1) := by decide +kernel
theorem dX9_livesAt_1 : decode cX9_livesAt 1 = .ok (.getfield 19, 3) := by decide +kernel
theorem dX9_livesAt_4 : decode cX9_livesAt 4 = .ok (.aload_n 1, 1) := by decide +kernel
theorem dX9_livesAt_5 : decode cX9_livesAt 5 = .ok (.invokestatic 47, 3) := by decide +kernel
theorem dX9_livesAt_8 : decode cX9_livesAt 8 = .ok (.ifCond .eq 18, 3) := by decide +kernel
theorem dX9_livesAt_11 : decode cX9_livesAt 11 = .ok (.aload_n 0, 1) := by decide +kernel
theorem dX9_livesAt_12 : decode cX9_livesAt 12 = .ok (.getfield 53, 3) := by decide +kernel
theorem dX9_livesAt_15 : decode cX9_livesAt 15 = .ok (.aload_n 1, 1) := by decide +kernel
theorem dX9_livesAt_16 : decode cX9_livesAt 16 = .ok (.invokestatic 47, 3) := by decide +kernel
theorem dX9_livesAt_19 : decode cX9_livesAt 19 = .ok (.ifCond .ne 7, 3) := by decide +kernel
theorem dX9_livesAt_22 : decode cX9_livesAt 22 = .ok (.iconst 1, 1) := by decide +kernel
theorem dX9_livesAt_23 : decode cX9_livesAt 23 = .ok (.goto 4, 3) := by decide +kernel
theorem dX9_livesAt_26 : decode cX9_livesAt 26 = .ok (.iconst 0, 1) := by decide +kernel
theorem dX9_livesAt_27 : decode cX9_livesAt 27 = .ok (.ireturn, 1) := by decide +kernel
theorem dX9_replaceLeaf_0 : decode cX9_replaceLeaf 0 = .ok (.aload_n 1, 1) := by decide +kernel
theorem dX9_replaceLeaf_1 : decode cX9_replaceLeaf 1 = .ok (.iconst 1, 1) := by decide +kernel
theorem dX9_replaceLeaf_2 : decode cX9_replaceLeaf 2 = .ok (.putfield 56, 3) := by decide +kernel
theorem dX9_replaceLeaf_5 : decode cX9_replaceLeaf 5 = .ok (.aload_n 2, 1) := by decide +kernel
theorem dX9_replaceLeaf_6 : decode cX9_replaceLeaf 6 = .ok (.aload_n 1, 1) := by decide +kernel
theorem dX9_replaceLeaf_7 : decode cX9_replaceLeaf 7 = .ok (.getfield 59, 3) := by decide +kernel
theorem dX9_replaceLeaf_10 : decode cX9_replaceLeaf 10 = .ok (.putfield 59, 3) := by decide +kernel
theorem dX9_replaceLeaf_13 : decode cX9_replaceLeaf 13 = .ok (.aload_n 2, 1) := by decide +kernel
theorem dX9_replaceLeaf_14 : decode cX9_replaceLeaf 14 = .ok (.aload_n 3, 1) := by decide +kernel
theorem dX9_replaceLeaf_15 : decode cX9_replaceLeaf 15 = .ok (.putfield 62, 3) := by decide +kernel
theorem dX9_replaceLeaf_18 : decode cX9_replaceLeaf 18 = .ok (.aload_n 3, 1) := by decide +kernel
theorem dX9_replaceLeaf_19 : decode cX9_replaceLeaf 19 = .ok (.aload_n 2, 1) := by decide +kernel
theorem dX9_replaceLeaf_20 : decode cX9_replaceLeaf 20 = .ok (.putfield 59, 3) := by decide +kernel
theorem dX9_replaceLeaf_23 : decode cX9_replaceLeaf 23 = .ok (.aload_n 3, 1) := by decide +kernel
theorem dX9_replaceLeaf_24 : decode cX9_replaceLeaf 24 = .ok (.aload_n 1, 1) := by decide +kernel
theorem dX9_replaceLeaf_25 : decode cX9_replaceLeaf 25 = .ok (.getfield 62, 3) := by decide +kernel
theorem dX9_replaceLeaf_28 : decode cX9_replaceLeaf 28 = .ok (.putfield 62, 3) := by decide +kernel
theorem dX9_replaceLeaf_31 : decode cX9_replaceLeaf 31 = .ok (.aload_n 1, 1) := by decide +kernel
theorem dX9_replaceLeaf_32 : decode cX9_replaceLeaf 32 = .ok (.getfield 59, 3) := by decide +kernel
theorem dX9_replaceLeaf_35 : decode cX9_replaceLeaf 35 = .ok (.ifnonnull 11, 3) := by decide +kernel
theorem dX9_replaceLeaf_38 : decode cX9_replaceLeaf 38 = .ok (.aload_n 0, 1) := by decide +kernel
theorem dX9_replaceLeaf_39 : decode cX9_replaceLeaf 39 = .ok (.aload_n 2, 1) := by decide +kernel
theorem dX9_replaceLeaf_40 : decode cX9_replaceLeaf 40 = .ok (.putfield 35, 3) := by decide +kernel
theorem dX9_replaceLeaf_43 : decode cX9_replaceLeaf 43 = .ok (.goto 11, 3) := by decide +kernel
theorem dX9_replaceLeaf_46 : decode cX9_replaceLeaf 46 = .ok (.aload_n 1, 1) := by decide +kernel
theorem dX9_replaceLeaf_47 : decode cX9_replaceLeaf 47 = .ok (.getfield 59, 3) := by decide +kernel
theorem dX9_replaceLeaf_50 : decode cX9_replaceLeaf 50 = .ok (.aload_n 2, 1) := by decide +kernel
theorem dX9_replaceLeaf_51 : decode cX9_replaceLeaf 51 = .ok (.putfield 62, 3) := by decide +kernel
theorem dX9_replaceLeaf_54 : decode cX9_replaceLeaf 54 = .ok (.aload_n 1, 1) := by decide +kernel
theorem dX9_replaceLeaf_55 : decode cX9_replaceLeaf 55 = .ok (.getfield 62, 3) := by decide +kernel
theorem dX9_replaceLeaf_58 : decode cX9_replaceLeaf 58 = .ok (.ifnonnull 11, 3) := by decide +kernel
theorem dX9_replaceLeaf_61 : decode cX9_replaceLeaf 61 = .ok (.aload_n 0, 1) := by decide +kernel
theorem dX9_replaceLeaf_62 : decode cX9_replaceLeaf 62 = .ok (.aload_n 3, 1) := by decide +kernel
theorem dX9_replaceLeaf_63 : decode cX9_replaceLeaf 63 = .ok (.putfield 38, 3) := by decide +kernel
theorem dX9_replaceLeaf_66 : decode cX9_replaceLeaf 66 = .ok (.goto 11, 3) := by decide +kernel
theorem dX9_replaceLeaf_69 : decode cX9_replaceLeaf 69 = .ok (.aload_n 1, 1) := by decide +kernel
theorem dX9_replaceLeaf_70 : decode cX9_replaceLeaf 70 = .ok (.getfield 62, 3) := by decide +kernel
theorem dX9_replaceLeaf_73 : decode cX9_replaceLeaf 73 = .ok (.aload_n 3, 1) := by decide +kernel
theorem dX9_replaceLeaf_74 : decode cX9_replaceLeaf 74 = .ok (.putfield 59, 3) := by decide +kernel
theorem dX9_replaceLeaf_77 : decode cX9_replaceLeaf 77 = .ok (.return_, 1) := by decide +kernel
theorem dX9_owedBelow_0 : decode cX9_owedBelow 0 = .ok (.lconst 0, 1) := by decide +kernel
theorem dX9_owedBelow_1 : decode cX9_owedBelow 1 = .ok (.lstore_n 2, 1) := by decide +kernel
theorem dX9_owedBelow_2 : decode cX9_owedBelow 2 = .ok (.aload_n 0, 1) := by decide +kernel
theorem dX9_owedBelow_3 : decode cX9_owedBelow 3 = .ok (.getfield 35, 3) := by decide +kernel
theorem dX9_owedBelow_6 : decode cX9_owedBelow 6 = .ok (.astore 4, 2) := by decide +kernel
theorem dX9_owedBelow_8 : decode cX9_owedBelow 8 = .ok (.aload 4, 2) := by decide +kernel
theorem dX9_owedBelow_10 : decode cX9_owedBelow 10 = .ok (.ifnull 34, 3) := by decide +kernel
theorem dX9_owedBelow_13 : decode cX9_owedBelow 13 = .ok (.aload_n 1, 1) := by decide +kernel
theorem dX9_owedBelow_14 : decode cX9_owedBelow 14 = .ok (.ifnull 12, 3) := by decide +kernel
theorem dX9_owedBelow_17 : decode cX9_owedBelow 17 = .ok (.aload 4, 2) := by decide +kernel
theorem dX9_owedBelow_19 : decode cX9_owedBelow 19 = .ok (.aload_n 1, 1) := by decide +kernel
theorem dX9_owedBelow_20 : decode cX9_owedBelow 20 = .ok (.invokevirtual 65, 3) := by decide +kernel
theorem dX9_owedBelow_23 : decode cX9_owedBelow 23 = .ok (.ifCond .eq 11, 3) := by decide +kernel
theorem dX9_owedBelow_26 : decode cX9_owedBelow 26 = .ok (.lload_n 2, 1) := by decide +kernel
theorem dX9_owedBelow_27 : decode cX9_owedBelow 27 = .ok (.aload 4, 2) := by decide +kernel
theorem dX9_owedBelow_29 : decode cX9_owedBelow 29 = .ok (.getfield 69, 3) := by decide +kernel
theorem dX9_owedBelow_32 : decode cX9_owedBelow 32 = .ok (.ladd, 1) := by decide +kernel
theorem dX9_owedBelow_33 : decode cX9_owedBelow 33 = .ok (.lstore_n 2, 1) := by decide +kernel
theorem dX9_owedBelow_34 : decode cX9_owedBelow 34 = .ok (.aload 4, 2) := by decide +kernel
theorem dX9_owedBelow_36 : decode cX9_owedBelow 36 = .ok (.getfield 62, 3) := by decide +kernel
theorem dX9_owedBelow_39 : decode cX9_owedBelow 39 = .ok (.astore 4, 2) := by decide +kernel
theorem dX9_owedBelow_41 : decode cX9_owedBelow 41 = .ok (.goto (-33), 3) := by decide +kernel
theorem dX9_owedBelow_44 : decode cX9_owedBelow 44 = .ok (.lload_n 2, 1) := by decide +kernel
theorem dX9_owedBelow_45 : decode cX9_owedBelow 45 = .ok (.lreturn, 1) := by decide +kernel
theorem dX9_spreadDue_0 : decode cX9_spreadDue 0 = .ok (.lconst 0, 1) := by decide +kernel
theorem dX9_spreadDue_1 : decode cX9_spreadDue 1 = .ok (.lstore_n 2, 1) := by decide +kernel
theorem dX9_spreadDue_2 : decode cX9_spreadDue 2 = .ok (.lconst 0, 1) := by decide +kernel
theorem dX9_spreadDue_3 : decode cX9_spreadDue 3 = .ok (.lstore 4, 2) := by decide +kernel
theorem dX9_spreadDue_5 : decode cX9_spreadDue 5 = .ok (.aload_n 0, 1) := by decide +kernel
theorem dX9_spreadDue_6 : decode cX9_spreadDue 6 = .ok (.getfield 35, 3) := by decide +kernel
theorem dX9_spreadDue_9 : decode cX9_spreadDue 9 = .ok (.astore 6, 2) := by decide +kernel
theorem dX9_spreadDue_11 : decode cX9_spreadDue 11 = .ok (.aload 6, 2) := by decide +kernel
theorem dX9_spreadDue_13 : decode cX9_spreadDue 13 = .ok (.ifnull 46, 3) := by decide +kernel
theorem dX9_spreadDue_16 : decode cX9_spreadDue 16 = .ok (.lload_n 2, 1) := by decide +kernel
theorem dX9_spreadDue_17 : decode cX9_spreadDue 17 = .ok (.aload 6, 2) := by decide +kernel
theorem dX9_spreadDue_19 : decode cX9_spreadDue 19 = .ok (.getfield 69, 3) := by decide +kernel
theorem dX9_spreadDue_22 : decode cX9_spreadDue 22 = .ok (.ladd, 1) := by decide +kernel
theorem dX9_spreadDue_23 : decode cX9_spreadDue 23 = .ok (.lstore_n 2, 1) := by decide +kernel
theorem dX9_spreadDue_24 : decode cX9_spreadDue 24 = .ok (.aload_n 0, 1) := by decide +kernel
theorem dX9_spreadDue_25 : decode cX9_spreadDue 25 = .ok (.getfield 23, 3) := by decide +kernel
theorem dX9_spreadDue_28 : decode cX9_spreadDue 28 = .ok (.lload_n 2, 1) := by decide +kernel
theorem dX9_spreadDue_29 : decode cX9_spreadDue 29 = .ok (.iload_n 1, 1) := by decide +kernel
theorem dX9_spreadDue_30 : decode cX9_spreadDue 30 = .ok (.invokevirtual 72, 3) := by decide +kernel
theorem dX9_spreadDue_33 : decode cX9_spreadDue 33 = .ok (.lstore 7, 2) := by decide +kernel
theorem dX9_spreadDue_35 : decode cX9_spreadDue 35 = .ok (.aload 6, 2) := by decide +kernel
theorem dX9_spreadDue_37 : decode cX9_spreadDue 37 = .ok (.lload 7, 2) := by decide +kernel
theorem dX9_spreadDue_39 : decode cX9_spreadDue 39 = .ok (.lload 4, 2) := by decide +kernel
theorem dX9_spreadDue_41 : decode cX9_spreadDue 41 = .ok (.lsub, 1) := by decide +kernel
theorem dX9_spreadDue_42 : decode cX9_spreadDue 42 = .ok (.putfield 78, 3) := by decide +kernel
theorem dX9_spreadDue_45 : decode cX9_spreadDue 45 = .ok (.lload 7, 2) := by decide +kernel
theorem dX9_spreadDue_47 : decode cX9_spreadDue 47 = .ok (.lstore 4, 2) := by decide +kernel
theorem dX9_spreadDue_49 : decode cX9_spreadDue 49 = .ok (.aload 6, 2) := by decide +kernel
theorem dX9_spreadDue_51 : decode cX9_spreadDue 51 = .ok (.getfield 62, 3) := by decide +kernel
theorem dX9_spreadDue_54 : decode cX9_spreadDue 54 = .ok (.astore 6, 2) := by decide +kernel
theorem dX9_spreadDue_56 : decode cX9_spreadDue 56 = .ok (.goto (-45), 3) := by decide +kernel
theorem dX9_spreadDue_59 : decode cX9_spreadDue 59 = .ok (.return_, 1) := by decide +kernel
theorem dX9_leafDueBelow_0 : decode cX9_leafDueBelow 0 = .ok (.lconst 0, 1) := by decide +kernel
theorem dX9_leafDueBelow_1 : decode cX9_leafDueBelow 1 = .ok (.lstore_n 2, 1) := by decide +kernel
theorem dX9_leafDueBelow_2 : decode cX9_leafDueBelow 2 = .ok (.aload_n 0, 1) := by decide +kernel
theorem dX9_leafDueBelow_3 : decode cX9_leafDueBelow 3 = .ok (.getfield 35, 3) := by decide +kernel
theorem dX9_leafDueBelow_6 : decode cX9_leafDueBelow 6 = .ok (.astore 4, 2) := by decide +kernel
theorem dX9_leafDueBelow_8 : decode cX9_leafDueBelow 8 = .ok (.aload 4, 2) := by decide +kernel
theorem dX9_leafDueBelow_10 : decode cX9_leafDueBelow 10 = .ok (.ifnull 30, 3) := by decide +kernel
theorem dX9_leafDueBelow_13 : decode cX9_leafDueBelow 13 = .ok (.aload 4, 2) := by decide +kernel
theorem dX9_leafDueBelow_15 : decode cX9_leafDueBelow 15 = .ok (.aload_n 1, 1) := by decide +kernel
theorem dX9_leafDueBelow_16 : decode cX9_leafDueBelow 16 = .ok (.invokevirtual 65, 3) := by decide +kernel
theorem dX9_leafDueBelow_19 : decode cX9_leafDueBelow 19 = .ok (.ifCond .eq 11, 3) := by decide +kernel
theorem dX9_leafDueBelow_22 : decode cX9_leafDueBelow 22 = .ok (.lload_n 2, 1) := by decide +kernel
theorem dX9_leafDueBelow_23 : decode cX9_leafDueBelow 23 = .ok (.aload 4, 2) := by decide +kernel
theorem dX9_leafDueBelow_25 : decode cX9_leafDueBelow 25 = .ok (.getfield 78, 3) := by decide +kernel
theorem dX9_leafDueBelow_28 : decode cX9_leafDueBelow 28 = .ok (.ladd, 1) := by decide +kernel
theorem dX9_leafDueBelow_29 : decode cX9_leafDueBelow 29 = .ok (.lstore_n 2, 1) := by decide +kernel
theorem dX9_leafDueBelow_30 : decode cX9_leafDueBelow 30 = .ok (.aload 4, 2) := by decide +kernel
theorem dX9_leafDueBelow_32 : decode cX9_leafDueBelow 32 = .ok (.getfield 62, 3) := by decide +kernel
theorem dX9_leafDueBelow_35 : decode cX9_leafDueBelow 35 = .ok (.astore 4, 2) := by decide +kernel
theorem dX9_leafDueBelow_37 : decode cX9_leafDueBelow 37 = .ok (.goto (-29), 3) := by decide +kernel
theorem dX9_leafDueBelow_40 : decode cX9_leafDueBelow 40 = .ok (.lload_n 2, 1) := by decide +kernel
theorem dX9_leafDueBelow_41 : decode cX9_leafDueBelow 41 = .ok (.lreturn, 1) := by decide +kernel
