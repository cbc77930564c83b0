theorem dX10_init_0 : decode cX10_init 0 = .ok (.aload_n 0, 1) := by decide +kernel
theorem dX10_init_1 : decode cX10_init 1 = .ok (.invokespecial 1, 3) := by decide +kernel
theorem dX10_init_4 : decode cX10_init 4 = .ok (.aload_n 0, 1) := by decide +kernel
theorem dX10_init_5 : decode cX10_init 5 = .ok (.bipush 40, 2) := by decide +kernel
theorem dX10_init_7 : decode cX10_init 7 = .ok (.anewarray 9, 3) := by decide +kernel
theorem dX10_init_10 : decode cX10_init 10 = .ok (.putfield 11, 3) := by decide +kernel
theorem dX10_init_13 : decode cX10_init 13 = .ok (.aload_n 0, 1) := by decide +kernel
theorem dX10_init_14 : decode cX10_init 14 = .ok (.sipush 300, 3) := by decide +kernel
theorem dX10_init_17 : decode cX10_init 17 = .ok (.anewarray 15, 3) := by decide +kernel
theorem dX10_init_20 : decode cX10_init 20 = .ok (.putfield 17, 3) := by decide +kernel
theorem dX10_init_23 : decode cX10_init 23 = .ok (.aload_n 0, 1) := by decide +kernel
theorem dX10_init_24 : decode cX10_init 24 = .ok (.new 21, 3) := by decide +kernel
theorem dX10_init_27 : decode cX10_init 27 = .ok (.dup, 1) := by decide +kernel
theorem dX10_init_28 : decode cX10_init 28 = .ok (.invokespecial 23, 3) := by decide +kernel
theorem dX10_init_31 : decode cX10_init 31 = .ok (.putfield 24, 3) := by decide +kernel
theorem dX10_init_34 : decode cX10_init 34 = .ok (.aload_n 0, 1) := by decide +kernel
theorem dX10_init_35 : decode cX10_init 35 = .ok (.new 28, 3) := by decide +kernel
theorem dX10_init_38 : decode cX10_init 38 = .ok (.dup, 1) := by decide +kernel
theorem dX10_init_39 : decode cX10_init 39 = .ok (.iconst 0, 1) := by decide +kernel
theorem dX10_init_40 : decode cX10_init 40 = .ok (.iconst 0, 1) := by decide +kernel
theorem dX10_init_41 : decode cX10_init 41 = .ok (.invokespecial 30, 3) := by decide +kernel
theorem dX10_init_44 : decode cX10_init 44 = .ok (.putfield 33, 3) := by decide +kernel
theorem dX10_init_47 : decode cX10_init 47 = .ok (.return_, 1) := by decide +kernel
theorem dX10_folio_0 : decode cX10_folio 0 = .ok (.aload_n 0, 1) := by decide +kernel
theorem dX10_folio_1 : decode cX10_folio 1 = .ok (.aload_n 0, 1) := by decide +kernel
theorem dX10_folio_2 : decode cX10_folio 2 = .ok (.iload_n 1, 1) := by decide +kernel
theorem dX10_folio_3 : decode cX10_folio 3 = .ok (.invokevirtual 37, 3) := by decide +kernel
theorem dX10_folio_6 : decode cX10_folio 6 = .ok (.invokevirtual 41, 3) := by decide +kernel
theorem dX10_folio_9 : decode cX10_folio 9 = .ok (.ifCond .ne 5, 3) := by decide +kernel
theorem dX10_folio_12 : decode cX10_folio 12 = .ok (.iconst (-1), 1) := by decide +kernel
theorem dX10_folio_13 : decode cX10_folio 13 = .ok (.ireturn, 1) := by decide +kernel
theorem dX10_folio_14 : decode cX10_folio 14 = .ok (.aload_n 0, 1) := by decide +kernel
theorem dX10_folio_15 : decode cX10_folio 15 = .ok (.getfield 45, 3) := by decide +kernel
theorem dX10_folio_18 : decode cX10_folio 18 = .ok (.istore_n 2, 1) := by decide +kernel
theorem dX10_folio_19 : decode cX10_folio 19 = .ok (.aload_n 0, 1) := by decide +kernel
theorem dX10_folio_20 : decode cX10_folio 20 = .ok (.getfield 11, 3) := by decide +kernel
theorem dX10_folio_23 : decode cX10_folio 23 = .ok (.iload_n 2, 1) := by decide +kernel
theorem dX10_folio_24 : decode cX10_folio 24 = .ok (.new 9, 3) := by decide +kernel
theorem dX10_folio_27 : decode cX10_folio 27 = .ok (.dup, 1) := by decide +kernel
theorem dX10_folio_28 : decode cX10_folio 28 = .ok (.iload_n 2, 1) := by decide +kernel
theorem dX10_folio_29 : decode cX10_folio 29 = .ok (.iload_n 1, 1) := by decide +kernel
theorem dX10_folio_30 : decode cX10_folio 30 = .ok (.invokespecial 49, 3) := by decide +kernel
theorem dX10_folio_33 : decode cX10_folio 33 = .ok (.aastore, 1) := by decide +kernel
theorem dX10_folio_34 : decode cX10_folio 34 = .ok (.aload_n 0, 1) := by decide +kernel
theorem dX10_folio_35 : decode cX10_folio 35 = .ok (.dup, 1) := by decide +kernel
theorem dX10_folio_36 : decode cX10_folio 36 = .ok (.getfield 45, 3) := by decide +kernel
theorem dX10_folio_39 : decode cX10_folio 39 = .ok (.iconst 1, 1) := by decide +kernel
theorem dX10_folio_40 : decode cX10_folio 40 = .ok (.iadd, 1) := by decide +kernel
theorem dX10_folio_41 : decode cX10_folio 41 = .ok (.putfield 45, 3) := by decide +kernel
theorem dX10_folio_44 : decode cX10_folio 44 = .ok (.iload_n 2, 1) := by decide +kernel
theorem dX10_folio_45 : decode cX10_folio 45 = .ok (.ireturn, 1) := by decide +kernel
theorem dX10_folioFault_0 : decode cX10_folioFault 0 = .ok (.iload_n 1, 1) := by decide +kernel
theorem dX10_folioFault_1 : decode cX10_folioFault 1 = .ok (.iconst 1, 1) := by decide +kernel
theorem dX10_folioFault_2 : decode cX10_folioFault 2 = .ok (.if_icmp .lt 9, 3) := by decide +kernel
theorem dX10_folioFault_5 : decode cX10_folioFault 5 = .ok (.iload_n 1, 1) := by decide +kernel
theorem dX10_folioFault_6 : decode cX10_folioFault 6 = .ok (.bipush 60, 2) := by decide +kernel
theorem dX10_folioFault_8 : decode cX10_folioFault 8 = .ok (.if_icmp .le 5, 3) := by decide +kernel
theorem dX10_folioFault_11 : decode cX10_folioFault 11 = .ok (.iconst 5, 1) := by decide +kernel
theorem dX10_folioFault_12 : decode cX10_folioFault 12 = .ok (.ireturn, 1) := by decide +kernel
theorem dX10_folioFault_13 : decode cX10_folioFault 13 = .ok (.aload_n 0, 1) := by decide +kernel
theorem dX10_folioFault_14 : decode cX10_folioFault 14 = .ok (.getfield 45, 3) := by decide +kernel
theorem dX10_folioFault_17 : decode cX10_folioFault 17 = .ok (.bipush 40, 2) := by decide +kernel
theorem dX10_folioFault_19 : decode cX10_folioFault 19 = .ok (.if_icmp .lt 8, 3) := by decide +kernel
theorem dX10_folioFault_22 : decode cX10_folioFault 22 = .ok (.bipush 10, 2) := by decide +kernel
theorem dX10_folioFault_24 : decode cX10_folioFault 24 = .ok (.goto 4, 3) := by decide +kernel
theorem dX10_folioFault_27 : decode cX10_folioFault 27 = .ok (.iconst 0, 1) := by decide +kernel
theorem dX10_folioFault_28 : decode cX10_folioFault 28 = .ok (.ireturn, 1) := by decide +kernel
theorem dX10_tear_0 : decode cX10_tear 0 = .ok (.aload_n 0, 1) := by decide +kernel
theorem dX10_tear_1 : decode cX10_tear 1 = .ok (.iload_n 1, 1) := by decide +kernel
theorem dX10_tear_2 : decode cX10_tear 2 = .ok (.invokevirtual 50, 3) := by decide +kernel
theorem dX10_tear_5 : decode cX10_tear 5 = .ok (.astore_n 3, 1) := by decide +kernel
theorem dX10_tear_6 : decode cX10_tear 6 = .ok (.aload_n 0, 1) := by decide +kernel
theorem dX10_tear_7 : decode cX10_tear 7 = .ok (.aload_n 3, 1) := by decide +kernel
theorem dX10_tear_8 : decode cX10_tear 8 = .ok (.iload_n 2, 1) := by decide +kernel
theorem dX10_tear_9 : decode cX10_tear 9 = .ok (.invokestatic 54, 3) := by decide +kernel
theorem dX10_tear_12 : decode cX10_tear 12 = .ok (.invokevirtual 41, 3) := by decide +kernel
theorem dX10_tear_15 : decode cX10_tear 15 = .ok (.ifCond .eq 7, 3) := by decide +kernel
theorem dX10_tear_18 : decode cX10_tear 18 = .ok (.aload_n 3, 1) := by decide +kernel
theorem dX10_tear_19 : decode cX10_tear 19 = .ok (.ifnonnull 5, 3) := by decide +kernel
theorem dX10_tear_22 : decode cX10_tear 22 = .ok (.iconst 0, 1) := by decide +kernel
theorem dX10_tear_23 : decode cX10_tear 23 = .ok (.ireturn, 1) := by decide +kernel
theorem dX10_tear_24 : decode cX10_tear 24 = .ok (.aload_n 3, 1) := by decide +kernel
theorem dX10_tear_25 : decode cX10_tear 25 = .ok (.iload_n 2, 1) := by decide +kernel
theorem dX10_tear_26 : decode cX10_tear 26 = .ok (.invokevirtual 58, 3) := by decide +kernel
theorem dX10_tear_29 : decode cX10_tear 29 = .ok (.iconst 1, 1) := by decide +kernel
theorem dX10_tear_30 : decode cX10_tear 30 = .ok (.ireturn, 1) := by decide +kernel
theorem dX10_day_0 : decode cX10_day 0 = .ok (.aload_n 0, 1) := by decide +kernel
theorem dX10_day_1 : decode cX10_day 1 = .ok (.aload_n 0, 1) := by decide +kernel
theorem dX10_day_2 : decode cX10_day 2 = .ok (.iload_n 1, 1) := by decide +kernel
theorem dX10_day_3 : decode cX10_day 3 = .ok (.invokevirtual 62, 3) := by decide +kernel
theorem dX10_day_6 : decode cX10_day 6 = .ok (.invokevirtual 41, 3) := by decide +kernel
theorem dX10_day_9 : decode cX10_day 9 = .ok (.ifCond .ne 5, 3) := by decide +kernel
theorem dX10_day_12 : decode cX10_day 12 = .ok (.iconst 0, 1) := by decide +kernel
theorem dX10_day_13 : decode cX10_day 13 = .ok (.ireturn, 1) := by decide +kernel
theorem dX10_day_14 : decode cX10_day 14 = .ok (.aload_n 0, 1) := by decide +kernel
theorem dX10_day_15 : decode cX10_day 15 = .ok (.new 28, 3) := by decide +kernel
theorem dX10_day_18 : decode cX10_day 18 = .ok (.dup, 1) := by decide +kernel
theorem dX10_day_19 : decode cX10_day 19 = .ok (.iload_n 1, 1) := by decide +kernel
theorem dX10_day_20 : decode cX10_day 20 = .ok (.iload_n 1, 1) := by decide +kernel
theorem dX10_day_21 : decode cX10_day 21 = .ok (.invokespecial 30, 3) := by decide +kernel
theorem dX10_day_24 : decode cX10_day 24 = .ok (.putfield 33, 3) := by decide +kernel
theorem dX10_day_27 : decode cX10_day 27 = .ok (.aload_n 0, 1) := by decide +kernel
theorem dX10_day_28 : decode cX10_day 28 = .ok (.iload_n 1, 1) := by decide +kernel
theorem dX10_day_29 : decode cX10_day 29 = .ok (.putfield 65, 3) := by decide +kernel
theorem dX10_day_32 : decode cX10_day 32 = .ok (.iconst 1, 1) := by decide +kernel
theorem dX10_day_33 : decode cX10_day 33 = .ok (.ireturn, 1) := by decide +kernel
theorem dX10_dayFault_0 : decode cX10_dayFault 0 = .ok (.iload_n 1, 1) := by decide +kernel
theorem dX10_dayFault_1 : decode cX10_dayFault 1 = .ok (.ldc 68, 2) := by decide +kernel
theorem dX10_dayFault_3 : decode cX10_dayFault 3 = .ok (.if_icmp .le 5, 3) := by decide +kernel
theorem dX10_dayFault_6 : decode cX10_dayFault 6 = .ok (.iconst 5, 1) := by decide +kernel
theorem dX10_dayFault_7 : decode cX10_dayFault 7 = .ok (.ireturn, 1) := by decide +kernel
theorem dX10_dayFault_8 : decode cX10_dayFault 8 = .ok (.iload_n 1, 1) := by decide +kernel
theorem dX10_dayFault_9 : decode cX10_dayFault 9 = .ok (.aload_n 0, 1) := by decide +kernel
theorem dX10_dayFault_10 : decode cX10_dayFault 10 = .ok (.getfield 33, 3) := by decide +kernel
theorem dX10_dayFault_13 : decode cX10_dayFault 13 = .ok (.getfield 69, 3) := by decide +kernel
theorem dX10_dayFault_16 : decode cX10_dayFault 16 = .ok (.if_icmp .ge 8, 3) := by decide +kernel
theorem dX10_dayFault_19 : decode cX10_dayFault 19 = .ok (.bipush 8, 2) := by decide +kernel
theorem dX10_dayFault_21 : decode cX10_dayFault 21 = .ok (.goto 4, 3) := by decide +kernel
theorem dX10_dayFault_24 : decode cX10_dayFault 24 = .ok (.iconst 0, 1) := by decide +kernel
theorem dX10_dayFault_25 : decode cX10_dayFault 25 = .ok (.ireturn, 1) := by decide +kernel
theorem dX10_since_0 : decode cX10_since 0 = .ok (.aload_n 0, 1) := by decide +kernel
theorem dX10_since_1 : decode cX10_since 1 = .ok (.aload_n 0, 1) := by decide +kernel
theorem dX10_since_2 : decode cX10_since 2 = .ok (.iload_n 1, 1) := by decide +kernel
theorem dX10_since_3 : decode cX10_since 3 = .ok (.invokevirtual 72, 3) := by decide +kernel
theorem dX10_since_6 : decode cX10_since 6 = .ok (.ifCond .eq 7, 3) := by decide +kernel
theorem dX10_since_9 : decode cX10_since 9 = .ok (.iconst 0, 1) := by decide +kernel
theorem dX10_since_10 : decode cX10_since 10 = .ok (.goto 4, 3) := by decide +kernel
theorem dX10_since_13 : decode cX10_since 13 = .ok (.iconst 5, 1) := by decide +kernel
theorem dX10_since_14 : decode cX10_since 14 = .ok (.invokevirtual 41, 3) := by decide +kernel
theorem dX10_since_17 : decode cX10_since 17 = .ok (.ifCond .ne 5, 3) := by decide +kernel
theorem dX10_since_20 : decode cX10_since 20 = .ok (.iconst 0, 1) := by decide +kernel
theorem dX10_since_21 : decode cX10_since 21 = .ok (.ireturn, 1) := by decide +kernel
theorem dX10_since_22 : decode cX10_since 22 = .ok (.aload_n 0, 1) := by decide +kernel
theorem dX10_since_23 : decode cX10_since 23 = .ok (.iload_n 1, 1) := by decide +kernel
theorem dX10_since_24 : decode cX10_since 24 = .ok (.putfield 65, 3) := by decide +kernel
theorem dX10_since_27 : decode cX10_since 27 = .ok (.iconst 1, 1) := by decide +kernel
theorem dX10_since_28 : decode cX10_since 28 = .ok (.ireturn, 1) := by decide +kernel
theorem dX10_enter_0 : decode cX10_enter 0 = .ok (.aload_n 0, 1) := by decide +kernel
theorem dX10_enter_1 : decode cX10_enter 1 = .ok (.iload_n 1, 1) := by decide +kernel
theorem dX10_enter_2 : decode cX10_enter 2 = .ok (.invokevirtual 50, 3) := by decide +kernel
theorem dX10_enter_5 : decode cX10_enter 5 = .ok (.astore 8, 2) := by decide +kernel
theorem dX10_enter_7 : decode cX10_enter 7 = .ok (.aload_n 0, 1) := by decide +kernel
theorem dX10_enter_8 : decode cX10_enter 8 = .ok (.aload_n 0, 1) := by decide +kernel
theorem dX10_enter_9 : decode cX10_enter 9 = .ok (.aload 8, 2) := by decide +kernel
theorem dX10_enter_11 : decode cX10_enter 11 = .ok (.iload_n 2, 1) := by decide +kernel
theorem dX10_enter_12 : decode cX10_enter 12 = .ok (.lload_n 3, 1) := by decide +kernel
theorem dX10_enter_13 : decode cX10_enter 13 = .ok (.iload 5, 2) := by decide +kernel
theorem dX10_enter_15 : decode cX10_enter 15 = .ok (.lload 6, 2) := by decide +kernel
theorem dX10_enter_17 : decode cX10_enter 17 = .ok (.invokevirtual 75, 3) := by decide +kernel
theorem dX10_enter_20 : decode cX10_enter 20 = .ok (.invokevirtual 41, 3) := by decide +kernel
theorem dX10_enter_23 : decode cX10_enter 23 = .ok (.ifCond .eq 8, 3) := by decide +kernel
theorem dX10_enter_26 : decode cX10_enter 26 = .ok (.aload 8, 2) := by decide +kernel
theorem dX10_enter_28 : decode cX10_enter 28 = .ok (.ifnonnull 5, 3) := by decide +kernel
theorem dX10_enter_31 : decode cX10_enter 31 = .ok (.iconst (-1), 1) := by decide +kernel
theorem dX10_enter_32 : decode cX10_enter 32 = .ok (.ireturn, 1) := by decide +kernel
theorem dX10_enter_33 : decode cX10_enter 33 = .ok (.aload_n 0, 1) := by decide +kernel
theorem dX10_enter_34 : decode cX10_enter 34 = .ok (.invokevirtual 79, 3) := by decide +kernel
theorem dX10_enter_37 : decode cX10_enter 37 = .ok (.astore 9, 2) := by decide +kernel
theorem dX10_enter_39 : decode cX10_enter 39 = .ok (.new 83, 3) := by decide +kernel
theorem dX10_enter_42 : decode cX10_enter 42 = .ok (.dup, 1) := by decide +kernel
theorem dX10_enter_43 : decode cX10_enter 43 = .ok (.iload_n 2, 1) := by decide +kernel
theorem dX10_enter_44 : decode cX10_enter 44 = .ok (.iload 5, 2) := by decide +kernel
theorem dX10_enter_46 : decode cX10_enter 46 = .ok (.lload_n 3, 1) := by decide +kernel
theorem dX10_enter_47 : decode cX10_enter 47 = .ok (.aload 9, 2) := by decide +kernel
theorem dX10_enter_49 : decode cX10_enter 49 = .ok (.getfield 85, 3) := by decide +kernel
theorem dX10_enter_52 : decode cX10_enter 52 = .ok (.invokespecial 90, 3) := by decide +kernel
theorem dX10_enter_55 : decode cX10_enter 55 = .ok (.astore 10, 2) := by decide +kernel
theorem dX10_enter_57 : decode cX10_enter 57 = .ok (.new 93, 3) := by decide +kernel
theorem dX10_enter_60 : decode cX10_enter 60 = .ok (.dup, 1) := by decide +kernel
theorem dX10_enter_61 : decode cX10_enter 61 = .ok (.aload 8, 2) := by decide +kernel
theorem dX10_enter_63 : decode cX10_enter 63 = .ok (.lload 6, 2) := by decide +kernel
theorem dX10_enter_65 : decode cX10_enter 65 = .ok (.aload 9, 2) := by decide +kernel
theorem dX10_enter_67 : decode cX10_enter 67 = .ok (.aload 10, 2) := by decide +kernel
theorem dX10_enter_69 : decode cX10_enter 69 = .ok (.invokespecial 95, 3) := by decide +kernel
theorem dX10_enter_72 : decode cX10_enter 72 = .ok (.astore 11, 2) := by decide +kernel
theorem dX10_enter_74 : decode cX10_enter 74 = .ok (.new 15, 3) := by decide +kernel
theorem dX10_enter_77 : decode cX10_enter 77 = .ok (.dup, 1) := by decide +kernel
theorem dX10_enter_78 : decode cX10_enter 78 = .ok (.aload_n 0, 1) := by decide +kernel
theorem dX10_enter_79 : decode cX10_enter 79 = .ok (.getfield 98, 3) := by decide +kernel
theorem dX10_enter_82 : decode cX10_enter 82 = .ok (.iconst 1, 1) := by decide +kernel
theorem dX10_enter_83 : decode cX10_enter 83 = .ok (.iadd, 1) := by decide +kernel
theorem dX10_enter_84 : decode cX10_enter 84 = .ok (.aload 11, 2) := by decide +kernel
theorem dX10_enter_86 : decode cX10_enter 86 = .ok (.aconst_null, 1) := by decide +kernel
theorem dX10_enter_87 : decode cX10_enter 87 = .ok (.iload_n 2, 1) := by decide +kernel
theorem dX10_enter_88 : decode cX10_enter 88 = .ok (.iconst 3, 1) := by decide +kernel
theorem dX10_enter_89 : decode cX10_enter 89 = .ok (.if_icmp .ne 7, 3) := by decide +kernel
theorem dX10_enter_92 : decode cX10_enter 92 = .ok (.lconst 0, 1) := by decide +kernel
theorem dX10_enter_93 : decode cX10_enter 93 = .ok (.goto 4, 3) := by decide +kernel
theorem dX10_enter_96 : decode cX10_enter 96 = .ok (.lload_n 3, 1) := by decide +kernel
theorem dX10_enter_97 : decode cX10_enter 97 = .ok (.iconst 0, 1) := by decide +kernel
theorem dX10_enter_98 : decode cX10_enter 98 = .ok (.invokespecial 101, 3) := by decide +kernel
theorem dX10_enter_101 : decode cX10_enter 101 = .ok (.astore 12, 2) := by decide +kernel
theorem dX10_enter_103 : decode cX10_enter 103 = .ok (.aload 11, 2) := by decide +kernel
theorem dX10_enter_105 : decode cX10_enter 105 = .ok (.aload 12, 2) := by decide +kernel
theorem dX10_enter_107 : decode cX10_enter 107 = .ok (.invokevirtual 104, 3) := by decide +kernel
theorem dX10_enter_110 : decode cX10_enter 110 = .ok (.aload 8, 2) := by decide +kernel
theorem dX10_enter_112 : decode cX10_enter 112 = .ok (.aload 11, 2) := by decide +kernel
theorem dX10_enter_114 : decode cX10_enter 114 = .ok (.invokevirtual 108, 3) := by decide +kernel
theorem dX10_enter_117 : decode cX10_enter 117 = .ok (.aload_n 0, 1) := by decide +kernel
theorem dX10_enter_118 : decode cX10_enter 118 = .ok (.aload 12, 2) := by decide +kernel
theorem dX10_enter_120 : decode cX10_enter 120 = .ok (.invokevirtual 112, 3) := by decide +kernel
theorem dX10_enter_123 : decode cX10_enter 123 = .ok (.ireturn, 1) := by decide +kernel
theorem dX10_enterFault_0 : decode cX10_enterFault 0 = .ok (.aload_n 1, 1) := by decide +kernel
theorem dX10_enterFault_1 : decode cX10_enterFault 1 = .ok (.ifnonnull 5, 3) := by decide +kernel
theorem dX10_enterFault_4 : decode cX10_enterFault 4 = .ok (.iconst 1, 1) := by decide +kernel
theorem dX10_enterFault_5 : decode cX10_enterFault 5 = .ok (.ireturn, 1) := by decide +kernel
theorem dX10_enterFault_6 : decode cX10_enterFault 6 = .ok (.lload 6, 2) := by decide +kernel
theorem dX10_enterFault_8 : decode cX10_enterFault 8 = .ok (.lconst 0, 1) := by decide +kernel
theorem dX10_enterFault_9 : decode cX10_enterFault 9 = .ok (.lcmp, 1) := by decide +kernel
theorem dX10_enterFault_10 : decode cX10_enterFault 10 = .ok (.ifCond .eq 19, 3) := by decide +kernel
theorem dX10_enterFault_13 : decode cX10_enterFault 13 = .ok (.lload 6, 2) := by decide +kernel
theorem dX10_enterFault_15 : decode cX10_enterFault 15 = .ok (.aload_n 1, 1) := by decide +kernel
theorem dX10_enterFault_16 : decode cX10_enterFault 16 = .ok (.invokevirtual 116, 3) := by decide +kernel
theorem dX10_enterFault_19 : decode cX10_enterFault 19 = .ok (.ldc2_w 120, 3) := by decide +kernel
theorem dX10_enterFault_22 : decode cX10_enterFault 22 = .ok (.lxor, 1) := by decide +kernel
theorem dX10_enterFault_23 : decode cX10_enterFault 23 = .ok (.land, 1) := by decide +kernel
theorem dX10_enterFault_24 : decode cX10_enterFault 24 = .ok (.lconst 0, 1) := by decide +kernel
theorem dX10_enterFault_25 : decode cX10_enterFault 25 = .ok (.lcmp, 1) := by decide +kernel
theorem dX10_enterFault_26 : decode cX10_enterFault 26 = .ok (.ifCond .eq 5, 3) := by decide +kernel
theorem dX10_enterFault_29 : decode cX10_enterFault 29 = .ok (.iconst 2, 1) := by decide +kernel
theorem dX10_enterFault_30 : decode cX10_enterFault 30 = .ok (.ireturn, 1) := by decide +kernel
theorem dX10_enterFault_31 : decode cX10_enterFault 31 = .ok (.lload 6, 2) := by decide +kernel
theorem dX10_enterFault_33 : decode cX10_enterFault 33 = .ok (.aload_n 1, 1) := by decide +kernel
theorem dX10_enterFault_34 : decode cX10_enterFault 34 = .ok (.getfield 122, 3) := by decide +kernel
theorem dX10_enterFault_37 : decode cX10_enterFault 37 = .ok (.land, 1) := by decide +kernel
theorem dX10_enterFault_38 : decode cX10_enterFault 38 = .ok (.lconst 0, 1) := by decide +kernel
theorem dX10_enterFault_39 : decode cX10_enterFault 39 = .ok (.lcmp, 1) := by decide +kernel
theorem dX10_enterFault_40 : decode cX10_enterFault 40 = .ok (.ifCond .eq 5, 3) := by decide +kernel
theorem dX10_enterFault_43 : decode cX10_enterFault 43 = .ok (.iconst 3, 1) := by decide +kernel
theorem dX10_enterFault_44 : decode cX10_enterFault 44 = .ok (.ireturn, 1) := by decide +kernel
theorem dX10_enterFault_45 : decode cX10_enterFault 45 = .ok (.iload_n 2, 1) := by decide +kernel
theorem dX10_enterFault_46 : decode cX10_enterFault 46 = .ok (.iconst 1, 1) := by decide +kernel
theorem dX10_enterFault_47 : decode cX10_enterFault 47 = .ok (.if_icmp .lt 30, 3) := by decide +kernel
theorem dX10_enterFault_50 : decode cX10_enterFault 50 = .ok (.iload_n 2, 1) := by decide +kernel
theorem dX10_enterFault_51 : decode cX10_enterFault 51 = .ok (.bipush 6, 2) := by decide +kernel
theorem dX10_enterFault_53 : decode cX10_enterFault 53 = .ok (.if_icmp .gt 24, 3) := by decide +kernel
theorem dX10_enterFault_56 : decode cX10_enterFault 56 = .ok (.lload_n 3, 1) := by decide +kernel
theorem dX10_enterFault_57 : decode cX10_enterFault 57 = .ok (.invokestatic 126, 3) := by decide +kernel
theorem dX10_enterFault_60 : decode cX10_enterFault 60 = .ok (.ifCond .eq 17, 3) := by decide +kernel
theorem dX10_enterFault_63 : decode cX10_enterFault 63 = .ok (.iload 5, 2) := by decide +kernel
theorem dX10_enterFault_65 : decode cX10_enterFault 65 = .ok (.ifCond .lt 12, 3) := by decide +kernel
theorem dX10_enterFault_68 : decode cX10_enterFault 68 = .ok (.iload 5, 2) := by decide +kernel
theorem dX10_enterFault_70 : decode cX10_enterFault 70 = .ok (.iload_n 2, 1) := by decide +kernel
theorem dX10_enterFault_71 : decode cX10_enterFault 71 = .ok (.invokestatic 130, 3) := by decide +kernel
theorem dX10_enterFault_74 : decode cX10_enterFault 74 = .ok (.if_icmp .le 5, 3) := by decide +kernel
theorem dX10_enterFault_77 : decode cX10_enterFault 77 = .ok (.iconst 5, 1) := by decide +kernel
theorem dX10_enterFault_78 : decode cX10_enterFault 78 = .ok (.ireturn, 1) := by decide +kernel
theorem dX10_enterFault_79 : decode cX10_enterFault 79 = .ok (.aload_n 0, 1) := by decide +kernel
theorem dX10_enterFault_80 : decode cX10_enterFault 80 = .ok (.getfield 98, 3) := by decide +kernel
theorem dX10_enterFault_83 : decode cX10_enterFault 83 = .ok (.sipush 300, 3) := by decide +kernel
theorem dX10_enterFault_86 : decode cX10_enterFault 86 = .ok (.if_icmp .lt 8, 3) := by decide +kernel
theorem dX10_enterFault_89 : decode cX10_enterFault 89 = .ok (.bipush 10, 2) := by decide +kernel
theorem dX10_enterFault_91 : decode cX10_enterFault 91 = .ok (.goto 4, 3) := by decide +kernel
theorem dX10_enterFault_94 : decode cX10_enterFault 94 = .ok (.iconst 0, 1) := by decide +kernel
theorem dX10_enterFault_95 : decode cX10_enterFault 95 = .ok (.ireturn, 1) := by decide +kernel
theorem dX10_maxRate_0 : decode cX10_maxRate 0 = .ok (.iload_n 0, 1) := by decide +kernel
theorem dX10_maxRate_1 : decode cX10_maxRate 1 = .ok (.iconst 4, 1) := by decide +kernel
theorem dX10_maxRate_2 : decode cX10_maxRate 2 = .ok (.if_icmp .eq 9, 3) := by decide +kernel
theorem dX10_maxRate_5 : decode cX10_maxRate 5 = .ok (.iload_n 0, 1) := by decide +kernel
theorem dX10_maxRate_6 : decode cX10_maxRate 6 = .ok (.bipush 6, 2) := by decide +kernel
theorem dX10_maxRate_8 : decode cX10_maxRate 8 = .ok (.if_icmp .ne 8, 3) := by decide +kernel
theorem dX10_maxRate_11 : decode cX10_maxRate 11 = .ok (.ldc 68, 2) := by decide +kernel
theorem dX10_maxRate_13 : decode cX10_maxRate 13 = .ok (.goto 6, 3) := by decide +kernel
theorem dX10_maxRate_16 : decode cX10_maxRate 16 = .ok (.sipush 200, 3) := by decide +kernel
theorem dX10_maxRate_19 : decode cX10_maxRate 19 = .ok (.ireturn, 1) := by decide +kernel
theorem dX10_claim_0 : decode cX10_claim 0 = .ok (.aload_n 0, 1) := by decide +kernel
theorem dX10_claim_1 : decode cX10_claim 1 = .ok (.iload_n 1, 1) := by decide +kernel
theorem dX10_claim_2 : decode cX10_claim 2 = .ok (.invokevirtual 133, 3) := by decide +kernel
theorem dX10_claim_5 : decode cX10_claim 5 = .ok (.astore 4, 2) := by decide +kernel
theorem dX10_claim_7 : decode cX10_claim 7 = .ok (.aload_n 0, 1) := by decide +kernel
theorem dX10_claim_8 : decode cX10_claim 8 = .ok (.aload 4, 2) := by decide +kernel
theorem dX10_claim_10 : decode cX10_claim 10 = .ok (.iload_n 2, 1) := by decide +kernel
theorem dX10_claim_11 : decode cX10_claim 11 = .ok (.iload_n 3, 1) := by decide +kernel
theorem dX10_claim_12 : decode cX10_claim 12 = .ok (.invokestatic 137, 3) := by decide +kernel
theorem dX10_claim_15 : decode cX10_claim 15 = .ok (.invokevirtual 41, 3) := by decide +kernel
theorem dX10_claim_18 : decode cX10_claim 18 = .ok (.ifCond .eq 8, 3) := by decide +kernel
theorem dX10_claim_21 : decode cX10_claim 21 = .ok (.aload 4, 2) := by decide +kernel
theorem dX10_claim_23 : decode cX10_claim 23 = .ok (.ifnonnull 5, 3) := by decide +kernel
theorem dX10_claim_26 : decode cX10_claim 26 = .ok (.iconst 0, 1) := by decide +kernel
theorem dX10_claim_27 : decode cX10_claim 27 = .ok (.ireturn, 1) := by decide +kernel
theorem dX10_claim_28 : decode cX10_claim 28 = .ok (.aload 4, 2) := by decide +kernel
theorem dX10_claim_30 : decode cX10_claim 30 = .ok (.getfield 141, 3) := by decide +kernel
theorem dX10_claim_33 : decode cX10_claim 33 = .ok (.getfield 145, 3) := by decide +kernel
theorem dX10_claim_36 : decode cX10_claim 36 = .ok (.iload_n 2, 1) := by decide +kernel
theorem dX10_claim_37 : decode cX10_claim 37 = .ok (.iload_n 3, 1) := by decide +kernel
theorem dX10_claim_38 : decode cX10_claim 38 = .ok (.aload_n 0, 1) := by decide +kernel
theorem dX10_claim_39 : decode cX10_claim 39 = .ok (.invokevirtual 79, 3) := by decide +kernel
theorem dX10_claim_42 : decode cX10_claim 42 = .ok (.invokevirtual 149, 3) := by decide +kernel
theorem dX10_claim_45 : decode cX10_claim 45 = .ok (.iconst 1, 1) := by decide +kernel
theorem dX10_claim_46 : decode cX10_claim 46 = .ok (.ireturn, 1) := by decide +kernel
theorem dX10_claimFault_0 : decode cX10_claimFault 0 = .ok (.aload_n 0, 1) := by decide +kernel
theorem dX10_claimFault_1 : decode cX10_claimFault 1 = .ok (.ifnonnull 5, 3) := by decide +kernel
theorem dX10_claimFault_4 : decode cX10_claimFault 4 = .ok (.iconst 1, 1) := by decide +kernel
theorem dX10_claimFault_5 : decode cX10_claimFault 5 = .ok (.ireturn, 1) := by decide +kernel
theorem dX10_claimFault_6 : decode cX10_claimFault 6 = .ok (.aload_n 0, 1) := by decide +kernel
theorem dX10_claimFault_7 : decode cX10_claimFault 7 = .ok (.getfield 153, 3) := by decide +kernel
theorem dX10_claimFault_10 : decode cX10_claimFault 10 = .ok (.ifnonnull 17, 3) := by decide +kernel
theorem dX10_claimFault_13 : decode cX10_claimFault 13 = .ok (.aload_n 0, 1) := by decide +kernel
theorem dX10_claimFault_14 : decode cX10_claimFault 14 = .ok (.getfield 141, 3) := by decide +kernel
theorem dX10_claimFault_17 : decode cX10_claimFault 17 = .ok (.getfield 145, 3) := by decide +kernel
theorem dX10_claimFault_20 : decode cX10_claimFault 20 = .ok (.getfield 157, 3) := by decide +kernel
theorem dX10_claimFault_23 : decode cX10_claimFault 23 = .ok (.iconst 5, 1) := by decide +kernel
theorem dX10_claimFault_24 : decode cX10_claimFault 24 = .ok (.if_icmp .eq 5, 3) := by decide +kernel
theorem dX10_claimFault_27 : decode cX10_claimFault 27 = .ok (.iconst 4, 1) := by decide +kernel
theorem dX10_claimFault_28 : decode cX10_claimFault 28 = .ok (.ireturn, 1) := by decide +kernel
theorem dX10_claimFault_29 : decode cX10_claimFault 29 = .ok (.iload_n 1, 1) := by decide +kernel
theorem dX10_claimFault_30 : decode cX10_claimFault 30 = .ok (.ifCond .lt 20, 3) := by decide +kernel
theorem dX10_claimFault_33 : decode cX10_claimFault 33 = .ok (.iload_n 1, 1) := by decide +kernel
theorem dX10_claimFault_34 : decode cX10_claimFault 34 = .ok (.ldc 68, 2) := by decide +kernel
theorem dX10_claimFault_36 : decode cX10_claimFault 36 = .ok (.if_icmp .gt 14, 3) := by decide +kernel
theorem dX10_claimFault_39 : decode cX10_claimFault 39 = .ok (.iload_n 2, 1) := by decide +kernel
theorem dX10_claimFault_40 : decode cX10_claimFault 40 = .ok (.iconst 1, 1) := by decide +kernel
theorem dX10_claimFault_41 : decode cX10_claimFault 41 = .ok (.if_icmp .lt 9, 3) := by decide +kernel
theorem dX10_claimFault_44 : decode cX10_claimFault 44 = .ok (.iload_n 2, 1) := by decide +kernel
theorem dX10_claimFault_45 : decode cX10_claimFault 45 = .ok (.bipush 30, 2) := by decide +kernel
theorem dX10_claimFault_47 : decode cX10_claimFault 47 = .ok (.if_icmp .le 5, 3) := by decide +kernel
theorem dX10_claimFault_50 : decode cX10_claimFault 50 = .ok (.iconst 5, 1) := by decide +kernel
theorem dX10_claimFault_51 : decode cX10_claimFault 51 = .ok (.ireturn, 1) := by decide +kernel
theorem dX10_claimFault_52 : decode cX10_claimFault 52 = .ok (.aload_n 0, 1) := by decide +kernel
theorem dX10_claimFault_53 : decode cX10_claimFault 53 = .ok (.getfield 141, 3) := by decide +kernel
theorem dX10_claimFault_56 : decode cX10_claimFault 56 = .ok (.getfield 145, 3) := by decide +kernel
theorem dX10_claimFault_59 : decode cX10_claimFault 59 = .ok (.getfield 160, 3) := by decide +kernel
theorem dX10_claimFault_62 : decode cX10_claimFault 62 = .ok (.ifnull 8, 3) := by decide +kernel
theorem dX10_claimFault_65 : decode cX10_claimFault 65 = .ok (.bipush 8, 2) := by decide +kernel
theorem dX10_claimFault_67 : decode cX10_claimFault 67 = .ok (.goto 4, 3) := by decide +kernel
theorem dX10_claimFault_70 : decode cX10_claimFault 70 = .ok (.iconst 0, 1) := by decide +kernel
theorem dX10_claimFault_71 : decode cX10_claimFault 71 = .ok (.ireturn, 1) := by decide +kernel
theorem dX10_owe_0 : decode cX10_owe 0 = .ok (.aload_n 0, 1) := by decide +kernel
theorem dX10_owe_1 : decode cX10_owe 1 = .ok (.iload_n 1, 1) := by decide +kernel
theorem dX10_owe_2 : decode cX10_owe 2 = .ok (.invokevirtual 133, 3) := by decide +kernel
theorem dX10_owe_5 : decode cX10_owe 5 = .ok (.astore 4, 2) := by decide +kernel
theorem dX10_owe_7 : decode cX10_owe 7 = .ok (.aload_n 0, 1) := by decide +kernel
theorem dX10_owe_8 : decode cX10_owe 8 = .ok (.aload_n 0, 1) := by decide +kernel
theorem dX10_owe_9 : decode cX10_owe 9 = .ok (.aload 4, 2) := by decide +kernel
theorem dX10_owe_11 : decode cX10_owe 11 = .ok (.lload_n 2, 1) := by decide +kernel
theorem dX10_owe_12 : decode cX10_owe 12 = .ok (.invokevirtual 164, 3) := by decide +kernel
theorem dX10_owe_15 : decode cX10_owe 15 = .ok (.invokevirtual 41, 3) := by decide +kernel
theorem dX10_owe_18 : decode cX10_owe 18 = .ok (.ifCond .eq 8, 3) := by decide +kernel
theorem dX10_owe_21 : decode cX10_owe 21 = .ok (.aload 4, 2) := by decide +kernel
theorem dX10_owe_23 : decode cX10_owe 23 = .ok (.ifnonnull 5, 3) := by decide +kernel
theorem dX10_owe_26 : decode cX10_owe 26 = .ok (.iconst 0, 1) := by decide +kernel
theorem dX10_owe_27 : decode cX10_owe 27 = .ok (.ireturn, 1) := by decide +kernel
theorem dX10_owe_28 : decode cX10_owe 28 = .ok (.aload 4, 2) := by decide +kernel
theorem dX10_owe_30 : decode cX10_owe 30 = .ok (.lload_n 2, 1) := by decide +kernel
theorem dX10_owe_31 : decode cX10_owe 31 = .ok (.putfield 168, 3) := by decide +kernel
theorem dX10_owe_34 : decode cX10_owe 34 = .ok (.iconst 1, 1) := by decide +kernel
theorem dX10_owe_35 : decode cX10_owe 35 = .ok (.ireturn, 1) := by decide +kernel
theorem dX10_oweFault_0 : decode cX10_oweFault 0 = .ok (.aload_n 1, 1) := by decide +kernel
theorem dX10_oweFault_1 : decode cX10_oweFault 1 = .ok (.ifnonnull 5, 3) := by decide +kernel
theorem dX10_oweFault_4 : decode cX10_oweFault 4 = .ok (.iconst 1, 1) := by decide +kernel
theorem dX10_oweFault_5 : decode cX10_oweFault 5 = .ok (.ireturn, 1) := by decide +kernel
theorem dX10_oweFault_6 : decode cX10_oweFault 6 = .ok (.aload_n 1, 1) := by decide +kernel
theorem dX10_oweFault_7 : decode cX10_oweFault 7 = .ok (.getfield 141, 3) := by decide +kernel
theorem dX10_oweFault_10 : decode cX10_oweFault 10 = .ok (.getfield 145, 3) := by decide +kernel
theorem dX10_oweFault_13 : decode cX10_oweFault 13 = .ok (.astore 4, 2) := by decide +kernel
theorem dX10_oweFault_15 : decode cX10_oweFault 15 = .ok (.aload 4, 2) := by decide +kernel
theorem dX10_oweFault_17 : decode cX10_oweFault 17 = .ok (.getfield 157, 3) := by decide +kernel
theorem dX10_oweFault_20 : decode cX10_oweFault 20 = .ok (.iconst 3, 1) := by decide +kernel
theorem dX10_oweFault_21 : decode cX10_oweFault 21 = .ok (.if_icmp .eq 5, 3) := by decide +kernel
theorem dX10_oweFault_24 : decode cX10_oweFault 24 = .ok (.iconst 4, 1) := by decide +kernel
theorem dX10_oweFault_25 : decode cX10_oweFault 25 = .ok (.ireturn, 1) := by decide +kernel
theorem dX10_oweFault_26 : decode cX10_oweFault 26 = .ok (.lload_n 2, 1) := by decide +kernel
theorem dX10_oweFault_27 : decode cX10_oweFault 27 = .ok (.lconst 0, 1) := by decide +kernel
theorem dX10_oweFault_28 : decode cX10_oweFault 28 = .ok (.lcmp, 1) := by decide +kernel
theorem dX10_oweFault_29 : decode cX10_oweFault 29 = .ok (.ifCond .lt 13, 3) := by decide +kernel
theorem dX10_oweFault_32 : decode cX10_oweFault 32 = .ok (.lload_n 2, 1) := by decide +kernel
theorem dX10_oweFault_33 : decode cX10_oweFault 33 = .ok (.aload 4, 2) := by decide +kernel
theorem dX10_oweFault_35 : decode cX10_oweFault 35 = .ok (.getfield 171, 3) := by decide +kernel
theorem dX10_oweFault_38 : decode cX10_oweFault 38 = .ok (.lcmp, 1) := by decide +kernel
theorem dX10_oweFault_39 : decode cX10_oweFault 39 = .ok (.ifCond .le 5, 3) := by decide +kernel
theorem dX10_oweFault_42 : decode cX10_oweFault 42 = .ok (.iconst 5, 1) := by decide +kernel
theorem dX10_oweFault_43 : decode cX10_oweFault 43 = .ok (.ireturn, 1) := by decide +kernel
theorem dX10_oweFault_44 : decode cX10_oweFault 44 = .ok (.aload_n 1, 1) := by decide +kernel
theorem dX10_oweFault_45 : decode cX10_oweFault 45 = .ok (.getfield 141, 3) := by decide +kernel
theorem dX10_oweFault_48 : decode cX10_oweFault 48 = .ok (.aload_n 0, 1) := by decide +kernel
theorem dX10_oweFault_49 : decode cX10_oweFault 49 = .ok (.getfield 33, 3) := by decide +kernel
theorem dX10_oweFault_52 : decode cX10_oweFault 52 = .ok (.invokevirtual 174, 3) := by decide +kernel
theorem dX10_oweFault_55 : decode cX10_oweFault 55 = .ok (.ifCond .ne 6, 3) := by decide +kernel
theorem dX10_oweFault_58 : decode cX10_oweFault 58 = .ok (.bipush 6, 2) := by decide +kernel
theorem dX10_oweFault_60 : decode cX10_oweFault 60 = .ok (.ireturn, 1) := by decide +kernel
theorem dX10_oweFault_61 : decode cX10_oweFault 61 = .ok (.aload_n 1, 1) := by decide +kernel
theorem dX10_oweFault_62 : decode cX10_oweFault 62 = .ok (.getfield 141, 3) := by decide +kernel
theorem dX10_oweFault_65 : decode cX10_oweFault 65 = .ok (.aconst_null, 1) := by decide +kernel
theorem dX10_oweFault_66 : decode cX10_oweFault 66 = .ok (.invokevirtual 178, 3) := by decide +kernel
theorem dX10_oweFault_69 : decode cX10_oweFault 69 = .ok (.aload_n 1, 1) := by decide +kernel
theorem dX10_oweFault_70 : decode cX10_oweFault 70 = .ok (.getfield 168, 3) := by decide +kernel
theorem dX10_oweFault_73 : decode cX10_oweFault 73 = .ok (.lsub, 1) := by decide +kernel
theorem dX10_oweFault_74 : decode cX10_oweFault 74 = .ok (.lload_n 2, 1) := by decide +kernel
theorem dX10_oweFault_75 : decode cX10_oweFault 75 = .ok (.ladd, 1) := by decide +kernel
theorem dX10_oweFault_76 : decode cX10_oweFault 76 = .ok (.aload 4, 2) := by decide +kernel
theorem dX10_oweFault_78 : decode cX10_oweFault 78 = .ok (.getfield 171, 3) := by decide +kernel
theorem dX10_oweFault_81 : decode cX10_oweFault 81 = .ok (.lcmp, 1) := by decide +kernel
theorem dX10_oweFault_82 : decode cX10_oweFault 82 = .ok (.ifCond .gt 7, 3) := by decide +kernel
theorem dX10_oweFault_85 : decode cX10_oweFault 85 = .ok (.iconst 1, 1) := by decide +kernel
theorem dX10_oweFault_86 : decode cX10_oweFault 86 = .ok (.goto 4, 3) := by decide +kernel
theorem dX10_oweFault_89 : decode cX10_oweFault 89 = .ok (.iconst 0, 1) := by decide +kernel
theorem dX10_oweFault_90 : decode cX10_oweFault 90 = .ok (.istore 5, 2) := by decide +kernel
theorem dX10_oweFault_92 : decode cX10_oweFault 92 = .ok (.aload_n 1, 1) := by decide +kernel
theorem dX10_oweFault_93 : decode cX10_oweFault 93 = .ok (.getfield 182, 3) := by decide +kernel
theorem dX10_oweFault_96 : decode cX10_oweFault 96 = .ok (.ifCond .ne 8, 3) := by decide +kernel
theorem dX10_oweFault_99 : decode cX10_oweFault 99 = .ok (.iload 5, 2) := by decide +kernel
theorem dX10_oweFault_101 : decode cX10_oweFault 101 = .ok (.ifCond .ne 8, 3) := by decide +kernel
theorem dX10_oweFault_104 : decode cX10_oweFault 104 = .ok (.bipush 8, 2) := by decide +kernel
theorem dX10_oweFault_106 : decode cX10_oweFault 106 = .ok (.goto 4, 3) := by decide +kernel
theorem dX10_oweFault_109 : decode cX10_oweFault 109 = .ok (.iconst 0, 1) := by decide +kernel
theorem dX10_oweFault_110 : decode cX10_oweFault 110 = .ok (.ireturn, 1) := by decide +kernel
theorem dX10_pay_0 : decode cX10_pay 0 = .ok (.aload_n 0, 1) := by decide +kernel
theorem dX10_pay_1 : decode cX10_pay 1 = .ok (.iload_n 1, 1) := by decide +kernel
theorem dX10_pay_2 : decode cX10_pay 2 = .ok (.invokevirtual 133, 3) := by decide +kernel
theorem dX10_pay_5 : decode cX10_pay 5 = .ok (.astore 4, 2) := by decide +kernel
theorem dX10_pay_7 : decode cX10_pay 7 = .ok (.aload_n 0, 1) := by decide +kernel
theorem dX10_pay_8 : decode cX10_pay 8 = .ok (.aload_n 0, 1) := by decide +kernel
theorem dX10_pay_9 : decode cX10_pay 9 = .ok (.aload 4, 2) := by decide +kernel
theorem dX10_pay_11 : decode cX10_pay 11 = .ok (.lload_n 2, 1) := by decide +kernel
theorem dX10_pay_12 : decode cX10_pay 12 = .ok (.invokevirtual 186, 3) := by decide +kernel
theorem dX10_pay_15 : decode cX10_pay 15 = .ok (.invokevirtual 41, 3) := by decide +kernel
theorem dX10_pay_18 : decode cX10_pay 18 = .ok (.ifCond .eq 8, 3) := by decide +kernel
theorem dX10_pay_21 : decode cX10_pay 21 = .ok (.aload 4, 2) := by decide +kernel
theorem dX10_pay_23 : decode cX10_pay 23 = .ok (.ifnonnull 7, 3) := by decide +kernel
theorem dX10_pay_26 : decode cX10_pay 26 = .ok (.ldc2_w 120, 3) := by decide +kernel
theorem dX10_pay_29 : decode cX10_pay 29 = .ok (.lreturn, 1) := by decide +kernel
theorem dX10_pay_30 : decode cX10_pay 30 = .ok (.aload 4, 2) := by decide +kernel
theorem dX10_pay_32 : decode cX10_pay 32 = .ok (.dup, 1) := by decide +kernel
theorem dX10_pay_33 : decode cX10_pay 33 = .ok (.getfield 168, 3) := by decide +kernel
theorem dX10_pay_36 : decode cX10_pay 36 = .ok (.lload_n 2, 1) := by decide +kernel
theorem dX10_pay_37 : decode cX10_pay 37 = .ok (.lsub, 1) := by decide +kernel
theorem dX10_pay_38 : decode cX10_pay 38 = .ok (.putfield 168, 3) := by decide +kernel
theorem dX10_pay_41 : decode cX10_pay 41 = .ok (.aload 4, 2) := by decide +kernel
theorem dX10_pay_43 : decode cX10_pay 43 = .ok (.getfield 168, 3) := by decide +kernel
theorem dX10_pay_46 : decode cX10_pay 46 = .ok (.lreturn, 1) := by decide +kernel
theorem dX10_payFault_0 : decode cX10_payFault 0 = .ok (.aload_n 1, 1) := by decide +kernel
theorem dX10_payFault_1 : decode cX10_payFault 1 = .ok (.ifnonnull 5, 3) := by decide +kernel
theorem dX10_payFault_4 : decode cX10_payFault 4 = .ok (.iconst 1, 1) := by decide +kernel
theorem dX10_payFault_5 : decode cX10_payFault 5 = .ok (.ireturn, 1) := by decide +kernel
theorem dX10_payFault_6 : decode cX10_payFault 6 = .ok (.aload_n 1, 1) := by decide +kernel
theorem dX10_payFault_7 : decode cX10_payFault 7 = .ok (.getfield 141, 3) := by decide +kernel
theorem dX10_payFault_10 : decode cX10_payFault 10 = .ok (.getfield 145, 3) := by decide +kernel
theorem dX10_payFault_13 : decode cX10_payFault 13 = .ok (.invokevirtual 189, 3) := by decide +kernel
theorem dX10_payFault_16 : decode cX10_payFault 16 = .ok (.ifCond .ne 5, 3) := by decide +kernel
theorem dX10_payFault_19 : decode cX10_payFault 19 = .ok (.iconst 4, 1) := by decide +kernel
theorem dX10_payFault_20 : decode cX10_payFault 20 = .ok (.ireturn, 1) := by decide +kernel
theorem dX10_payFault_21 : decode cX10_payFault 21 = .ok (.lload_n 2, 1) := by decide +kernel
theorem dX10_payFault_22 : decode cX10_payFault 22 = .ok (.lconst 0, 1) := by decide +kernel
theorem dX10_payFault_23 : decode cX10_payFault 23 = .ok (.lcmp, 1) := by decide +kernel
theorem dX10_payFault_24 : decode cX10_payFault 24 = .ok (.ifCond .lt 16, 3) := by decide +kernel
theorem dX10_payFault_27 : decode cX10_payFault 27 = .ok (.lload_n 2, 1) := by decide +kernel
theorem dX10_payFault_28 : decode cX10_payFault 28 = .ok (.aload_n 1, 1) := by decide +kernel
theorem dX10_payFault_29 : decode cX10_payFault 29 = .ok (.getfield 141, 3) := by decide +kernel
theorem dX10_payFault_32 : decode cX10_payFault 32 = .ok (.aload_n 1, 1) := by decide +kernel
theorem dX10_payFault_33 : decode cX10_payFault 33 = .ok (.invokevirtual 178, 3) := by decide +kernel
theorem dX10_payFault_36 : decode cX10_payFault 36 = .ok (.lcmp, 1) := by decide +kernel
theorem dX10_payFault_37 : decode cX10_payFault 37 = .ok (.ifCond .le 5, 3) := by decide +kernel
theorem dX10_payFault_40 : decode cX10_payFault 40 = .ok (.iconst 5, 1) := by decide +kernel
theorem dX10_payFault_41 : decode cX10_payFault 41 = .ok (.ireturn, 1) := by decide +kernel
theorem dX10_payFault_42 : decode cX10_payFault 42 = .ok (.aload_n 1, 1) := by decide +kernel
theorem dX10_payFault_43 : decode cX10_payFault 43 = .ok (.getfield 141, 3) := by decide +kernel
theorem dX10_payFault_46 : decode cX10_payFault 46 = .ok (.aload_n 0, 1) := by decide +kernel
theorem dX10_payFault_47 : decode cX10_payFault 47 = .ok (.getfield 33, 3) := by decide +kernel
theorem dX10_payFault_50 : decode cX10_payFault 50 = .ok (.invokevirtual 174, 3) := by decide +kernel
theorem dX10_payFault_53 : decode cX10_payFault 53 = .ok (.ifCond .ne 6, 3) := by decide +kernel
theorem dX10_payFault_56 : decode cX10_payFault 56 = .ok (.bipush 6, 2) := by decide +kernel
theorem dX10_payFault_58 : decode cX10_payFault 58 = .ok (.ireturn, 1) := by decide +kernel
theorem dX10_payFault_59 : decode cX10_payFault 59 = .ok (.aload_n 1, 1) := by decide +kernel
theorem dX10_payFault_60 : decode cX10_payFault 60 = .ok (.getfield 182, 3) := by decide +kernel
theorem dX10_payFault_63 : decode cX10_payFault 63 = .ok (.ifCond .eq 8, 3) := by decide +kernel
theorem dX10_payFault_66 : decode cX10_payFault 66 = .ok (.bipush 8, 2) := by decide +kernel
theorem dX10_payFault_68 : decode cX10_payFault 68 = .ok (.goto 4, 3) := by decide +kernel
theorem dX10_payFault_71 : decode cX10_payFault 71 = .ok (.iconst 0, 1) := by decide +kernel
theorem dX10_payFault_72 : decode cX10_payFault 72 = .ok (.ireturn, 1) := by decide +kernel
theorem dX10_paper_0 : decode cX10_paper 0 = .ok (.aload_n 0, 1) := by decide +kernel
theorem dX10_paper_1 : decode cX10_paper 1 = .ok (.iload_n 1, 1) := by decide +kernel
theorem dX10_paper_2 : decode cX10_paper 2 = .ok (.invokevirtual 133, 3) := by decide +kernel
theorem dX10_paper_5 : decode cX10_paper 5 = .ok (.astore_n 3, 1) := by decide +kernel
theorem dX10_paper_6 : decode cX10_paper 6 = .ok (.aload_n 0, 1) := by decide +kernel
theorem dX10_paper_7 : decode cX10_paper 7 = .ok (.aload_n 3, 1) := by decide +kernel
theorem dX10_paper_8 : decode cX10_paper 8 = .ok (.invokestatic 193, 3) := by decide +kernel
theorem dX10_paper_11 : decode cX10_paper 11 = .ok (.invokevirtual 41, 3) := by decide +kernel
theorem dX10_paper_14 : decode cX10_paper 14 = .ok (.ifCond .eq 7, 3) := by decide +kernel
theorem dX10_paper_17 : decode cX10_paper 17 = .ok (.aload_n 3, 1) := by decide +kernel
theorem dX10_paper_18 : decode cX10_paper 18 = .ok (.ifnonnull 5, 3) := by decide +kernel
theorem dX10_paper_21 : decode cX10_paper 21 = .ok (.iconst 0, 1) := by decide +kernel
theorem dX10_paper_22 : decode cX10_paper 22 = .ok (.ireturn, 1) := by decide +kernel
theorem dX10_paper_23 : decode cX10_paper 23 = .ok (.aload_n 3, 1) := by decide +kernel
theorem dX10_paper_24 : decode cX10_paper 24 = .ok (.getfield 141, 3) := by decide +kernel
theorem dX10_paper_27 : decode cX10_paper 27 = .ok (.iload_n 2, 1) := by decide +kernel
theorem dX10_paper_28 : decode cX10_paper 28 = .ok (.putfield 196, 3) := by decide +kernel
theorem dX10_paper_31 : decode cX10_paper 31 = .ok (.iconst 1, 1) := by decide +kernel
theorem dX10_paper_32 : decode cX10_paper 32 = .ok (.ireturn, 1) := by decide +kernel
theorem dX10_paperFault_0 : decode cX10_paperFault 0 = .ok (.aload_n 0, 1) := by decide +kernel
theorem dX10_paperFault_1 : decode cX10_paperFault 1 = .ok (.ifnonnull 5, 3) := by decide +kernel
theorem dX10_paperFault_4 : decode cX10_paperFault 4 = .ok (.iconst 1, 1) := by decide +kernel
theorem dX10_paperFault_5 : decode cX10_paperFault 5 = .ok (.ireturn, 1) := by decide +kernel
theorem dX10_paperFault_6 : decode cX10_paperFault 6 = .ok (.aload_n 0, 1) := by decide +kernel
theorem dX10_paperFault_7 : decode cX10_paperFault 7 = .ok (.getfield 141, 3) := by decide +kernel
theorem dX10_paperFault_10 : decode cX10_paperFault 10 = .ok (.getfield 145, 3) := by decide +kernel
theorem dX10_paperFault_13 : decode cX10_paperFault 13 = .ok (.invokevirtual 199, 3) := by decide +kernel
theorem dX10_paperFault_16 : decode cX10_paperFault 16 = .ok (.ifCond .eq 7, 3) := by decide +kernel
theorem dX10_paperFault_19 : decode cX10_paperFault 19 = .ok (.iconst 0, 1) := by decide +kernel
theorem dX10_paperFault_20 : decode cX10_paperFault 20 = .ok (.goto 4, 3) := by decide +kernel
theorem dX10_paperFault_23 : decode cX10_paperFault 23 = .ok (.iconst 4, 1) := by decide +kernel
theorem dX10_paperFault_24 : decode cX10_paperFault 24 = .ok (.ireturn, 1) := by decide +kernel
theorem dX10_split_0 : decode cX10_split 0 = .ok (.aload_n 0, 1) := by decide +kernel
theorem dX10_split_1 : decode cX10_split 1 = .ok (.iload_n 1, 1) := by decide +kernel
theorem dX10_split_2 : decode cX10_split 2 = .ok (.invokevirtual 133, 3) := by decide +kernel
theorem dX10_split_5 : decode cX10_split 5 = .ok (.astore 4, 2) := by decide +kernel
theorem dX10_split_7 : decode cX10_split 7 = .ok (.aload_n 0, 1) := by decide +kernel
theorem dX10_split_8 : decode cX10_split 8 = .ok (.aload_n 0, 1) := by decide +kernel
theorem dX10_split_9 : decode cX10_split 9 = .ok (.aload 4, 2) := by decide +kernel
theorem dX10_split_11 : decode cX10_split 11 = .ok (.lload_n 2, 1) := by decide +kernel
theorem dX10_split_12 : decode cX10_split 12 = .ok (.iconst 1, 1) := by decide +kernel
theorem dX10_split_13 : decode cX10_split 13 = .ok (.iconst 0, 1) := by decide +kernel
theorem dX10_split_14 : decode cX10_split 14 = .ok (.invokevirtual 202, 3) := by decide +kernel
theorem dX10_split_17 : decode cX10_split 17 = .ok (.invokevirtual 41, 3) := by decide +kernel
theorem dX10_split_20 : decode cX10_split 20 = .ok (.ifCond .eq 8, 3) := by decide +kernel
theorem dX10_split_23 : decode cX10_split 23 = .ok (.aload 4, 2) := by decide +kernel
theorem dX10_split_25 : decode cX10_split 25 = .ok (.ifnonnull 5, 3) := by decide +kernel
theorem dX10_split_28 : decode cX10_split 28 = .ok (.iconst (-1), 1) := by decide +kernel
theorem dX10_split_29 : decode cX10_split 29 = .ok (.ireturn, 1) := by decide +kernel
theorem dX10_split_30 : decode cX10_split 30 = .ok (.aload_n 0, 1) := by decide +kernel
theorem dX10_split_31 : decode cX10_split 31 = .ok (.aload 4, 2) := by decide +kernel
theorem dX10_split_33 : decode cX10_split 33 = .ok (.lload_n 2, 1) := by decide +kernel
theorem dX10_split_34 : decode cX10_split 34 = .ok (.aload 4, 2) := by decide +kernel
theorem dX10_split_36 : decode cX10_split 36 = .ok (.getfield 206, 3) := by decide +kernel
theorem dX10_split_39 : decode cX10_split 39 = .ok (.invokevirtual 209, 3) := by decide +kernel
theorem dX10_split_42 : decode cX10_split 42 = .ok (.ireturn, 1) := by decide +kernel
theorem dX10_hand_0 : decode cX10_hand 0 = .ok (.aload_n 0, 1) := by decide +kernel
theorem dX10_hand_1 : decode cX10_hand 1 = .ok (.iload_n 1, 1) := by decide +kernel
theorem dX10_hand_2 : decode cX10_hand 2 = .ok (.invokevirtual 133, 3) := by decide +kernel
theorem dX10_hand_5 : decode cX10_hand 5 = .ok (.astore 5, 2) := by decide +kernel
theorem dX10_hand_7 : decode cX10_hand 7 = .ok (.iload 4, 2) := by decide +kernel
theorem dX10_hand_9 : decode cX10_hand 9 = .ok (.iconst 1, 1) := by decide +kernel
theorem dX10_hand_10 : decode cX10_hand 10 = .ok (.if_icmp .lt 15, 3) := by decide +kernel
theorem dX10_hand_13 : decode cX10_hand 13 = .ok (.iload 4, 2) := by decide +kernel
theorem dX10_hand_15 : decode cX10_hand 15 = .ok (.sipush 1000, 3) := by decide +kernel
theorem dX10_hand_18 : decode cX10_hand 18 = .ok (.if_icmp .gt 7, 3) := by decide +kernel
theorem dX10_hand_21 : decode cX10_hand 21 = .ok (.iconst 1, 1) := by decide +kernel
theorem dX10_hand_22 : decode cX10_hand 22 = .ok (.goto 4, 3) := by decide +kernel
theorem dX10_hand_25 : decode cX10_hand 25 = .ok (.iconst 0, 1) := by decide +kernel
theorem dX10_hand_26 : decode cX10_hand 26 = .ok (.istore 6, 2) := by decide +kernel
theorem dX10_hand_28 : decode cX10_hand 28 = .ok (.aload_n 0, 1) := by decide +kernel
theorem dX10_hand_29 : decode cX10_hand 29 = .ok (.aload_n 0, 1) := by decide +kernel
theorem dX10_hand_30 : decode cX10_hand 30 = .ok (.aload 5, 2) := by decide +kernel
theorem dX10_hand_32 : decode cX10_hand 32 = .ok (.lload_n 2, 1) := by decide +kernel
theorem dX10_hand_33 : decode cX10_hand 33 = .ok (.iload 6, 2) := by decide +kernel
theorem dX10_hand_35 : decode cX10_hand 35 = .ok (.iconst 1, 1) := by decide +kernel
theorem dX10_hand_36 : decode cX10_hand 36 = .ok (.invokevirtual 202, 3) := by decide +kernel
theorem dX10_hand_39 : decode cX10_hand 39 = .ok (.invokevirtual 41, 3) := by decide +kernel
theorem dX10_hand_42 : decode cX10_hand 42 = .ok (.ifCond .eq 8, 3) := by decide +kernel
theorem dX10_hand_45 : decode cX10_hand 45 = .ok (.aload 5, 2) := by decide +kernel
theorem dX10_hand_47 : decode cX10_hand 47 = .ok (.ifnonnull 5, 3) := by decide +kernel
theorem dX10_hand_50 : decode cX10_hand 50 = .ok (.iconst (-1), 1) := by decide +kernel
theorem dX10_hand_51 : decode cX10_hand 51 = .ok (.ireturn, 1) := by decide +kernel
theorem dX10_hand_52 : decode cX10_hand 52 = .ok (.aload_n 0, 1) := by decide +kernel
theorem dX10_hand_53 : decode cX10_hand 53 = .ok (.aload 5, 2) := by decide +kernel
theorem dX10_hand_55 : decode cX10_hand 55 = .ok (.aload 5, 2) := by decide +kernel
theorem dX10_hand_57 : decode cX10_hand 57 = .ok (.getfield 168, 3) := by decide +kernel
theorem dX10_hand_60 : decode cX10_hand 60 = .ok (.lload_n 2, 1) := by decide +kernel
theorem dX10_hand_61 : decode cX10_hand 61 = .ok (.lsub, 1) := by decide +kernel
theorem dX10_hand_62 : decode cX10_hand 62 = .ok (.iload 4, 2) := by decide +kernel
theorem dX10_hand_64 : decode cX10_hand 64 = .ok (.invokevirtual 209, 3) := by decide +kernel
theorem dX10_hand_67 : decode cX10_hand 67 = .ok (.iconst 1, 1) := by decide +kernel
theorem dX10_hand_68 : decode cX10_hand 68 = .ok (.iadd, 1) := by decide +kernel
theorem dX10_hand_69 : decode cX10_hand 69 = .ok (.ireturn, 1) := by decide +kernel
theorem dX10_divideFault_0 : decode cX10_divideFault 0 = .ok (.aload_n 1, 1) := by decide +kernel
theorem dX10_divideFault_1 : decode cX10_divideFault 1 = .ok (.ifnonnull 5, 3) := by decide +kernel
theorem dX10_divideFault_4 : decode cX10_divideFault 4 = .ok (.iconst 1, 1) := by decide +kernel
theorem dX10_divideFault_5 : decode cX10_divideFault 5 = .ok (.ireturn, 1) := by decide +kernel
theorem dX10_divideFault_6 : decode cX10_divideFault 6 = .ok (.aload_n 1, 1) := by decide +kernel
theorem dX10_divideFault_7 : decode cX10_divideFault 7 = .ok (.getfield 141, 3) := by decide +kernel
theorem dX10_divideFault_10 : decode cX10_divideFault 10 = .ok (.astore 6, 2) := by decide +kernel
theorem dX10_divideFault_12 : decode cX10_divideFault 12 = .ok (.aload 6, 2) := by decide +kernel
theorem dX10_divideFault_14 : decode cX10_divideFault 14 = .ok (.getfield 145, 3) := by decide +kernel
theorem dX10_divideFault_17 : decode cX10_divideFault 17 = .ok (.invokevirtual 189, 3) := by decide +kernel
theorem dX10_divideFault_20 : decode cX10_divideFault 20 = .ok (.ifCond .ne 5, 3) := by decide +kernel
theorem dX10_divideFault_23 : decode cX10_divideFault 23 = .ok (.iconst 4, 1) := by decide +kernel
theorem dX10_divideFault_24 : decode cX10_divideFault 24 = .ok (.ireturn, 1) := by decide +kernel
theorem dX10_divideFault_25 : decode cX10_divideFault 25 = .ok (.iload 4, 2) := by decide +kernel
theorem dX10_divideFault_27 : decode cX10_divideFault 27 = .ok (.ifCond .eq 20, 3) := by decide +kernel
theorem dX10_divideFault_30 : decode cX10_divideFault 30 = .ok (.lload_n 2, 1) := by decide +kernel
theorem dX10_divideFault_31 : decode cX10_divideFault 31 = .ok (.lconst 0, 1) := by decide +kernel
theorem dX10_divideFault_32 : decode cX10_divideFault 32 = .ok (.lcmp, 1) := by decide +kernel
theorem dX10_divideFault_33 : decode cX10_divideFault 33 = .ok (.ifCond .lt 14, 3) := by decide +kernel
theorem dX10_divideFault_36 : decode cX10_divideFault 36 = .ok (.lload_n 2, 1) := by decide +kernel
theorem dX10_divideFault_37 : decode cX10_divideFault 37 = .ok (.aload 6, 2) := by decide +kernel
theorem dX10_divideFault_39 : decode cX10_divideFault 39 = .ok (.aload_n 1, 1) := by decide +kernel
theorem dX10_divideFault_40 : decode cX10_divideFault 40 = .ok (.invokevirtual 178, 3) := by decide +kernel
theorem dX10_divideFault_43 : decode cX10_divideFault 43 = .ok (.lcmp, 1) := by decide +kernel
theorem dX10_divideFault_44 : decode cX10_divideFault 44 = .ok (.ifCond .le 5, 3) := by decide +kernel
theorem dX10_divideFault_47 : decode cX10_divideFault 47 = .ok (.iconst 5, 1) := by decide +kernel
theorem dX10_divideFault_48 : decode cX10_divideFault 48 = .ok (.ireturn, 1) := by decide +kernel
theorem dX10_divideFault_49 : decode cX10_divideFault 49 = .ok (.aload 6, 2) := by decide +kernel
theorem dX10_divideFault_51 : decode cX10_divideFault 51 = .ok (.aload_n 0, 1) := by decide +kernel
theorem dX10_divideFault_52 : decode cX10_divideFault 52 = .ok (.getfield 33, 3) := by decide +kernel
theorem dX10_divideFault_55 : decode cX10_divideFault 55 = .ok (.invokevirtual 174, 3) := by decide +kernel
theorem dX10_divideFault_58 : decode cX10_divideFault 58 = .ok (.ifCond .ne 6, 3) := by decide +kernel
theorem dX10_divideFault_61 : decode cX10_divideFault 61 = .ok (.bipush 6, 2) := by decide +kernel
theorem dX10_divideFault_63 : decode cX10_divideFault 63 = .ok (.ireturn, 1) := by decide +kernel
theorem dX10_divideFault_64 : decode cX10_divideFault 64 = .ok (.iload 5, 2) := by decide +kernel
theorem dX10_divideFault_66 : decode cX10_divideFault 66 = .ok (.ifCond .eq 25, 3) := by decide +kernel
theorem dX10_divideFault_69 : decode cX10_divideFault 69 = .ok (.aload 6, 2) := by decide +kernel
theorem dX10_divideFault_71 : decode cX10_divideFault 71 = .ok (.getfield 145, 3) := by decide +kernel
theorem dX10_divideFault_74 : decode cX10_divideFault 74 = .ok (.invokevirtual 199, 3) := by decide +kernel
theorem dX10_divideFault_77 : decode cX10_divideFault 77 = .ok (.ifCond .eq 14, 3) := by decide +kernel
theorem dX10_divideFault_80 : decode cX10_divideFault 80 = .ok (.aload 6, 2) := by decide +kernel
theorem dX10_divideFault_82 : decode cX10_divideFault 82 = .ok (.getfield 196, 3) := by decide +kernel
theorem dX10_divideFault_85 : decode cX10_divideFault 85 = .ok (.ifCond .ne 6, 3) := by decide +kernel
theorem dX10_divideFault_88 : decode cX10_divideFault 88 = .ok (.bipush 7, 2) := by decide +kernel
theorem dX10_divideFault_90 : decode cX10_divideFault 90 = .ok (.ireturn, 1) := by decide +kernel
theorem dX10_divideFault_91 : decode cX10_divideFault 91 = .ok (.aload_n 1, 1) := by decide +kernel
theorem dX10_divideFault_92 : decode cX10_divideFault 92 = .ok (.getfield 182, 3) := by decide +kernel
theorem dX10_divideFault_95 : decode cX10_divideFault 95 = .ok (.ifCond .eq 6, 3) := by decide +kernel
theorem dX10_divideFault_98 : decode cX10_divideFault 98 = .ok (.bipush 8, 2) := by decide +kernel
theorem dX10_divideFault_100 : decode cX10_divideFault 100 = .ok (.ireturn, 1) := by decide +kernel
theorem dX10_divideFault_101 : decode cX10_divideFault 101 = .ok (.aload_n 0, 1) := by decide +kernel
theorem dX10_divideFault_102 : decode cX10_divideFault 102 = .ok (.getfield 98, 3) := by decide +kernel
theorem dX10_divideFault_105 : decode cX10_divideFault 105 = .ok (.iconst 2, 1) := by decide +kernel
theorem dX10_divideFault_106 : decode cX10_divideFault 106 = .ok (.iadd, 1) := by decide +kernel
theorem dX10_divideFault_107 : decode cX10_divideFault 107 = .ok (.sipush 300, 3) := by decide +kernel
theorem dX10_divideFault_110 : decode cX10_divideFault 110 = .ok (.if_icmp .le 8, 3) := by decide +kernel
theorem dX10_divideFault_113 : decode cX10_divideFault 113 = .ok (.bipush 10, 2) := by decide +kernel
theorem dX10_divideFault_115 : decode cX10_divideFault 115 = .ok (.goto 4, 3) := by decide +kernel
theorem dX10_divideFault_118 : decode cX10_divideFault 118 = .ok (.iconst 0, 1) := by decide +kernel
theorem dX10_divideFault_119 : decode cX10_divideFault 119 = .ok (.ireturn, 1) := by decide +kernel
theorem dX10_divide_0 : decode cX10_divide 0 = .ok (.aload_n 1, 1) := by decide +kernel
theorem dX10_divide_1 : decode cX10_divide 1 = .ok (.getfield 141, 3) := by decide +kernel
theorem dX10_divide_4 : decode cX10_divide 4 = .ok (.astore 5, 2) := by decide +kernel
theorem dX10_divide_6 : decode cX10_divide 6 = .ok (.aload_n 0, 1) := by decide +kernel
theorem dX10_divide_7 : decode cX10_divide 7 = .ok (.getfield 98, 3) := by decide +kernel
theorem dX10_divide_10 : decode cX10_divide 10 = .ok (.iconst 1, 1) := by decide +kernel
theorem dX10_divide_11 : decode cX10_divide 11 = .ok (.iadd, 1) := by decide +kernel
theorem dX10_divide_12 : decode cX10_divide 12 = .ok (.istore 6, 2) := by decide +kernel
theorem dX10_divide_14 : decode cX10_divide 14 = .ok (.new 15, 3) := by decide +kernel
theorem dX10_divide_17 : decode cX10_divide 17 = .ok (.dup, 1) := by decide +kernel
theorem dX10_divide_18 : decode cX10_divide 18 = .ok (.iload 6, 2) := by decide +kernel
theorem dX10_divide_20 : decode cX10_divide 20 = .ok (.aload 5, 2) := by decide +kernel
theorem dX10_divide_22 : decode cX10_divide 22 = .ok (.aload_n 1, 1) := by decide +kernel
theorem dX10_divide_23 : decode cX10_divide 23 = .ok (.lload_n 2, 1) := by decide +kernel
theorem dX10_divide_24 : decode cX10_divide 24 = .ok (.aload_n 1, 1) := by decide +kernel
theorem dX10_divide_25 : decode cX10_divide 25 = .ok (.getfield 206, 3) := by decide +kernel
theorem dX10_divide_28 : decode cX10_divide 28 = .ok (.invokespecial 101, 3) := by decide +kernel
theorem dX10_divide_31 : decode cX10_divide 31 = .ok (.astore 7, 2) := by decide +kernel
theorem dX10_divide_33 : decode cX10_divide 33 = .ok (.new 15, 3) := by decide +kernel
theorem dX10_divide_36 : decode cX10_divide 36 = .ok (.dup, 1) := by decide +kernel
theorem dX10_divide_37 : decode cX10_divide 37 = .ok (.iload 6, 2) := by decide +kernel
theorem dX10_divide_39 : decode cX10_divide 39 = .ok (.iconst 1, 1) := by decide +kernel
theorem dX10_divide_40 : decode cX10_divide 40 = .ok (.iadd, 1) := by decide +kernel
theorem dX10_divide_41 : decode cX10_divide 41 = .ok (.aload 5, 2) := by decide +kernel
theorem dX10_divide_43 : decode cX10_divide 43 = .ok (.aload_n 1, 1) := by decide +kernel
theorem dX10_divide_44 : decode cX10_divide 44 = .ok (.aload_n 1, 1) := by decide +kernel
theorem dX10_divide_45 : decode cX10_divide 45 = .ok (.getfield 168, 3) := by decide +kernel
theorem dX10_divide_48 : decode cX10_divide 48 = .ok (.lload_n 2, 1) := by decide +kernel
theorem dX10_divide_49 : decode cX10_divide 49 = .ok (.lsub, 1) := by decide +kernel
theorem dX10_divide_50 : decode cX10_divide 50 = .ok (.iload 4, 2) := by decide +kernel
theorem dX10_divide_52 : decode cX10_divide 52 = .ok (.invokespecial 101, 3) := by decide +kernel
theorem dX10_divide_55 : decode cX10_divide 55 = .ok (.astore 8, 2) := by decide +kernel
theorem dX10_divide_57 : decode cX10_divide 57 = .ok (.aload 5, 2) := by decide +kernel
theorem dX10_divide_59 : decode cX10_divide 59 = .ok (.aload_n 1, 1) := by decide +kernel
theorem dX10_divide_60 : decode cX10_divide 60 = .ok (.aload 7, 2) := by decide +kernel
theorem dX10_divide_62 : decode cX10_divide 62 = .ok (.aload 8, 2) := by decide +kernel
theorem dX10_divide_64 : decode cX10_divide 64 = .ok (.invokevirtual 213, 3) := by decide +kernel
theorem dX10_divide_67 : decode cX10_divide 67 = .ok (.aload_n 0, 1) := by decide +kernel
theorem dX10_divide_68 : decode cX10_divide 68 = .ok (.aload 7, 2) := by decide +kernel
theorem dX10_divide_70 : decode cX10_divide 70 = .ok (.invokevirtual 112, 3) := by decide +kernel
theorem dX10_divide_73 : decode cX10_divide 73 = .ok (.pop, 1) := by decide +kernel
theorem dX10_divide_74 : decode cX10_divide 74 = .ok (.aload_n 0, 1) := by decide +kernel
theorem dX10_divide_75 : decode cX10_divide 75 = .ok (.aload 8, 2) := by decide +kernel
theorem dX10_divide_77 : decode cX10_divide 77 = .ok (.invokevirtual 112, 3) := by decide +kernel
theorem dX10_divide_80 : decode cX10_divide 80 = .ok (.pop, 1) := by decide +kernel
theorem dX10_divide_81 : decode cX10_divide 81 = .ok (.iload 6, 2) := by decide +kernel
theorem dX10_divide_83 : decode cX10_divide 83 = .ok (.ireturn, 1) := by decide +kernel
theorem dX10_post_0 : decode cX10_post 0 = .ok (.aload_n 0, 1) := by decide +kernel
theorem dX10_post_1 : decode cX10_post 1 = .ok (.iload_n 1, 1) := by decide +kernel
theorem dX10_post_2 : decode cX10_post 2 = .ok (.invokevirtual 133, 3) := by decide +kernel
theorem dX10_post_5 : decode cX10_post 5 = .ok (.astore 5, 2) := by decide +kernel
theorem dX10_post_7 : decode cX10_post 7 = .ok (.aload_n 0, 1) := by decide +kernel
theorem dX10_post_8 : decode cX10_post 8 = .ok (.iload_n 2, 1) := by decide +kernel
theorem dX10_post_9 : decode cX10_post 9 = .ok (.invokevirtual 133, 3) := by decide +kernel
theorem dX10_post_12 : decode cX10_post 12 = .ok (.astore 6, 2) := by decide +kernel
theorem dX10_post_14 : decode cX10_post 14 = .ok (.aload_n 0, 1) := by decide +kernel
theorem dX10_post_15 : decode cX10_post 15 = .ok (.aload_n 0, 1) := by decide +kernel
theorem dX10_post_16 : decode cX10_post 16 = .ok (.aload 5, 2) := by decide +kernel
theorem dX10_post_18 : decode cX10_post 18 = .ok (.aload 6, 2) := by decide +kernel
theorem dX10_post_20 : decode cX10_post 20 = .ok (.lload_n 3, 1) := by decide +kernel
theorem dX10_post_21 : decode cX10_post 21 = .ok (.invokevirtual 217, 3) := by decide +kernel
theorem dX10_post_24 : decode cX10_post 24 = .ok (.invokevirtual 41, 3) := by decide +kernel
theorem dX10_post_27 : decode cX10_post 27 = .ok (.ifCond .eq 13, 3) := by decide +kernel
theorem dX10_post_30 : decode cX10_post 30 = .ok (.aload 5, 2) := by decide +kernel
theorem dX10_post_32 : decode cX10_post 32 = .ok (.ifnull 8, 3) := by decide +kernel
theorem dX10_post_35 : decode cX10_post 35 = .ok (.aload 6, 2) := by decide +kernel
theorem dX10_post_37 : decode cX10_post 37 = .ok (.ifnonnull 5, 3) := by decide +kernel
theorem dX10_post_40 : decode cX10_post 40 = .ok (.iconst (-1), 1) := by decide +kernel
theorem dX10_post_41 : decode cX10_post 41 = .ok (.ireturn, 1) := by decide +kernel
theorem dX10_post_42 : decode cX10_post 42 = .ok (.new 221, 3) := by decide +kernel
theorem dX10_post_45 : decode cX10_post 45 = .ok (.dup, 1) := by decide +kernel
theorem dX10_post_46 : decode cX10_post 46 = .ok (.aload_n 0, 1) := by decide +kernel
theorem dX10_post_47 : decode cX10_post 47 = .ok (.getfield 223, 3) := by decide +kernel
theorem dX10_post_50 : decode cX10_post 50 = .ok (.iconst 1, 1) := by decide +kernel
theorem dX10_post_51 : decode cX10_post 51 = .ok (.iadd, 1) := by decide +kernel
theorem dX10_post_52 : decode cX10_post 52 = .ok (.aload 5, 2) := by decide +kernel
theorem dX10_post_54 : decode cX10_post 54 = .ok (.aload 6, 2) := by decide +kernel
theorem dX10_post_56 : decode cX10_post 56 = .ok (.lload_n 3, 1) := by decide +kernel
theorem dX10_post_57 : decode cX10_post 57 = .ok (.aload_n 0, 1) := by decide +kernel
theorem dX10_post_58 : decode cX10_post 58 = .ok (.invokevirtual 79, 3) := by decide +kernel
theorem dX10_post_61 : decode cX10_post 61 = .ok (.invokespecial 226, 3) := by decide +kernel
theorem dX10_post_64 : decode cX10_post 64 = .ok (.astore 7, 2) := by decide +kernel
theorem dX10_post_66 : decode cX10_post 66 = .ok (.aload_n 0, 1) := by decide +kernel
theorem dX10_post_67 : decode cX10_post 67 = .ok (.getfield 229, 3) := by decide +kernel
theorem dX10_post_70 : decode cX10_post 70 = .ok (.ifnonnull 12, 3) := by decide +kernel
theorem dX10_post_73 : decode cX10_post 73 = .ok (.aload_n 0, 1) := by decide +kernel
theorem dX10_post_74 : decode cX10_post 74 = .ok (.aload 7, 2) := by decide +kernel
theorem dX10_post_76 : decode cX10_post 76 = .ok (.putfield 233, 3) := by decide +kernel
theorem dX10_post_79 : decode cX10_post 79 = .ok (.goto 12, 3) := by decide +kernel
theorem dX10_post_82 : decode cX10_post 82 = .ok (.aload_n 0, 1) := by decide +kernel
theorem dX10_post_83 : decode cX10_post 83 = .ok (.getfield 229, 3) := by decide +kernel
theorem dX10_post_86 : decode cX10_post 86 = .ok (.aload 7, 2) := by decide +kernel
theorem dX10_post_88 : decode cX10_post 88 = .ok (.putfield 236, 3) := by decide +kernel
theorem dX10_post_91 : decode cX10_post 91 = .ok (.aload_n 0, 1) := by decide +kernel
theorem dX10_post_92 : decode cX10_post 92 = .ok (.aload 7, 2) := by decide +kernel
theorem dX10_post_94 : decode cX10_post 94 = .ok (.putfield 229, 3) := by decide +kernel
theorem dX10_post_97 : decode cX10_post 97 = .ok (.aload_n 0, 1) := by decide +kernel
theorem dX10_post_98 : decode cX10_post 98 = .ok (.dup, 1) := by decide +kernel
theorem dX10_post_99 : decode cX10_post 99 = .ok (.getfield 223, 3) := by decide +kernel
theorem dX10_post_102 : decode cX10_post 102 = .ok (.iconst 1, 1) := by decide +kernel
theorem dX10_post_103 : decode cX10_post 103 = .ok (.iadd, 1) := by decide +kernel
theorem dX10_post_104 : decode cX10_post 104 = .ok (.putfield 223, 3) := by decide +kernel
theorem dX10_post_107 : decode cX10_post 107 = .ok (.aload 7, 2) := by decide +kernel
theorem dX10_post_109 : decode cX10_post 109 = .ok (.getfield 239, 3) := by decide +kernel
theorem dX10_post_112 : decode cX10_post 112 = .ok (.ireturn, 1) := by decide +kernel
theorem dX10_postFault_0 : decode cX10_postFault 0 = .ok (.aload_n 1, 1) := by decide +kernel
theorem dX10_postFault_1 : decode cX10_postFault 1 = .ok (.ifnull 7, 3) := by decide +kernel
theorem dX10_postFault_4 : decode cX10_postFault 4 = .ok (.aload_n 2, 1) := by decide +kernel
theorem dX10_postFault_5 : decode cX10_postFault 5 = .ok (.ifnonnull 5, 3) := by decide +kernel
theorem dX10_postFault_8 : decode cX10_postFault 8 = .ok (.iconst 1, 1) := by decide +kernel
theorem dX10_postFault_9 : decode cX10_postFault 9 = .ok (.ireturn, 1) := by decide +kernel
theorem dX10_postFault_10 : decode cX10_postFault 10 = .ok (.aload_n 1, 1) := by decide +kernel
theorem dX10_postFault_11 : decode cX10_postFault 11 = .ok (.getfield 141, 3) := by decide +kernel
theorem dX10_postFault_14 : decode cX10_postFault 14 = .ok (.astore 5, 2) := by decide +kernel
theorem dX10_postFault_16 : decode cX10_postFault 16 = .ok (.aload_n 2, 1) := by decide +kernel
theorem dX10_postFault_17 : decode cX10_postFault 17 = .ok (.getfield 141, 3) := by decide +kernel
theorem dX10_postFault_20 : decode cX10_postFault 20 = .ok (.astore 6, 2) := by decide +kernel
theorem dX10_postFault_22 : decode cX10_postFault 22 = .ok (.aload 5, 2) := by decide +kernel
theorem dX10_postFault_24 : decode cX10_postFault 24 = .ok (.getfield 145, 3) := by decide +kernel
theorem dX10_postFault_27 : decode cX10_postFault 27 = .ok (.getfield 157, 3) := by decide +kernel
theorem dX10_postFault_30 : decode cX10_postFault 30 = .ok (.bipush 6, 2) := by decide +kernel
theorem dX10_postFault_32 : decode cX10_postFault 32 = .ok (.if_icmp .eq 16, 3) := by decide +kernel
theorem dX10_postFault_35 : decode cX10_postFault 35 = .ok (.aload 6, 2) := by decide +kernel
theorem dX10_postFault_37 : decode cX10_postFault 37 = .ok (.getfield 145, 3) := by decide +kernel
theorem dX10_postFault_40 : decode cX10_postFault 40 = .ok (.getfield 157, 3) := by decide +kernel
theorem dX10_postFault_43 : decode cX10_postFault 43 = .ok (.bipush 6, 2) := by decide +kernel
theorem dX10_postFault_45 : decode cX10_postFault 45 = .ok (.if_icmp .ne 5, 3) := by decide +kernel
theorem dX10_postFault_48 : decode cX10_postFault 48 = .ok (.iconst 4, 1) := by decide +kernel
theorem dX10_postFault_49 : decode cX10_postFault 49 = .ok (.ireturn, 1) := by decide +kernel
theorem dX10_postFault_50 : decode cX10_postFault 50 = .ok (.lload_n 3, 1) := by decide +kernel
theorem dX10_postFault_51 : decode cX10_postFault 51 = .ok (.invokestatic 126, 3) := by decide +kernel
theorem dX10_postFault_54 : decode cX10_postFault 54 = .ok (.ifCond .eq 10, 3) := by decide +kernel
theorem dX10_postFault_57 : decode cX10_postFault 57 = .ok (.aload 5, 2) := by decide +kernel
theorem dX10_postFault_59 : decode cX10_postFault 59 = .ok (.aload 6, 2) := by decide +kernel
theorem dX10_postFault_61 : decode cX10_postFault 61 = .ok (.if_acmp .ne 5, 3) := by decide +kernel
theorem dX10_postFault_64 : decode cX10_postFault 64 = .ok (.iconst 5, 1) := by decide +kernel
theorem dX10_postFault_65 : decode cX10_postFault 65 = .ok (.ireturn, 1) := by decide +kernel
theorem dX10_postFault_66 : decode cX10_postFault 66 = .ok (.aload_n 0, 1) := by decide +kernel
theorem dX10_postFault_67 : decode cX10_postFault 67 = .ok (.aload 5, 2) := by decide +kernel
theorem dX10_postFault_69 : decode cX10_postFault 69 = .ok (.aload 6, 2) := by decide +kernel
theorem dX10_postFault_71 : decode cX10_postFault 71 = .ok (.invokevirtual 242, 3) := by decide +kernel
theorem dX10_postFault_74 : decode cX10_postFault 74 = .ok (.ifCond .ne 6, 3) := by decide +kernel
theorem dX10_postFault_77 : decode cX10_postFault 77 = .ok (.bipush 6, 2) := by decide +kernel
theorem dX10_postFault_79 : decode cX10_postFault 79 = .ok (.ireturn, 1) := by decide +kernel
theorem dX10_postFault_80 : decode cX10_postFault 80 = .ok (.aload_n 0, 1) := by decide +kernel
theorem dX10_postFault_81 : decode cX10_postFault 81 = .ok (.getfield 24, 3) := by decide +kernel
theorem dX10_postFault_84 : decode cX10_postFault 84 = .ok (.aload 5, 2) := by decide +kernel
theorem dX10_postFault_86 : decode cX10_postFault 86 = .ok (.aload 6, 2) := by decide +kernel
theorem dX10_postFault_88 : decode cX10_postFault 88 = .ok (.aload_n 0, 1) := by decide +kernel
theorem dX10_postFault_89 : decode cX10_postFault 89 = .ok (.getfield 233, 3) := by decide +kernel
theorem dX10_postFault_92 : decode cX10_postFault 92 = .ok (.invokevirtual 246, 3) := by decide +kernel
theorem dX10_postFault_95 : decode cX10_postFault 95 = .ok (.ifCond .eq 6, 3) := by decide +kernel
theorem dX10_postFault_98 : decode cX10_postFault 98 = .ok (.bipush 9, 2) := by decide +kernel
theorem dX10_postFault_100 : decode cX10_postFault 100 = .ok (.ireturn, 1) := by decide +kernel
theorem dX10_postFault_101 : decode cX10_postFault 101 = .ok (.aload_n 0, 1) := by decide +kernel
theorem dX10_postFault_102 : decode cX10_postFault 102 = .ok (.getfield 223, 3) := by decide +kernel
theorem dX10_postFault_105 : decode cX10_postFault 105 = .ok (.bipush 100, 2) := by decide +kernel
theorem dX10_postFault_107 : decode cX10_postFault 107 = .ok (.if_icmp .lt 8, 3) := by decide +kernel
theorem dX10_postFault_110 : decode cX10_postFault 110 = .ok (.bipush 10, 2) := by decide +kernel
theorem dX10_postFault_112 : decode cX10_postFault 112 = .ok (.goto 4, 3) := by decide +kernel
theorem dX10_postFault_115 : decode cX10_postFault 115 = .ok (.iconst 0, 1) := by decide +kernel
theorem dX10_postFault_116 : decode cX10_postFault 116 = .ok (.ireturn, 1) := by decide +kernel
theorem dX10_undo_0 : decode cX10_undo 0 = .ok (.aload_n 0, 1) := by decide +kernel
theorem dX10_undo_1 : decode cX10_undo 1 = .ok (.iload_n 1, 1) := by decide +kernel
theorem dX10_undo_2 : decode cX10_undo 2 = .ok (.invokevirtual 250, 3) := by decide +kernel
theorem dX10_undo_5 : decode cX10_undo 5 = .ok (.astore_n 2, 1) := by decide +kernel
theorem dX10_undo_6 : decode cX10_undo 6 = .ok (.aload_n 0, 1) := by decide +kernel
theorem dX10_undo_7 : decode cX10_undo 7 = .ok (.aload_n 2, 1) := by decide +kernel
theorem dX10_undo_8 : decode cX10_undo 8 = .ok (.invokestatic 254, 3) := by decide +kernel
theorem dX10_undo_11 : decode cX10_undo 11 = .ok (.invokevirtual 41, 3) := by decide +kernel
theorem dX10_undo_14 : decode cX10_undo 14 = .ok (.ifCond .eq 7, 3) := by decide +kernel
theorem dX10_undo_17 : decode cX10_undo 17 = .ok (.aload_n 2, 1) := by decide +kernel
theorem dX10_undo_18 : decode cX10_undo 18 = .ok (.ifnonnull 5, 3) := by decide +kernel
theorem dX10_undo_21 : decode cX10_undo 21 = .ok (.iconst 0, 1) := by decide +kernel
theorem dX10_undo_22 : decode cX10_undo 22 = .ok (.ireturn, 1) := by decide +kernel
theorem dX10_undo_23 : decode cX10_undo 23 = .ok (.aload_n 2, 1) := by decide +kernel
theorem dX10_undo_24 : decode cX10_undo 24 = .ok (.aload_n 0, 1) := by decide +kernel
theorem dX10_undo_25 : decode cX10_undo 25 = .ok (.invokevirtual 79, 3) := by decide +kernel
theorem dX10_undo_28 : decode cX10_undo 28 = .ok (.putfield 258, 3) := by decide +kernel
theorem dX10_undo_31 : decode cX10_undo 31 = .ok (.iconst 1, 1) := by decide +kernel
theorem dX10_undo_32 : decode cX10_undo 32 = .ok (.ireturn, 1) := by decide +kernel
theorem dX10_undoFault_0 : decode cX10_undoFault 0 = .ok (.aload_n 0, 1) := by decide +kernel
theorem dX10_undoFault_1 : decode cX10_undoFault 1 = .ok (.ifnonnull 5, 3) := by decide +kernel
theorem dX10_undoFault_4 : decode cX10_undoFault 4 = .ok (.iconst 1, 1) := by decide +kernel
theorem dX10_undoFault_5 : decode cX10_undoFault 5 = .ok (.ireturn, 1) := by decide +kernel
theorem dX10_undoFault_6 : decode cX10_undoFault 6 = .ok (.aload_n 0, 1) := by decide +kernel
theorem dX10_undoFault_7 : decode cX10_undoFault 7 = .ok (.getfield 258, 3) := by decide +kernel
theorem dX10_undoFault_10 : decode cX10_undoFault 10 = .ok (.ifnull 8, 3) := by decide +kernel
theorem dX10_undoFault_13 : decode cX10_undoFault 13 = .ok (.bipush 8, 2) := by decide +kernel
theorem dX10_undoFault_15 : decode cX10_undoFault 15 = .ok (.goto 4, 3) := by decide +kernel
theorem dX10_undoFault_18 : decode cX10_undoFault 18 = .ok (.iconst 0, 1) := by decide +kernel
theorem dX10_undoFault_19 : decode cX10_undoFault 19 = .ok (.ireturn, 1) := by decide +kernel
theorem dX10_release_0 : decode cX10_release 0 = .ok (.aload_n 0, 1) := by decide +kernel
theorem dX10_release_1 : decode cX10_release 1 = .ok (.iload_n 1, 1) := by decide +kernel
theorem dX10_release_2 : decode cX10_release 2 = .ok (.invokevirtual 133, 3) := by decide +kernel
theorem dX10_release_5 : decode cX10_release 5 = .ok (.astore_n 3, 1) := by decide +kernel
theorem dX10_release_6 : decode cX10_release 6 = .ok (.aload_n 0, 1) := by decide +kernel
theorem dX10_release_7 : decode cX10_release 7 = .ok (.aload_n 0, 1) := by decide +kernel
theorem dX10_release_8 : decode cX10_release 8 = .ok (.aload_n 3, 1) := by decide +kernel
theorem dX10_release_9 : decode cX10_release 9 = .ok (.iload_n 2, 1) := by decide +kernel
theorem dX10_release_10 : decode cX10_release 10 = .ok (.invokevirtual 261, 3) := by decide +kernel
theorem dX10_release_13 : decode cX10_release 13 = .ok (.invokevirtual 41, 3) := by decide +kernel
theorem dX10_release_16 : decode cX10_release 16 = .ok (.ifCond .eq 7, 3) := by decide +kernel
theorem dX10_release_19 : decode cX10_release 19 = .ok (.aload_n 3, 1) := by decide +kernel
theorem dX10_release_20 : decode cX10_release 20 = .ok (.ifnonnull 5, 3) := by decide +kernel
theorem dX10_release_23 : decode cX10_release 23 = .ok (.iconst 0, 1) := by decide +kernel
theorem dX10_release_24 : decode cX10_release 24 = .ok (.ireturn, 1) := by decide +kernel
theorem dX10_release_25 : decode cX10_release 25 = .ok (.aload_n 3, 1) := by decide +kernel
theorem dX10_release_26 : decode cX10_release 26 = .ok (.iload_n 2, 1) := by decide +kernel
theorem dX10_release_27 : decode cX10_release 27 = .ok (.aload_n 0, 1) := by decide +kernel
theorem dX10_release_28 : decode cX10_release 28 = .ok (.invokevirtual 79, 3) := by decide +kernel
theorem dX10_release_31 : decode cX10_release 31 = .ok (.invokevirtual 265, 3) := by decide +kernel
theorem dX10_release_34 : decode cX10_release 34 = .ok (.iconst 1, 1) := by decide +kernel
theorem dX10_release_35 : decode cX10_release 35 = .ok (.ireturn, 1) := by decide +kernel
theorem dX10_strike_0 : decode cX10_strike 0 = .ok (.aload_n 0, 1) := by decide +kernel
theorem dX10_strike_1 : decode cX10_strike 1 = .ok (.iload_n 1, 1) := by decide +kernel
theorem dX10_strike_2 : decode cX10_strike 2 = .ok (.invokevirtual 133, 3) := by decide +kernel
theorem dX10_strike_5 : decode cX10_strike 5 = .ok (.astore_n 2, 1) := by decide +kernel
theorem dX10_strike_6 : decode cX10_strike 6 = .ok (.aload_n 0, 1) := by decide +kernel
theorem dX10_strike_7 : decode cX10_strike 7 = .ok (.aload_n 0, 1) := by decide +kernel
theorem dX10_strike_8 : decode cX10_strike 8 = .ok (.aload_n 2, 1) := by decide +kernel
theorem dX10_strike_9 : decode cX10_strike 9 = .ok (.invokevirtual 269, 3) := by decide +kernel
theorem dX10_strike_12 : decode cX10_strike 12 = .ok (.invokevirtual 41, 3) := by decide +kernel
theorem dX10_strike_15 : decode cX10_strike 15 = .ok (.ifCond .eq 7, 3) := by decide +kernel
theorem dX10_strike_18 : decode cX10_strike 18 = .ok (.aload_n 2, 1) := by decide +kernel
theorem dX10_strike_19 : decode cX10_strike 19 = .ok (.ifnonnull 5, 3) := by decide +kernel
theorem dX10_strike_22 : decode cX10_strike 22 = .ok (.iconst 0, 1) := by decide +kernel
theorem dX10_strike_23 : decode cX10_strike 23 = .ok (.ireturn, 1) := by decide +kernel
theorem dX10_strike_24 : decode cX10_strike 24 = .ok (.aload_n 2, 1) := by decide +kernel
theorem dX10_strike_25 : decode cX10_strike 25 = .ok (.getfield 141, 3) := by decide +kernel
theorem dX10_strike_28 : decode cX10_strike 28 = .ok (.aload_n 0, 1) := by decide +kernel
theorem dX10_strike_29 : decode cX10_strike 29 = .ok (.invokevirtual 79, 3) := by decide +kernel
theorem dX10_strike_32 : decode cX10_strike 32 = .ok (.putfield 272, 3) := by decide +kernel
theorem dX10_strike_35 : decode cX10_strike 35 = .ok (.iconst 1, 1) := by decide +kernel
theorem dX10_strike_36 : decode cX10_strike 36 = .ok (.ireturn, 1) := by decide +kernel
theorem dX10_strikeFault_0 : decode cX10_strikeFault 0 = .ok (.aload_n 1, 1) := by decide +kernel
theorem dX10_strikeFault_1 : decode cX10_strikeFault 1 = .ok (.ifnonnull 5, 3) := by decide +kernel
theorem dX10_strikeFault_4 : decode cX10_strikeFault 4 = .ok (.iconst 1, 1) := by decide +kernel
theorem dX10_strikeFault_5 : decode cX10_strikeFault 5 = .ok (.ireturn, 1) := by decide +kernel
theorem dX10_strikeFault_6 : decode cX10_strikeFault 6 = .ok (.aload_n 1, 1) := by decide +kernel
theorem dX10_strikeFault_7 : decode cX10_strikeFault 7 = .ok (.getfield 153, 3) := by decide +kernel
theorem dX10_strikeFault_10 : decode cX10_strikeFault 10 = .ok (.ifnull 5, 3) := by decide +kernel
theorem dX10_strikeFault_13 : decode cX10_strikeFault 13 = .ok (.iconst 4, 1) := by decide +kernel
theorem dX10_strikeFault_14 : decode cX10_strikeFault 14 = .ok (.ireturn, 1) := by decide +kernel
theorem dX10_strikeFault_15 : decode cX10_strikeFault 15 = .ok (.aload_n 1, 1) := by decide +kernel
theorem dX10_strikeFault_16 : decode cX10_strikeFault 16 = .ok (.getfield 141, 3) := by decide +kernel
theorem dX10_strikeFault_19 : decode cX10_strikeFault 19 = .ok (.aload_n 0, 1) := by decide +kernel
theorem dX10_strikeFault_20 : decode cX10_strikeFault 20 = .ok (.getfield 33, 3) := by decide +kernel
theorem dX10_strikeFault_23 : decode cX10_strikeFault 23 = .ok (.invokevirtual 174, 3) := by decide +kernel
theorem dX10_strikeFault_26 : decode cX10_strikeFault 26 = .ok (.ifCond .ne 6, 3) := by decide +kernel
theorem dX10_strikeFault_29 : decode cX10_strikeFault 29 = .ok (.bipush 6, 2) := by decide +kernel
theorem dX10_strikeFault_31 : decode cX10_strikeFault 31 = .ok (.ireturn, 1) := by decide +kernel
theorem dX10_strikeFault_32 : decode cX10_strikeFault 32 = .ok (.aload_n 0, 1) := by decide +kernel
theorem dX10_strikeFault_33 : decode cX10_strikeFault 33 = .ok (.getfield 65, 3) := by decide +kernel
theorem dX10_strikeFault_36 : decode cX10_strikeFault 36 = .ok (.aload_n 1, 1) := by decide +kernel
theorem dX10_strikeFault_37 : decode cX10_strikeFault 37 = .ok (.getfield 141, 3) := by decide +kernel
theorem dX10_strikeFault_40 : decode cX10_strikeFault 40 = .ok (.getfield 275, 3) := by decide +kernel
theorem dX10_strikeFault_43 : decode cX10_strikeFault 43 = .ok (.getfield 85, 3) := by decide +kernel
theorem dX10_strikeFault_46 : decode cX10_strikeFault 46 = .ok (.if_icmp .ge 8, 3) := by decide +kernel
theorem dX10_strikeFault_49 : decode cX10_strikeFault 49 = .ok (.bipush 8, 2) := by decide +kernel
theorem dX10_strikeFault_51 : decode cX10_strikeFault 51 = .ok (.goto 4, 3) := by decide +kernel
theorem dX10_strikeFault_54 : decode cX10_strikeFault 54 = .ok (.iconst 0, 1) := by decide +kernel
theorem dX10_strikeFault_55 : decode cX10_strikeFault 55 = .ok (.ireturn, 1) := by decide +kernel
theorem dX10_keep_0 : decode cX10_keep 0 = .ok (.aload_n 0, 1) := by decide +kernel
theorem dX10_keep_1 : decode cX10_keep 1 = .ok (.iload_n 1, 1) := by decide +kernel
theorem dX10_keep_2 : decode cX10_keep 2 = .ok (.invokevirtual 133, 3) := by decide +kernel
theorem dX10_keep_5 : decode cX10_keep 5 = .ok (.astore_n 3, 1) := by decide +kernel
theorem dX10_keep_6 : decode cX10_keep 6 = .ok (.aload_n 0, 1) := by decide +kernel
theorem dX10_keep_7 : decode cX10_keep 7 = .ok (.iload_n 2, 1) := by decide +kernel
theorem dX10_keep_8 : decode cX10_keep 8 = .ok (.invokevirtual 133, 3) := by decide +kernel
theorem dX10_keep_11 : decode cX10_keep 11 = .ok (.astore 4, 2) := by decide +kernel
theorem dX10_keep_13 : decode cX10_keep 13 = .ok (.aload_n 0, 1) := by decide +kernel
theorem dX10_keep_14 : decode cX10_keep 14 = .ok (.aload_n 0, 1) := by decide +kernel
theorem dX10_keep_15 : decode cX10_keep 15 = .ok (.aload_n 3, 1) := by decide +kernel
theorem dX10_keep_16 : decode cX10_keep 16 = .ok (.aload 4, 2) := by decide +kernel
theorem dX10_keep_18 : decode cX10_keep 18 = .ok (.invokevirtual 278, 3) := by decide +kernel
theorem dX10_keep_21 : decode cX10_keep 21 = .ok (.invokevirtual 41, 3) := by decide +kernel
theorem dX10_keep_24 : decode cX10_keep 24 = .ok (.ifCond .eq 12, 3) := by decide +kernel
theorem dX10_keep_27 : decode cX10_keep 27 = .ok (.aload_n 3, 1) := by decide +kernel
theorem dX10_keep_28 : decode cX10_keep 28 = .ok (.ifnull 8, 3) := by decide +kernel
theorem dX10_keep_31 : decode cX10_keep 31 = .ok (.aload 4, 2) := by decide +kernel
theorem dX10_keep_33 : decode cX10_keep 33 = .ok (.ifnonnull 5, 3) := by decide +kernel
theorem dX10_keep_36 : decode cX10_keep 36 = .ok (.iconst 0, 1) := by decide +kernel
theorem dX10_keep_37 : decode cX10_keep 37 = .ok (.ireturn, 1) := by decide +kernel
theorem dX10_keep_38 : decode cX10_keep 38 = .ok (.aload_n 3, 1) := by decide +kernel
theorem dX10_keep_39 : decode cX10_keep 39 = .ok (.getfield 141, 3) := by decide +kernel
theorem dX10_keep_42 : decode cX10_keep 42 = .ok (.aload 4, 2) := by decide +kernel
theorem dX10_keep_44 : decode cX10_keep 44 = .ok (.getfield 141, 3) := by decide +kernel
theorem dX10_keep_47 : decode cX10_keep 47 = .ok (.putfield 282, 3) := by decide +kernel
theorem dX10_keep_50 : decode cX10_keep 50 = .ok (.aload_n 3, 1) := by decide +kernel
theorem dX10_keep_51 : decode cX10_keep 51 = .ok (.getfield 141, 3) := by decide +kernel
theorem dX10_keep_54 : decode cX10_keep 54 = .ok (.aload_n 0, 1) := by decide +kernel
theorem dX10_keep_55 : decode cX10_keep 55 = .ok (.invokevirtual 79, 3) := by decide +kernel
theorem dX10_keep_58 : decode cX10_keep 58 = .ok (.putfield 285, 3) := by decide +kernel
theorem dX10_keep_61 : decode cX10_keep 61 = .ok (.aload 4, 2) := by decide +kernel
theorem dX10_keep_63 : decode cX10_keep 63 = .ok (.getfield 141, 3) := by decide +kernel
theorem dX10_keep_66 : decode cX10_keep 66 = .ok (.aload_n 3, 1) := by decide +kernel
theorem dX10_keep_67 : decode cX10_keep 67 = .ok (.getfield 141, 3) := by decide +kernel
theorem dX10_keep_70 : decode cX10_keep 70 = .ok (.putfield 282, 3) := by decide +kernel
theorem dX10_keep_73 : decode cX10_keep 73 = .ok (.iconst 1, 1) := by decide +kernel
theorem dX10_keep_74 : decode cX10_keep 74 = .ok (.ireturn, 1) := by decide +kernel
theorem dX10_keepFault_0 : decode cX10_keepFault 0 = .ok (.aload_n 1, 1) := by decide +kernel
theorem dX10_keepFault_1 : decode cX10_keepFault 1 = .ok (.ifnull 7, 3) := by decide +kernel
theorem dX10_keepFault_4 : decode cX10_keepFault 4 = .ok (.aload_n 2, 1) := by decide +kernel
theorem dX10_keepFault_5 : decode cX10_keepFault 5 = .ok (.ifnonnull 5, 3) := by decide +kernel
theorem dX10_keepFault_8 : decode cX10_keepFault 8 = .ok (.iconst 1, 1) := by decide +kernel
theorem dX10_keepFault_9 : decode cX10_keepFault 9 = .ok (.ireturn, 1) := by decide +kernel
theorem dX10_keepFault_10 : decode cX10_keepFault 10 = .ok (.aload_n 1, 1) := by decide +kernel
theorem dX10_keepFault_11 : decode cX10_keepFault 11 = .ok (.getfield 141, 3) := by decide +kernel
theorem dX10_keepFault_14 : decode cX10_keepFault 14 = .ok (.astore_n 3, 1) := by decide +kernel
theorem dX10_keepFault_15 : decode cX10_keepFault 15 = .ok (.aload_n 2, 1) := by decide +kernel
theorem dX10_keepFault_16 : decode cX10_keepFault 16 = .ok (.getfield 141, 3) := by decide +kernel
theorem dX10_keepFault_19 : decode cX10_keepFault 19 = .ok (.astore 4, 2) := by decide +kernel
theorem dX10_keepFault_21 : decode cX10_keepFault 21 = .ok (.aload_n 3, 1) := by decide +kernel
theorem dX10_keepFault_22 : decode cX10_keepFault 22 = .ok (.getfield 145, 3) := by decide +kernel
theorem dX10_keepFault_25 : decode cX10_keepFault 25 = .ok (.getfield 157, 3) := by decide +kernel
theorem dX10_keepFault_28 : decode cX10_keepFault 28 = .ok (.bipush 6, 2) := by decide +kernel
theorem dX10_keepFault_30 : decode cX10_keepFault 30 = .ok (.if_icmp .ne 23, 3) := by decide +kernel
theorem dX10_keepFault_33 : decode cX10_keepFault 33 = .ok (.aload 4, 2) := by decide +kernel
theorem dX10_keepFault_35 : decode cX10_keepFault 35 = .ok (.getfield 145, 3) := by decide +kernel
theorem dX10_keepFault_38 : decode cX10_keepFault 38 = .ok (.getfield 157, 3) := by decide +kernel
theorem dX10_keepFault_41 : decode cX10_keepFault 41 = .ok (.bipush 6, 2) := by decide +kernel
theorem dX10_keepFault_43 : decode cX10_keepFault 43 = .ok (.if_icmp .eq 10, 3) := by decide +kernel
theorem dX10_keepFault_46 : decode cX10_keepFault 46 = .ok (.aload_n 2, 1) := by decide +kernel
theorem dX10_keepFault_47 : decode cX10_keepFault 47 = .ok (.getfield 153, 3) := by decide +kernel
theorem dX10_keepFault_50 : decode cX10_keepFault 50 = .ok (.ifnull 5, 3) := by decide +kernel
theorem dX10_keepFault_53 : decode cX10_keepFault 53 = .ok (.iconst 4, 1) := by decide +kernel
theorem dX10_keepFault_54 : decode cX10_keepFault 54 = .ok (.ireturn, 1) := by decide +kernel
theorem dX10_keepFault_55 : decode cX10_keepFault 55 = .ok (.aload_n 0, 1) := by decide +kernel
theorem dX10_keepFault_56 : decode cX10_keepFault 56 = .ok (.aload_n 3, 1) := by decide +kernel
theorem dX10_keepFault_57 : decode cX10_keepFault 57 = .ok (.aload 4, 2) := by decide +kernel
theorem dX10_keepFault_59 : decode cX10_keepFault 59 = .ok (.invokevirtual 242, 3) := by decide +kernel
theorem dX10_keepFault_62 : decode cX10_keepFault 62 = .ok (.ifCond .ne 6, 3) := by decide +kernel
theorem dX10_keepFault_65 : decode cX10_keepFault 65 = .ok (.bipush 6, 2) := by decide +kernel
theorem dX10_keepFault_67 : decode cX10_keepFault 67 = .ok (.ireturn, 1) := by decide +kernel
theorem dX10_keepFault_68 : decode cX10_keepFault 68 = .ok (.aload 4, 2) := by decide +kernel
theorem dX10_keepFault_70 : decode cX10_keepFault 70 = .ok (.getfield 275, 3) := by decide +kernel
theorem dX10_keepFault_73 : decode cX10_keepFault 73 = .ok (.getfield 85, 3) := by decide +kernel
theorem dX10_keepFault_76 : decode cX10_keepFault 76 = .ok (.aload_n 3, 1) := by decide +kernel
theorem dX10_keepFault_77 : decode cX10_keepFault 77 = .ok (.getfield 275, 3) := by decide +kernel
theorem dX10_keepFault_80 : decode cX10_keepFault 80 = .ok (.getfield 85, 3) := by decide +kernel
theorem dX10_keepFault_83 : decode cX10_keepFault 83 = .ok (.isub, 1) := by decide +kernel
theorem dX10_keepFault_84 : decode cX10_keepFault 84 = .ok (.istore 5, 2) := by decide +kernel
theorem dX10_keepFault_86 : decode cX10_keepFault 86 = .ok (.iload 5, 2) := by decide +kernel
theorem dX10_keepFault_88 : decode cX10_keepFault 88 = .ok (.ifCond .lt 19, 3) := by decide +kernel
theorem dX10_keepFault_91 : decode cX10_keepFault 91 = .ok (.iload 5, 2) := by decide +kernel
theorem dX10_keepFault_93 : decode cX10_keepFault 93 = .ok (.aload_n 3, 1) := by decide +kernel
theorem dX10_keepFault_94 : decode cX10_keepFault 94 = .ok (.getfield 145, 3) := by decide +kernel
theorem dX10_keepFault_97 : decode cX10_keepFault 97 = .ok (.getfield 288, 3) := by decide +kernel
theorem dX10_keepFault_100 : decode cX10_keepFault 100 = .ok (.if_icmp .gt 7, 3) := by decide +kernel
theorem dX10_keepFault_103 : decode cX10_keepFault 103 = .ok (.iconst 1, 1) := by decide +kernel
theorem dX10_keepFault_104 : decode cX10_keepFault 104 = .ok (.goto 4, 3) := by decide +kernel
theorem dX10_keepFault_107 : decode cX10_keepFault 107 = .ok (.iconst 0, 1) := by decide +kernel
theorem dX10_keepFault_108 : decode cX10_keepFault 108 = .ok (.istore 6, 2) := by decide +kernel
theorem dX10_keepFault_110 : decode cX10_keepFault 110 = .ok (.iload 6, 2) := by decide +kernel
theorem dX10_keepFault_112 : decode cX10_keepFault 112 = .ok (.ifCond .eq 18, 3) := by decide +kernel
theorem dX10_keepFault_115 : decode cX10_keepFault 115 = .ok (.aload_n 3, 1) := by decide +kernel
theorem dX10_keepFault_116 : decode cX10_keepFault 116 = .ok (.getfield 282, 3) := by decide +kernel
theorem dX10_keepFault_119 : decode cX10_keepFault 119 = .ok (.ifnonnull 11, 3) := by decide +kernel
theorem dX10_keepFault_122 : decode cX10_keepFault 122 = .ok (.aload 4, 2) := by decide +kernel
theorem dX10_keepFault_124 : decode cX10_keepFault 124 = .ok (.getfield 282, 3) := by decide +kernel
theorem dX10_keepFault_127 : decode cX10_keepFault 127 = .ok (.ifnull 8, 3) := by decide +kernel
theorem dX10_keepFault_130 : decode cX10_keepFault 130 = .ok (.bipush 8, 2) := by decide +kernel
theorem dX10_keepFault_132 : decode cX10_keepFault 132 = .ok (.goto 4, 3) := by decide +kernel
theorem dX10_keepFault_135 : decode cX10_keepFault 135 = .ok (.iconst 0, 1) := by decide +kernel
theorem dX10_keepFault_136 : decode cX10_keepFault 136 = .ok (.ireturn, 1) := by decide +kernel
theorem dX10_many_0 : decode cX10_many 0 = .ok (.aload_n 0, 1) := by decide +kernel
theorem dX10_many_1 : decode cX10_many 1 = .ok (.iload_n 1, 1) := by decide +kernel
theorem dX10_many_2 : decode cX10_many 2 = .ok (.invokevirtual 50, 3) := by decide +kernel
theorem dX10_many_5 : decode cX10_many 5 = .ok (.astore_n 3, 1) := by decide +kernel
theorem dX10_many_6 : decode cX10_many 6 = .ok (.aload_n 0, 1) := by decide +kernel
theorem dX10_many_7 : decode cX10_many 7 = .ok (.aload_n 3, 1) := by decide +kernel
theorem dX10_many_8 : decode cX10_many 8 = .ok (.iload_n 2, 1) := by decide +kernel
theorem dX10_many_9 : decode cX10_many 9 = .ok (.invokestatic 54, 3) := by decide +kernel
theorem dX10_many_12 : decode cX10_many 12 = .ok (.invokevirtual 41, 3) := by decide +kernel
theorem dX10_many_15 : decode cX10_many 15 = .ok (.ifCond .eq 7, 3) := by decide +kernel
theorem dX10_many_18 : decode cX10_many 18 = .ok (.aload_n 3, 1) := by decide +kernel
theorem dX10_many_19 : decode cX10_many 19 = .ok (.ifnonnull 5, 3) := by decide +kernel
theorem dX10_many_22 : decode cX10_many 22 = .ok (.iconst (-1), 1) := by decide +kernel
theorem dX10_many_23 : decode cX10_many 23 = .ok (.ireturn, 1) := by decide +kernel
theorem dX10_many_24 : decode cX10_many 24 = .ok (.new 291, 3) := by decide +kernel
theorem dX10_many_27 : decode cX10_many 27 = .ok (.dup, 1) := by decide +kernel
theorem dX10_many_28 : decode cX10_many 28 = .ok (.aload_n 3, 1) := by decide +kernel
theorem dX10_many_29 : decode cX10_many 29 = .ok (.iload_n 2, 1) := by decide +kernel
theorem dX10_many_30 : decode cX10_many 30 = .ok (.aload_n 0, 1) := by decide +kernel
theorem dX10_many_31 : decode cX10_many 31 = .ok (.getfield 33, 3) := by decide +kernel
theorem dX10_many_34 : decode cX10_many 34 = .ok (.aload_n 0, 1) := by decide +kernel
theorem dX10_many_35 : decode cX10_many 35 = .ok (.getfield 233, 3) := by decide +kernel
theorem dX10_many_38 : decode cX10_many 38 = .ok (.invokespecial 293, 3) := by decide +kernel
theorem dX10_many_41 : decode cX10_many 41 = .ok (.astore 4, 2) := by decide +kernel
theorem dX10_many_43 : decode cX10_many 43 = .ok (.aload 4, 2) := by decide +kernel
theorem dX10_many_45 : decode cX10_many 45 = .ok (.invokevirtual 296, 3) := by decide +kernel
theorem dX10_many_48 : decode cX10_many 48 = .ok (.aload 4, 2) := by decide +kernel
theorem dX10_many_50 : decode cX10_many 50 = .ok (.getfield 299, 3) := by decide +kernel
theorem dX10_many_53 : decode cX10_many 53 = .ok (.ireturn, 1) := by decide +kernel
theorem dX10_list_0 : decode cX10_list 0 = .ok (.aload_n 0, 1) := by decide +kernel
theorem dX10_list_1 : decode cX10_list 1 = .ok (.aload_n 0, 1) := by decide +kernel
theorem dX10_list_2 : decode cX10_list 2 = .ok (.iload_n 1, 1) := by decide +kernel
theorem dX10_list_3 : decode cX10_list 3 = .ok (.invokevirtual 50, 3) := by decide +kernel
theorem dX10_list_6 : decode cX10_list 6 = .ok (.iload_n 2, 1) := by decide +kernel
theorem dX10_list_7 : decode cX10_list 7 = .ok (.aload_n 0, 1) := by decide +kernel
theorem dX10_list_8 : decode cX10_list 8 = .ok (.getfield 33, 3) := by decide +kernel
theorem dX10_list_11 : decode cX10_list 11 = .ok (.iload_n 3, 1) := by decide +kernel
theorem dX10_list_12 : decode cX10_list 12 = .ok (.invokevirtual 302, 3) := by decide +kernel
theorem dX10_list_15 : decode cX10_list 15 = .ok (.ireturn, 1) := by decide +kernel
theorem dX10_rank_0 : decode cX10_rank 0 = .ok (.aload_n 0, 1) := by decide +kernel
theorem dX10_rank_1 : decode cX10_rank 1 = .ok (.aload_n 0, 1) := by decide +kernel
theorem dX10_rank_2 : decode cX10_rank 2 = .ok (.iload_n 1, 1) := by decide +kernel
theorem dX10_rank_3 : decode cX10_rank 3 = .ok (.invokevirtual 133, 3) := by decide +kernel
theorem dX10_rank_6 : decode cX10_rank 6 = .ok (.iload_n 2, 1) := by decide +kernel
theorem dX10_rank_7 : decode cX10_rank 7 = .ok (.invokevirtual 306, 3) := by decide +kernel
theorem dX10_rank_10 : decode cX10_rank 10 = .ok (.astore_n 3, 1) := by decide +kernel
theorem dX10_rank_11 : decode cX10_rank 11 = .ok (.aload_n 3, 1) := by decide +kernel
theorem dX10_rank_12 : decode cX10_rank 12 = .ok (.ifnonnull 7, 3) := by decide +kernel
theorem dX10_rank_15 : decode cX10_rank 15 = .ok (.iconst (-1), 1) := by decide +kernel
theorem dX10_rank_16 : decode cX10_rank 16 = .ok (.goto 7, 3) := by decide +kernel
theorem dX10_rank_19 : decode cX10_rank 19 = .ok (.aload_n 3, 1) := by decide +kernel
theorem dX10_rank_20 : decode cX10_rank 20 = .ok (.getfield 310, 3) := by decide +kernel
theorem dX10_rank_23 : decode cX10_rank 23 = .ok (.ireturn, 1) := by decide +kernel
theorem dX10_why_0 : decode cX10_why 0 = .ok (.aload_n 0, 1) := by decide +kernel
theorem dX10_why_1 : decode cX10_why 1 = .ok (.aload_n 0, 1) := by decide +kernel
theorem dX10_why_2 : decode cX10_why 2 = .ok (.iload_n 1, 1) := by decide +kernel
theorem dX10_why_3 : decode cX10_why 3 = .ok (.invokevirtual 133, 3) := by decide +kernel
theorem dX10_why_6 : decode cX10_why 6 = .ok (.iload_n 2, 1) := by decide +kernel
theorem dX10_why_7 : decode cX10_why 7 = .ok (.invokevirtual 306, 3) := by decide +kernel
theorem dX10_why_10 : decode cX10_why 10 = .ok (.astore_n 3, 1) := by decide +kernel
theorem dX10_why_11 : decode cX10_why 11 = .ok (.aload_n 3, 1) := by decide +kernel
theorem dX10_why_12 : decode cX10_why 12 = .ok (.ifnonnull 7, 3) := by decide +kernel
theorem dX10_why_15 : decode cX10_why 15 = .ok (.iconst (-1), 1) := by decide +kernel
theorem dX10_why_16 : decode cX10_why 16 = .ok (.goto 7, 3) := by decide +kernel
theorem dX10_why_19 : decode cX10_why 19 = .ok (.aload_n 3, 1) := by decide +kernel
theorem dX10_why_20 : decode cX10_why 20 = .ok (.getfield 313, 3) := by decide +kernel
theorem dX10_why_23 : decode cX10_why 23 = .ok (.ireturn, 1) := by decide +kernel
theorem dX10_as_0 : decode cX10_as 0 = .ok (.aload_n 0, 1) := by decide +kernel
theorem dX10_as_1 : decode cX10_as 1 = .ok (.aload_n 0, 1) := by decide +kernel
theorem dX10_as_2 : decode cX10_as 2 = .ok (.getfield 316, 3) := by decide +kernel
theorem dX10_as_5 : decode cX10_as 5 = .ok (.invokevirtual 50, 3) := by decide +kernel
theorem dX10_as_8 : decode cX10_as 8 = .ok (.astore 5, 2) := by decide +kernel
theorem dX10_as_10 : decode cX10_as 10 = .ok (.aload 5, 2) := by decide +kernel
theorem dX10_as_12 : decode cX10_as 12 = .ok (.iload_n 1, 1) := by decide +kernel
theorem dX10_as_13 : decode cX10_as 13 = .ok (.invokestatic 54, 3) := by decide +kernel
theorem dX10_as_16 : decode cX10_as 16 = .ok (.istore 6, 2) := by decide +kernel
theorem dX10_as_18 : decode cX10_as 18 = .ok (.iload 6, 2) := by decide +kernel
theorem dX10_as_20 : decode cX10_as 20 = .ok (.ifCond .ne 22, 3) := by decide +kernel
theorem dX10_as_23 : decode cX10_as 23 = .ok (.aload_n 0, 1) := by decide +kernel
theorem dX10_as_24 : decode cX10_as 24 = .ok (.iload_n 2, 1) := by decide +kernel
theorem dX10_as_25 : decode cX10_as 25 = .ok (.invokevirtual 72, 3) := by decide +kernel
theorem dX10_as_28 : decode cX10_as 28 = .ok (.ifCond .eq 11, 3) := by decide +kernel
theorem dX10_as_31 : decode cX10_as 31 = .ok (.aload_n 0, 1) := by decide +kernel
theorem dX10_as_32 : decode cX10_as 32 = .ok (.iload_n 3, 1) := by decide +kernel
theorem dX10_as_33 : decode cX10_as 33 = .ok (.invokevirtual 72, 3) := by decide +kernel
theorem dX10_as_36 : decode cX10_as 36 = .ok (.ifCond .ne 6, 3) := by decide +kernel
theorem dX10_as_39 : decode cX10_as 39 = .ok (.iconst 5, 1) := by decide +kernel
theorem dX10_as_40 : decode cX10_as 40 = .ok (.istore 6, 2) := by decide +kernel
theorem dX10_as_42 : decode cX10_as 42 = .ok (.aload_n 0, 1) := by decide +kernel
theorem dX10_as_43 : decode cX10_as 43 = .ok (.iload 6, 2) := by decide +kernel
theorem dX10_as_45 : decode cX10_as 45 = .ok (.invokevirtual 41, 3) := by decide +kernel
theorem dX10_as_48 : decode cX10_as 48 = .ok (.ifCond .ne 5, 3) := by decide +kernel
theorem dX10_as_51 : decode cX10_as 51 = .ok (.iconst (-1), 1) := by decide +kernel
theorem dX10_as_52 : decode cX10_as 52 = .ok (.ireturn, 1) := by decide +kernel
theorem dX10_as_53 : decode cX10_as 53 = .ok (.aload_n 0, 1) := by decide +kernel
theorem dX10_as_54 : decode cX10_as 54 = .ok (.aload 5, 2) := by decide +kernel
theorem dX10_as_56 : decode cX10_as 56 = .ok (.iload_n 1, 1) := by decide +kernel
theorem dX10_as_57 : decode cX10_as 57 = .ok (.new 28, 3) := by decide +kernel
theorem dX10_as_60 : decode cX10_as 60 = .ok (.dup, 1) := by decide +kernel
theorem dX10_as_61 : decode cX10_as 61 = .ok (.iload_n 2, 1) := by decide +kernel
theorem dX10_as_62 : decode cX10_as 62 = .ok (.iload_n 3, 1) := by decide +kernel
theorem dX10_as_63 : decode cX10_as 63 = .ok (.invokespecial 30, 3) := by decide +kernel
theorem dX10_as_66 : decode cX10_as 66 = .ok (.iload 4, 2) := by decide +kernel
theorem dX10_as_68 : decode cX10_as 68 = .ok (.invokevirtual 302, 3) := by decide +kernel
theorem dX10_as_71 : decode cX10_as 71 = .ok (.ireturn, 1) := by decide +kernel
theorem dX10_choose_0 : decode cX10_choose 0 = .ok (.aload_n 0, 1) := by decide +kernel
theorem dX10_choose_1 : decode cX10_choose 1 = .ok (.aload_n 0, 1) := by decide +kernel
theorem dX10_choose_2 : decode cX10_choose 2 = .ok (.iload_n 1, 1) := by decide +kernel
theorem dX10_choose_3 : decode cX10_choose 3 = .ok (.invokevirtual 50, 3) := by decide +kernel
theorem dX10_choose_6 : decode cX10_choose 6 = .ok (.ifnonnull 7, 3) := by decide +kernel
theorem dX10_choose_9 : decode cX10_choose 9 = .ok (.iconst 1, 1) := by decide +kernel
theorem dX10_choose_10 : decode cX10_choose 10 = .ok (.goto 4, 3) := by decide +kernel
theorem dX10_choose_13 : decode cX10_choose 13 = .ok (.iconst 0, 1) := by decide +kernel
theorem dX10_choose_14 : decode cX10_choose 14 = .ok (.invokevirtual 41, 3) := by decide +kernel
theorem dX10_choose_17 : decode cX10_choose 17 = .ok (.ifCond .ne 5, 3) := by decide +kernel
theorem dX10_choose_20 : decode cX10_choose 20 = .ok (.iconst 0, 1) := by decide +kernel
theorem dX10_choose_21 : decode cX10_choose 21 = .ok (.ireturn, 1) := by decide +kernel
theorem dX10_choose_22 : decode cX10_choose 22 = .ok (.aload_n 0, 1) := by decide +kernel
theorem dX10_choose_23 : decode cX10_choose 23 = .ok (.iload_n 1, 1) := by decide +kernel
theorem dX10_choose_24 : decode cX10_choose 24 = .ok (.putfield 316, 3) := by decide +kernel
theorem dX10_choose_27 : decode cX10_choose 27 = .ok (.iconst 1, 1) := by decide +kernel
theorem dX10_choose_28 : decode cX10_choose 28 = .ok (.ireturn, 1) := by decide +kernel
theorem dX10_nth_0 : decode cX10_nth 0 = .ok (.aload_n 0, 1) := by decide +kernel
theorem dX10_nth_1 : decode cX10_nth 1 = .ok (.aload_n 1, 1) := by decide +kernel
theorem dX10_nth_2 : decode cX10_nth 2 = .ok (.iload_n 2, 1) := by decide +kernel
theorem dX10_nth_3 : decode cX10_nth 3 = .ok (.invokestatic 54, 3) := by decide +kernel
theorem dX10_nth_6 : decode cX10_nth 6 = .ok (.invokevirtual 41, 3) := by decide +kernel
theorem dX10_nth_9 : decode cX10_nth 9 = .ok (.ifCond .eq 7, 3) := by decide +kernel
theorem dX10_nth_12 : decode cX10_nth 12 = .ok (.aload_n 1, 1) := by decide +kernel
theorem dX10_nth_13 : decode cX10_nth 13 = .ok (.ifnonnull 5, 3) := by decide +kernel
theorem dX10_nth_16 : decode cX10_nth 16 = .ok (.iconst (-1), 1) := by decide +kernel
theorem dX10_nth_17 : decode cX10_nth 17 = .ok (.ireturn, 1) := by decide +kernel
theorem dX10_nth_18 : decode cX10_nth 18 = .ok (.new 291, 3) := by decide +kernel
theorem dX10_nth_21 : decode cX10_nth 21 = .ok (.dup, 1) := by decide +kernel
theorem dX10_nth_22 : decode cX10_nth 22 = .ok (.aload_n 1, 1) := by decide +kernel
theorem dX10_nth_23 : decode cX10_nth 23 = .ok (.iload_n 2, 1) := by decide +kernel
theorem dX10_nth_24 : decode cX10_nth 24 = .ok (.aload_n 3, 1) := by decide +kernel
theorem dX10_nth_25 : decode cX10_nth 25 = .ok (.aload_n 0, 1) := by decide +kernel
theorem dX10_nth_26 : decode cX10_nth 26 = .ok (.getfield 233, 3) := by decide +kernel
theorem dX10_nth_29 : decode cX10_nth 29 = .ok (.invokespecial 293, 3) := by decide +kernel
theorem dX10_nth_32 : decode cX10_nth 32 = .ok (.astore 5, 2) := by decide +kernel
theorem dX10_nth_34 : decode cX10_nth 34 = .ok (.aload 5, 2) := by decide +kernel
theorem dX10_nth_36 : decode cX10_nth 36 = .ok (.invokevirtual 296, 3) := by decide +kernel
theorem dX10_nth_39 : decode cX10_nth 39 = .ok (.aload 5, 2) := by decide +kernel
theorem dX10_nth_41 : decode cX10_nth 41 = .ok (.iload 4, 2) := by decide +kernel
theorem dX10_nth_43 : decode cX10_nth 43 = .ok (.invokevirtual 319, 3) := by decide +kernel
theorem dX10_nth_46 : decode cX10_nth 46 = .ok (.astore 6, 2) := by decide +kernel
theorem dX10_nth_48 : decode cX10_nth 48 = .ok (.aload_n 0, 1) := by decide +kernel
theorem dX10_nth_49 : decode cX10_nth 49 = .ok (.aload 6, 2) := by decide +kernel
theorem dX10_nth_51 : decode cX10_nth 51 = .ok (.ifnonnull 7, 3) := by decide +kernel
theorem dX10_nth_54 : decode cX10_nth 54 = .ok (.iconst 5, 1) := by decide +kernel
theorem dX10_nth_55 : decode cX10_nth 55 = .ok (.goto 4, 3) := by decide +kernel
theorem dX10_nth_58 : decode cX10_nth 58 = .ok (.iconst 0, 1) := by decide +kernel
theorem dX10_nth_59 : decode cX10_nth 59 = .ok (.invokevirtual 41, 3) := by decide +kernel
theorem dX10_nth_62 : decode cX10_nth 62 = .ok (.ifCond .eq 8, 3) := by decide +kernel
theorem dX10_nth_65 : decode cX10_nth 65 = .ok (.aload 6, 2) := by decide +kernel
theorem dX10_nth_67 : decode cX10_nth 67 = .ok (.ifnonnull 5, 3) := by decide +kernel
theorem dX10_nth_70 : decode cX10_nth 70 = .ok (.iconst (-1), 1) := by decide +kernel
theorem dX10_nth_71 : decode cX10_nth 71 = .ok (.ireturn, 1) := by decide +kernel
theorem dX10_nth_72 : decode cX10_nth 72 = .ok (.aload 6, 2) := by decide +kernel
theorem dX10_nth_74 : decode cX10_nth 74 = .ok (.invokevirtual 323, 3) := by decide +kernel
theorem dX10_nth_77 : decode cX10_nth 77 = .ok (.ireturn, 1) := by decide +kernel
theorem dX10_standing_0 : decode cX10_standing 0 = .ok (.aload_n 0, 1) := by decide +kernel
theorem dX10_standing_1 : decode cX10_standing 1 = .ok (.aload_n 1, 1) := by decide +kernel
theorem dX10_standing_2 : decode cX10_standing 2 = .ok (.iload_n 2, 1) := by decide +kernel
theorem dX10_standing_3 : decode cX10_standing 3 = .ok (.invokevirtual 261, 3) := by decide +kernel
theorem dX10_standing_6 : decode cX10_standing 6 = .ok (.istore_n 3, 1) := by decide +kernel
theorem dX10_standing_7 : decode cX10_standing 7 = .ok (.iload_n 3, 1) := by decide +kernel
theorem dX10_standing_8 : decode cX10_standing 8 = .ok (.ifCond .ne 25, 3) := by decide +kernel
theorem dX10_standing_11 : decode cX10_standing 11 = .ok (.aload_n 1, 1) := by decide +kernel
theorem dX10_standing_12 : decode cX10_standing 12 = .ok (.ifnull 21, 3) := by decide +kernel
theorem dX10_standing_15 : decode cX10_standing 15 = .ok (.aload_n 1, 1) := by decide +kernel
theorem dX10_standing_16 : decode cX10_standing 16 = .ok (.getfield 141, 3) := by decide +kernel
theorem dX10_standing_19 : decode cX10_standing 19 = .ok (.getfield 145, 3) := by decide +kernel
theorem dX10_standing_22 : decode cX10_standing 22 = .ok (.getfield 157, 3) := by decide +kernel
theorem dX10_standing_25 : decode cX10_standing 25 = .ok (.bipush 6, 2) := by decide +kernel
theorem dX10_standing_27 : decode cX10_standing 27 = .ok (.if_icmp .ne 6, 3) := by decide +kernel
theorem dX10_standing_30 : decode cX10_standing 30 = .ok (.bipush 6, 2) := by decide +kernel
theorem dX10_standing_32 : decode cX10_standing 32 = .ok (.istore_n 3, 1) := by decide +kernel
theorem dX10_standing_33 : decode cX10_standing 33 = .ok (.aload_n 0, 1) := by decide +kernel
theorem dX10_standing_34 : decode cX10_standing 34 = .ok (.iload_n 3, 1) := by decide +kernel
theorem dX10_standing_35 : decode cX10_standing 35 = .ok (.invokevirtual 41, 3) := by decide +kernel
theorem dX10_standing_38 : decode cX10_standing 38 = .ok (.ifCond .eq 7, 3) := by decide +kernel
theorem dX10_standing_41 : decode cX10_standing 41 = .ok (.aload_n 1, 1) := by decide +kernel
theorem dX10_standing_42 : decode cX10_standing 42 = .ok (.ifnonnull 5, 3) := by decide +kernel
theorem dX10_standing_45 : decode cX10_standing 45 = .ok (.aconst_null, 1) := by decide +kernel
theorem dX10_standing_46 : decode cX10_standing 46 = .ok (.areturn, 1) := by decide +kernel
theorem dX10_standing_47 : decode cX10_standing 47 = .ok (.new 291, 3) := by decide +kernel
theorem dX10_standing_50 : decode cX10_standing 50 = .ok (.dup, 1) := by decide +kernel
theorem dX10_standing_51 : decode cX10_standing 51 = .ok (.aload_n 1, 1) := by decide +kernel
theorem dX10_standing_52 : decode cX10_standing 52 = .ok (.getfield 141, 3) := by decide +kernel
theorem dX10_standing_55 : decode cX10_standing 55 = .ok (.getfield 326, 3) := by decide +kernel
theorem dX10_standing_58 : decode cX10_standing 58 = .ok (.iload_n 2, 1) := by decide +kernel
theorem dX10_standing_59 : decode cX10_standing 59 = .ok (.aload_n 0, 1) := by decide +kernel
theorem dX10_standing_60 : decode cX10_standing 60 = .ok (.getfield 33, 3) := by decide +kernel
theorem dX10_standing_63 : decode cX10_standing 63 = .ok (.aload_n 0, 1) := by decide +kernel
theorem dX10_standing_64 : decode cX10_standing 64 = .ok (.getfield 233, 3) := by decide +kernel
theorem dX10_standing_67 : decode cX10_standing 67 = .ok (.invokespecial 293, 3) := by decide +kernel
theorem dX10_standing_70 : decode cX10_standing 70 = .ok (.astore 4, 2) := by decide +kernel
theorem dX10_standing_72 : decode cX10_standing 72 = .ok (.aload 4, 2) := by decide +kernel
theorem dX10_standing_74 : decode cX10_standing 74 = .ok (.invokevirtual 296, 3) := by decide +kernel
theorem dX10_standing_77 : decode cX10_standing 77 = .ok (.aload_n 1, 1) := by decide +kernel
theorem dX10_standing_78 : decode cX10_standing 78 = .ok (.getfield 141, 3) := by decide +kernel
theorem dX10_standing_81 : decode cX10_standing 81 = .ok (.areturn, 1) := by decide +kernel
theorem dX10_sale_0 : decode cX10_sale 0 = .ok (.aload_n 0, 1) := by decide +kernel
theorem dX10_sale_1 : decode cX10_sale 1 = .ok (.aload_n 0, 1) := by decide +kernel
theorem dX10_sale_2 : decode cX10_sale 2 = .ok (.iload_n 1, 1) := by decide +kernel
theorem dX10_sale_3 : decode cX10_sale 3 = .ok (.invokevirtual 50, 3) := by decide +kernel
theorem dX10_sale_6 : decode cX10_sale 6 = .ok (.iload_n 2, 1) := by decide +kernel
theorem dX10_sale_7 : decode cX10_sale 7 = .ok (.lload_n 3, 1) := by decide +kernel
theorem dX10_sale_8 : decode cX10_sale 8 = .ok (.lload 5, 2) := by decide +kernel
theorem dX10_sale_10 : decode cX10_sale 10 = .ok (.invokevirtual 330, 3) := by decide +kernel
theorem dX10_sale_13 : decode cX10_sale 13 = .ok (.astore 7, 2) := by decide +kernel
theorem dX10_sale_15 : decode cX10_sale 15 = .ok (.aload 7, 2) := by decide +kernel
theorem dX10_sale_17 : decode cX10_sale 17 = .ok (.ifnonnull 9, 3) := by decide +kernel
theorem dX10_sale_20 : decode cX10_sale 20 = .ok (.ldc2_w 120, 3) := by decide +kernel
theorem dX10_sale_23 : decode cX10_sale 23 = .ok (.goto 7, 3) := by decide +kernel
theorem dX10_sale_26 : decode cX10_sale 26 = .ok (.aload_n 0, 1) := by decide +kernel
theorem dX10_sale_27 : decode cX10_sale 27 = .ok (.getfield 334, 3) := by decide +kernel
theorem dX10_sale_30 : decode cX10_sale 30 = .ok (.lreturn, 1) := by decide +kernel
theorem dX10_sell_0 : decode cX10_sell 0 = .ok (.aload_n 0, 1) := by decide +kernel
theorem dX10_sell_1 : decode cX10_sell 1 = .ok (.aload_n 0, 1) := by decide +kernel
theorem dX10_sell_2 : decode cX10_sell 2 = .ok (.iload_n 1, 1) := by decide +kernel
theorem dX10_sell_3 : decode cX10_sell 3 = .ok (.invokevirtual 50, 3) := by decide +kernel
theorem dX10_sell_6 : decode cX10_sell 6 = .ok (.iload_n 2, 1) := by decide +kernel
theorem dX10_sell_7 : decode cX10_sell 7 = .ok (.lload_n 3, 1) := by decide +kernel
theorem dX10_sell_8 : decode cX10_sell 8 = .ok (.lload 5, 2) := by decide +kernel
theorem dX10_sell_10 : decode cX10_sell 10 = .ok (.invokevirtual 330, 3) := by decide +kernel
theorem dX10_sell_13 : decode cX10_sell 13 = .ok (.astore 7, 2) := by decide +kernel
theorem dX10_sell_15 : decode cX10_sell 15 = .ok (.aload 7, 2) := by decide +kernel
theorem dX10_sell_17 : decode cX10_sell 17 = .ok (.ifnonnull 7, 3) := by decide +kernel
theorem dX10_sell_20 : decode cX10_sell 20 = .ok (.ldc2_w 120, 3) := by decide +kernel
theorem dX10_sell_23 : decode cX10_sell 23 = .ok (.lreturn, 1) := by decide +kernel
theorem dX10_sell_24 : decode cX10_sell 24 = .ok (.aload 7, 2) := by decide +kernel
theorem dX10_sell_26 : decode cX10_sell 26 = .ok (.invokevirtual 337, 3) := by decide +kernel
theorem dX10_sell_29 : decode cX10_sell 29 = .ok (.aload_n 0, 1) := by decide +kernel
theorem dX10_sell_30 : decode cX10_sell 30 = .ok (.dup, 1) := by decide +kernel
theorem dX10_sell_31 : decode cX10_sell 31 = .ok (.getfield 342, 3) := by decide +kernel
theorem dX10_sell_34 : decode cX10_sell 34 = .ok (.iconst 1, 1) := by decide +kernel
theorem dX10_sell_35 : decode cX10_sell 35 = .ok (.iadd, 1) := by decide +kernel
theorem dX10_sell_36 : decode cX10_sell 36 = .ok (.putfield 342, 3) := by decide +kernel
theorem dX10_sell_39 : decode cX10_sell 39 = .ok (.aload_n 0, 1) := by decide +kernel
theorem dX10_sell_40 : decode cX10_sell 40 = .ok (.getfield 334, 3) := by decide +kernel
theorem dX10_sell_43 : decode cX10_sell 43 = .ok (.lreturn, 1) := by decide +kernel
theorem dX10_offer_0 : decode cX10_offer 0 = .ok (.aload_n 0, 1) := by decide +kernel
theorem dX10_offer_1 : decode cX10_offer 1 = .ok (.aload_n 1, 1) := by decide +kernel
theorem dX10_offer_2 : decode cX10_offer 2 = .ok (.iload_n 2, 1) := by decide +kernel
theorem dX10_offer_3 : decode cX10_offer 3 = .ok (.lload_n 3, 1) := by decide +kernel
theorem dX10_offer_4 : decode cX10_offer 4 = .ok (.lload 5, 2) := by decide +kernel
theorem dX10_offer_6 : decode cX10_offer 6 = .ok (.invokestatic 345, 3) := by decide +kernel
theorem dX10_offer_9 : decode cX10_offer 9 = .ok (.invokevirtual 41, 3) := by decide +kernel
theorem dX10_offer_12 : decode cX10_offer 12 = .ok (.ifCond .eq 7, 3) := by decide +kernel
theorem dX10_offer_15 : decode cX10_offer 15 = .ok (.aload_n 1, 1) := by decide +kernel
theorem dX10_offer_16 : decode cX10_offer 16 = .ok (.ifnonnull 5, 3) := by decide +kernel
theorem dX10_offer_19 : decode cX10_offer 19 = .ok (.aconst_null, 1) := by decide +kernel
theorem dX10_offer_20 : decode cX10_offer 20 = .ok (.areturn, 1) := by decide +kernel
theorem dX10_offer_21 : decode cX10_offer 21 = .ok (.iconst 0, 1) := by decide +kernel
theorem dX10_offer_22 : decode cX10_offer 22 = .ok (.istore 7, 2) := by decide +kernel
theorem dX10_offer_24 : decode cX10_offer 24 = .ok (.iload 7, 2) := by decide +kernel
theorem dX10_offer_26 : decode cX10_offer 26 = .ok (.aload_n 0, 1) := by decide +kernel
theorem dX10_offer_27 : decode cX10_offer 27 = .ok (.getfield 98, 3) := by decide +kernel
theorem dX10_offer_30 : decode cX10_offer 30 = .ok (.if_icmp .ge 29, 3) := by decide +kernel
theorem dX10_offer_33 : decode cX10_offer 33 = .ok (.aload_n 0, 1) := by decide +kernel
theorem dX10_offer_34 : decode cX10_offer 34 = .ok (.getfield 17, 3) := by decide +kernel
theorem dX10_offer_37 : decode cX10_offer 37 = .ok (.iload 7, 2) := by decide +kernel
theorem dX10_offer_39 : decode cX10_offer 39 = .ok (.aaload, 1) := by decide +kernel
theorem dX10_offer_40 : decode cX10_offer 40 = .ok (.astore 8, 2) := by decide +kernel
theorem dX10_offer_42 : decode cX10_offer 42 = .ok (.aload 8, 2) := by decide +kernel
theorem dX10_offer_44 : decode cX10_offer 44 = .ok (.ifnull 9, 3) := by decide +kernel
theorem dX10_offer_47 : decode cX10_offer 47 = .ok (.aload 8, 2) := by decide +kernel
theorem dX10_offer_49 : decode cX10_offer 49 = .ok (.lconst 0, 1) := by decide +kernel
theorem dX10_offer_50 : decode cX10_offer 50 = .ok (.putfield 349, 3) := by decide +kernel
theorem dX10_offer_53 : decode cX10_offer 53 = .ok (.iinc 7 1, 3) := by decide +kernel
theorem dX10_offer_56 : decode cX10_offer 56 = .ok (.goto (-32), 3) := by decide +kernel
theorem dX10_offer_59 : decode cX10_offer 59 = .ok (.new 291, 3) := by decide +kernel
theorem dX10_offer_62 : decode cX10_offer 62 = .ok (.dup, 1) := by decide +kernel
theorem dX10_offer_63 : decode cX10_offer 63 = .ok (.aload_n 1, 1) := by decide +kernel
theorem dX10_offer_64 : decode cX10_offer 64 = .ok (.iload_n 2, 1) := by decide +kernel
theorem dX10_offer_65 : decode cX10_offer 65 = .ok (.aload_n 0, 1) := by decide +kernel
theorem dX10_offer_66 : decode cX10_offer 66 = .ok (.getfield 33, 3) := by decide +kernel
theorem dX10_offer_69 : decode cX10_offer 69 = .ok (.aload_n 0, 1) := by decide +kernel
theorem dX10_offer_70 : decode cX10_offer 70 = .ok (.getfield 233, 3) := by decide +kernel
theorem dX10_offer_73 : decode cX10_offer 73 = .ok (.invokespecial 293, 3) := by decide +kernel
theorem dX10_offer_76 : decode cX10_offer 76 = .ok (.astore 7, 2) := by decide +kernel
theorem dX10_offer_78 : decode cX10_offer 78 = .ok (.aload 7, 2) := by decide +kernel
theorem dX10_offer_80 : decode cX10_offer 80 = .ok (.invokevirtual 296, 3) := by decide +kernel
theorem dX10_offer_83 : decode cX10_offer 83 = .ok (.new 338, 3) := by decide +kernel
theorem dX10_offer_86 : decode cX10_offer 86 = .ok (.dup, 1) := by decide +kernel
theorem dX10_offer_87 : decode cX10_offer 87 = .ok (.aload 7, 2) := by decide +kernel
theorem dX10_offer_89 : decode cX10_offer 89 = .ok (.lload_n 3, 1) := by decide +kernel
theorem dX10_offer_90 : decode cX10_offer 90 = .ok (.lload 5, 2) := by decide +kernel
theorem dX10_offer_92 : decode cX10_offer 92 = .ok (.lsub, 1) := by decide +kernel
theorem dX10_offer_93 : decode cX10_offer 93 = .ok (.invokespecial 352, 3) := by decide +kernel
theorem dX10_offer_96 : decode cX10_offer 96 = .ok (.astore 8, 2) := by decide +kernel
theorem dX10_offer_98 : decode cX10_offer 98 = .ok (.aload 8, 2) := by decide +kernel
theorem dX10_offer_100 : decode cX10_offer 100 = .ok (.invokevirtual 355, 3) := by decide +kernel
theorem dX10_offer_103 : decode cX10_offer 103 = .ok (.aload_n 0, 1) := by decide +kernel
theorem dX10_offer_104 : decode cX10_offer 104 = .ok (.aload 8, 2) := by decide +kernel
theorem dX10_offer_106 : decode cX10_offer 106 = .ok (.getfield 358, 3) := by decide +kernel
theorem dX10_offer_109 : decode cX10_offer 109 = .ok (.putfield 334, 3) := by decide +kernel
theorem dX10_offer_112 : decode cX10_offer 112 = .ok (.aload 8, 2) := by decide +kernel
theorem dX10_offer_114 : decode cX10_offer 114 = .ok (.areturn, 1) := by decide +kernel
theorem dX10_saleFault_0 : decode cX10_saleFault 0 = .ok (.aload_n 0, 1) := by decide +kernel
theorem dX10_saleFault_1 : decode cX10_saleFault 1 = .ok (.iload_n 1, 1) := by decide +kernel
theorem dX10_saleFault_2 : decode cX10_saleFault 2 = .ok (.invokestatic 54, 3) := by decide +kernel
theorem dX10_saleFault_5 : decode cX10_saleFault 5 = .ok (.istore 6, 2) := by decide +kernel
theorem dX10_saleFault_7 : decode cX10_saleFault 7 = .ok (.iload 6, 2) := by decide +kernel
theorem dX10_saleFault_9 : decode cX10_saleFault 9 = .ok (.ifCond .eq 6, 3) := by decide +kernel
theorem dX10_saleFault_12 : decode cX10_saleFault 12 = .ok (.iload 6, 2) := by decide +kernel
theorem dX10_saleFault_14 : decode cX10_saleFault 14 = .ok (.ireturn, 1) := by decide +kernel
theorem dX10_saleFault_15 : decode cX10_saleFault 15 = .ok (.lload_n 2, 1) := by decide +kernel
theorem dX10_saleFault_16 : decode cX10_saleFault 16 = .ok (.invokestatic 126, 3) := by decide +kernel
theorem dX10_saleFault_19 : decode cX10_saleFault 19 = .ok (.ifCond .eq 22, 3) := by decide +kernel
theorem dX10_saleFault_22 : decode cX10_saleFault 22 = .ok (.lload 4, 2) := by decide +kernel
theorem dX10_saleFault_24 : decode cX10_saleFault 24 = .ok (.invokestatic 126, 3) := by decide +kernel
theorem dX10_saleFault_27 : decode cX10_saleFault 27 = .ok (.ifCond .eq 14, 3) := by decide +kernel
theorem dX10_saleFault_30 : decode cX10_saleFault 30 = .ok (.lload 4, 2) := by decide +kernel
theorem dX10_saleFault_32 : decode cX10_saleFault 32 = .ok (.lload_n 2, 1) := by decide +kernel
theorem dX10_saleFault_33 : decode cX10_saleFault 33 = .ok (.lcmp, 1) := by decide +kernel
theorem dX10_saleFault_34 : decode cX10_saleFault 34 = .ok (.ifCond .gt 7, 3) := by decide +kernel
theorem dX10_saleFault_37 : decode cX10_saleFault 37 = .ok (.iconst 0, 1) := by decide +kernel
theorem dX10_saleFault_38 : decode cX10_saleFault 38 = .ok (.goto 4, 3) := by decide +kernel
theorem dX10_saleFault_41 : decode cX10_saleFault 41 = .ok (.iconst 5, 1) := by decide +kernel
theorem dX10_saleFault_42 : decode cX10_saleFault 42 = .ok (.ireturn, 1) := by decide +kernel
theorem dX10_share_0 : decode cX10_share 0 = .ok (.aload_n 0, 1) := by decide +kernel
theorem dX10_share_1 : decode cX10_share 1 = .ok (.iload_n 1, 1) := by decide +kernel
theorem dX10_share_2 : decode cX10_share 2 = .ok (.invokevirtual 133, 3) := by decide +kernel
theorem dX10_share_5 : decode cX10_share 5 = .ok (.astore_n 2, 1) := by decide +kernel
theorem dX10_share_6 : decode cX10_share 6 = .ok (.aload_n 2, 1) := by decide +kernel
theorem dX10_share_7 : decode cX10_share 7 = .ok (.ifnonnull 7, 3) := by decide +kernel
theorem dX10_share_10 : decode cX10_share 10 = .ok (.lconst 0, 1) := by decide +kernel
theorem dX10_share_11 : decode cX10_share 11 = .ok (.goto 7, 3) := by decide +kernel
theorem dX10_share_14 : decode cX10_share 14 = .ok (.aload_n 2, 1) := by decide +kernel
theorem dX10_share_15 : decode cX10_share 15 = .ok (.getfield 349, 3) := by decide +kernel
theorem dX10_share_18 : decode cX10_share 18 = .ok (.lreturn, 1) := by decide +kernel
theorem dX10_tell_0 : decode cX10_tell 0 = .ok (.aload_n 0, 1) := by decide +kernel
theorem dX10_tell_1 : decode cX10_tell 1 = .ok (.iload_n 1, 1) := by decide +kernel
theorem dX10_tell_2 : decode cX10_tell 2 = .ok (.invokevirtual 133, 3) := by decide +kernel
theorem dX10_tell_5 : decode cX10_tell 5 = .ok (.astore 4, 2) := by decide +kernel
theorem dX10_tell_7 : decode cX10_tell 7 = .ok (.lload_n 2, 1) := by decide +kernel
theorem dX10_tell_8 : decode cX10_tell 8 = .ok (.lconst 0, 1) := by decide +kernel
theorem dX10_tell_9 : decode cX10_tell 9 = .ok (.lcmp, 1) := by decide +kernel
theorem dX10_tell_10 : decode cX10_tell 10 = .ok (.ifCond .ge 7, 3) := by decide +kernel
theorem dX10_tell_13 : decode cX10_tell 13 = .ok (.iconst 5, 1) := by decide +kernel
theorem dX10_tell_14 : decode cX10_tell 14 = .ok (.goto 4, 3) := by decide +kernel
theorem dX10_tell_17 : decode cX10_tell 17 = .ok (.iconst 0, 1) := by decide +kernel
theorem dX10_tell_18 : decode cX10_tell 18 = .ok (.istore 5, 2) := by decide +kernel
theorem dX10_tell_20 : decode cX10_tell 20 = .ok (.aload_n 0, 1) := by decide +kernel
theorem dX10_tell_21 : decode cX10_tell 21 = .ok (.aload 4, 2) := by decide +kernel
theorem dX10_tell_23 : decode cX10_tell 23 = .ok (.ifnonnull 7, 3) := by decide +kernel
theorem dX10_tell_26 : decode cX10_tell 26 = .ok (.iconst 1, 1) := by decide +kernel
theorem dX10_tell_27 : decode cX10_tell 27 = .ok (.goto 5, 3) := by decide +kernel
theorem dX10_tell_30 : decode cX10_tell 30 = .ok (.iload 5, 2) := by decide +kernel
theorem dX10_tell_32 : decode cX10_tell 32 = .ok (.invokevirtual 41, 3) := by decide +kernel
theorem dX10_tell_35 : decode cX10_tell 35 = .ok (.ifCond .eq 8, 3) := by decide +kernel
theorem dX10_tell_38 : decode cX10_tell 38 = .ok (.aload 4, 2) := by decide +kernel
theorem dX10_tell_40 : decode cX10_tell 40 = .ok (.ifnonnull 5, 3) := by decide +kernel
theorem dX10_tell_43 : decode cX10_tell 43 = .ok (.iconst 0, 1) := by decide +kernel
theorem dX10_tell_44 : decode cX10_tell 44 = .ok (.ireturn, 1) := by decide +kernel
theorem dX10_tell_45 : decode cX10_tell 45 = .ok (.aload 4, 2) := by decide +kernel
theorem dX10_tell_47 : decode cX10_tell 47 = .ok (.lload_n 2, 1) := by decide +kernel
theorem dX10_tell_48 : decode cX10_tell 48 = .ok (.putfield 361, 3) := by decide +kernel
theorem dX10_tell_51 : decode cX10_tell 51 = .ok (.iconst 1, 1) := by decide +kernel
theorem dX10_tell_52 : decode cX10_tell 52 = .ok (.ireturn, 1) := by decide +kernel
theorem dX10_check_0 : decode cX10_check 0 = .ok (.lload_n 1, 1) := by decide +kernel
theorem dX10_check_1 : decode cX10_check 1 = .ok (.aload_n 0, 1) := by decide +kernel
theorem dX10_check_2 : decode cX10_check 2 = .ok (.getfield 334, 3) := by decide +kernel
theorem dX10_check_5 : decode cX10_check 5 = .ok (.lcmp, 1) := by decide +kernel
theorem dX10_check_6 : decode cX10_check 6 = .ok (.ifCond .ne 7, 3) := by decide +kernel
theorem dX10_check_9 : decode cX10_check 9 = .ok (.iconst 0, 1) := by decide +kernel
theorem dX10_check_10 : decode cX10_check 10 = .ok (.goto 4, 3) := by decide +kernel
theorem dX10_check_13 : decode cX10_check 13 = .ok (.iconst (-1), 1) := by decide +kernel
theorem dX10_check_14 : decode cX10_check 14 = .ok (.istore_n 3, 1) := by decide +kernel
theorem dX10_check_15 : decode cX10_check 15 = .ok (.iconst 0, 1) := by decide +kernel
theorem dX10_check_16 : decode cX10_check 16 = .ok (.istore 4, 2) := by decide +kernel
theorem dX10_check_18 : decode cX10_check 18 = .ok (.iconst 0, 1) := by decide +kernel
theorem dX10_check_19 : decode cX10_check 19 = .ok (.istore 5, 2) := by decide +kernel
theorem dX10_check_21 : decode cX10_check 21 = .ok (.iload 5, 2) := by decide +kernel
theorem dX10_check_23 : decode cX10_check 23 = .ok (.aload_n 0, 1) := by decide +kernel
theorem dX10_check_24 : decode cX10_check 24 = .ok (.getfield 98, 3) := by decide +kernel
theorem dX10_check_27 : decode cX10_check 27 = .ok (.if_icmp .ge 68, 3) := by decide +kernel
theorem dX10_check_30 : decode cX10_check 30 = .ok (.aload_n 0, 1) := by decide +kernel
theorem dX10_check_31 : decode cX10_check 31 = .ok (.getfield 17, 3) := by decide +kernel
theorem dX10_check_34 : decode cX10_check 34 = .ok (.iload 5, 2) := by decide +kernel
theorem dX10_check_36 : decode cX10_check 36 = .ok (.aaload, 1) := by decide +kernel
theorem dX10_check_37 : decode cX10_check 37 = .ok (.astore 6, 2) := by decide +kernel
theorem dX10_check_39 : decode cX10_check 39 = .ok (.aload 6, 2) := by decide +kernel
theorem dX10_check_41 : decode cX10_check 41 = .ok (.ifnonnull 6, 3) := by decide +kernel
theorem dX10_check_44 : decode cX10_check 44 = .ok (.goto 45, 3) := by decide +kernel
theorem dX10_check_47 : decode cX10_check 47 = .ok (.iload 4, 2) := by decide +kernel
theorem dX10_check_49 : decode cX10_check 49 = .ok (.ifCond .ne 34, 3) := by decide +kernel
theorem dX10_check_52 : decode cX10_check 52 = .ok (.aload 6, 2) := by decide +kernel
theorem dX10_check_54 : decode cX10_check 54 = .ok (.getfield 153, 3) := by decide +kernel
theorem dX10_check_57 : decode cX10_check 57 = .ok (.ifnonnull 26, 3) := by decide +kernel
theorem dX10_check_60 : decode cX10_check 60 = .ok (.aload 6, 2) := by decide +kernel
theorem dX10_check_62 : decode cX10_check 62 = .ok (.getfield 361, 3) := by decide +kernel
theorem dX10_check_65 : decode cX10_check 65 = .ok (.aload 6, 2) := by decide +kernel
theorem dX10_check_67 : decode cX10_check 67 = .ok (.getfield 349, 3) := by decide +kernel
theorem dX10_check_70 : decode cX10_check 70 = .ok (.lcmp, 1) := by decide +kernel
theorem dX10_check_71 : decode cX10_check 71 = .ok (.ifCond .eq 12, 3) := by decide +kernel
theorem dX10_check_74 : decode cX10_check 74 = .ok (.aload 6, 2) := by decide +kernel
theorem dX10_check_76 : decode cX10_check 76 = .ok (.getfield 364, 3) := by decide +kernel
theorem dX10_check_79 : decode cX10_check 79 = .ok (.istore_n 3, 1) := by decide +kernel
theorem dX10_check_80 : decode cX10_check 80 = .ok (.iconst 1, 1) := by decide +kernel
theorem dX10_check_81 : decode cX10_check 81 = .ok (.istore 4, 2) := by decide +kernel
theorem dX10_check_83 : decode cX10_check 83 = .ok (.aload 6, 2) := by decide +kernel
theorem dX10_check_85 : decode cX10_check 85 = .ok (.lconst 0, 1) := by decide +kernel
theorem dX10_check_86 : decode cX10_check 86 = .ok (.putfield 361, 3) := by decide +kernel
theorem dX10_check_89 : decode cX10_check 89 = .ok (.iinc 5 1, 3) := by decide +kernel
theorem dX10_check_92 : decode cX10_check 92 = .ok (.goto (-71), 3) := by decide +kernel
theorem dX10_check_95 : decode cX10_check 95 = .ok (.aload_n 0, 1) := by decide +kernel
theorem dX10_check_96 : decode cX10_check 96 = .ok (.iconst 0, 1) := by decide +kernel
theorem dX10_check_97 : decode cX10_check 97 = .ok (.invokevirtual 41, 3) := by decide +kernel
theorem dX10_check_100 : decode cX10_check 100 = .ok (.pop, 1) := by decide +kernel
theorem dX10_check_101 : decode cX10_check 101 = .ok (.iload_n 3, 1) := by decide +kernel
theorem dX10_check_102 : decode cX10_check 102 = .ok (.ireturn, 1) := by decide +kernel
theorem dX10_circle_0 : decode cX10_circle 0 = .ok (.aload_n 0, 1) := by decide +kernel
theorem dX10_circle_1 : decode cX10_circle 1 = .ok (.getfield 24, 3) := by decide +kernel
theorem dX10_circle_4 : decode cX10_circle 4 = .ok (.iload_n 1, 1) := by decide +kernel
theorem dX10_circle_5 : decode cX10_circle 5 = .ok (.invokevirtual 365, 3) := by decide +kernel
theorem dX10_circle_8 : decode cX10_circle 8 = .ok (.ireturn, 1) := by decide +kernel
theorem dX10_due_0 : decode cX10_due 0 = .ok (.aload_n 0, 1) := by decide +kernel
theorem dX10_due_1 : decode cX10_due 1 = .ok (.iload_n 1, 1) := by decide +kernel
theorem dX10_due_2 : decode cX10_due 2 = .ok (.invokevirtual 133, 3) := by decide +kernel
theorem dX10_due_5 : decode cX10_due 5 = .ok (.astore_n 2, 1) := by decide +kernel
theorem dX10_due_6 : decode cX10_due 6 = .ok (.aload_n 2, 1) := by decide +kernel
theorem dX10_due_7 : decode cX10_due 7 = .ok (.ifnonnull 7, 3) := by decide +kernel
theorem dX10_due_10 : decode cX10_due 10 = .ok (.ldc2_w 120, 3) := by decide +kernel
theorem dX10_due_13 : decode cX10_due 13 = .ok (.lreturn, 1) := by decide +kernel
theorem dX10_due_14 : decode cX10_due 14 = .ok (.aload_n 2, 1) := by decide +kernel
theorem dX10_due_15 : decode cX10_due 15 = .ok (.getfield 141, 3) := by decide +kernel
theorem dX10_due_18 : decode cX10_due 18 = .ok (.aload_n 0, 1) := by decide +kernel
theorem dX10_due_19 : decode cX10_due 19 = .ok (.getfield 33, 3) := by decide +kernel
theorem dX10_due_22 : decode cX10_due 22 = .ok (.getfield 69, 3) := by decide +kernel
theorem dX10_due_25 : decode cX10_due 25 = .ok (.invokevirtual 367, 3) := by decide +kernel
theorem dX10_due_28 : decode cX10_due 28 = .ok (.aload_n 2, 1) := by decide +kernel
theorem dX10_due_29 : decode cX10_due 29 = .ok (.getfield 141, 3) := by decide +kernel
theorem dX10_due_32 : decode cX10_due 32 = .ok (.aload_n 2, 1) := by decide +kernel
theorem dX10_due_33 : decode cX10_due 33 = .ok (.invokevirtual 370, 3) := by decide +kernel
theorem dX10_due_36 : decode cX10_due 36 = .ok (.lreturn, 1) := by decide +kernel
theorem dX10_kind_0 : decode cX10_kind 0 = .ok (.aload_n 0, 1) := by decide +kernel
theorem dX10_kind_1 : decode cX10_kind 1 = .ok (.iload_n 1, 1) := by decide +kernel
theorem dX10_kind_2 : decode cX10_kind 2 = .ok (.invokevirtual 133, 3) := by decide +kernel
theorem dX10_kind_5 : decode cX10_kind 5 = .ok (.astore_n 3, 1) := by decide +kernel
theorem dX10_kind_6 : decode cX10_kind 6 = .ok (.aload_n 3, 1) := by decide +kernel
theorem dX10_kind_7 : decode cX10_kind 7 = .ok (.ifnonnull 5, 3) := by decide +kernel
theorem dX10_kind_10 : decode cX10_kind 10 = .ok (.iconst (-1), 1) := by decide +kernel
theorem dX10_kind_11 : decode cX10_kind 11 = .ok (.ireturn, 1) := by decide +kernel
theorem dX10_kind_12 : decode cX10_kind 12 = .ok (.aload_n 3, 1) := by decide +kernel
theorem dX10_kind_13 : decode cX10_kind 13 = .ok (.getfield 141, 3) := by decide +kernel
theorem dX10_kind_16 : decode cX10_kind 16 = .ok (.astore 4, 2) := by decide +kernel
theorem dX10_kind_18 : decode cX10_kind 18 = .ok (.iload_n 2, 1) := by decide +kernel
theorem dX10_kind_19 : decode cX10_kind 19 = .ok (.tableswitch 178 0 9 #[53, 62, 71, 77, 96, 101, 119, 128, 137, 150], 53) := by decide +kernel
theorem dX10_kind_72 : decode cX10_kind 72 = .ok (.aload 4, 2) := by decide +kernel
theorem dX10_kind_74 : decode cX10_kind 74 = .ok (.getfield 145, 3) := by decide +kernel
theorem dX10_kind_77 : decode cX10_kind 77 = .ok (.getfield 157, 3) := by decide +kernel
theorem dX10_kind_80 : decode cX10_kind 80 = .ok (.ireturn, 1) := by decide +kernel
theorem dX10_kind_81 : decode cX10_kind 81 = .ok (.aload 4, 2) := by decide +kernel
theorem dX10_kind_83 : decode cX10_kind 83 = .ok (.getfield 326, 3) := by decide +kernel
theorem dX10_kind_86 : decode cX10_kind 86 = .ok (.getfield 373, 3) := by decide +kernel
theorem dX10_kind_89 : decode cX10_kind 89 = .ok (.ireturn, 1) := by decide +kernel
theorem dX10_kind_90 : decode cX10_kind 90 = .ok (.aload 4, 2) := by decide +kernel
theorem dX10_kind_92 : decode cX10_kind 92 = .ok (.invokevirtual 323, 3) := by decide +kernel
theorem dX10_kind_95 : decode cX10_kind 95 = .ok (.ireturn, 1) := by decide +kernel
theorem dX10_kind_96 : decode cX10_kind 96 = .ok (.aload_n 3, 1) := by decide +kernel
theorem dX10_kind_97 : decode cX10_kind 97 = .ok (.getfield 153, 3) := by decide +kernel
theorem dX10_kind_100 : decode cX10_kind 100 = .ok (.ifnonnull 7, 3) := by decide +kernel
theorem dX10_kind_103 : decode cX10_kind 103 = .ok (.iconst 0, 1) := by decide +kernel
theorem dX10_kind_104 : decode cX10_kind 104 = .ok (.goto 10, 3) := by decide +kernel
theorem dX10_kind_107 : decode cX10_kind 107 = .ok (.aload_n 3, 1) := by decide +kernel
theorem dX10_kind_108 : decode cX10_kind 108 = .ok (.getfield 153, 3) := by decide +kernel
theorem dX10_kind_111 : decode cX10_kind 111 = .ok (.getfield 364, 3) := by decide +kernel
theorem dX10_kind_114 : decode cX10_kind 114 = .ok (.ireturn, 1) := by decide +kernel
theorem dX10_kind_115 : decode cX10_kind 115 = .ok (.aload_n 3, 1) := by decide +kernel
theorem dX10_kind_116 : decode cX10_kind 116 = .ok (.getfield 206, 3) := by decide +kernel
theorem dX10_kind_119 : decode cX10_kind 119 = .ok (.ireturn, 1) := by decide +kernel
theorem dX10_kind_120 : decode cX10_kind 120 = .ok (.aload 4, 2) := by decide +kernel
theorem dX10_kind_122 : decode cX10_kind 122 = .ok (.aload_n 0, 1) := by decide +kernel
theorem dX10_kind_123 : decode cX10_kind 123 = .ok (.getfield 33, 3) := by decide +kernel
theorem dX10_kind_126 : decode cX10_kind 126 = .ok (.invokevirtual 174, 3) := by decide +kernel
theorem dX10_kind_129 : decode cX10_kind 129 = .ok (.ifCond .eq 7, 3) := by decide +kernel
theorem dX10_kind_132 : decode cX10_kind 132 = .ok (.iconst 1, 1) := by decide +kernel
theorem dX10_kind_133 : decode cX10_kind 133 = .ok (.goto 4, 3) := by decide +kernel
theorem dX10_kind_136 : decode cX10_kind 136 = .ok (.iconst 0, 1) := by decide +kernel
theorem dX10_kind_137 : decode cX10_kind 137 = .ok (.ireturn, 1) := by decide +kernel
theorem dX10_kind_138 : decode cX10_kind 138 = .ok (.aload 4, 2) := by decide +kernel
theorem dX10_kind_140 : decode cX10_kind 140 = .ok (.getfield 275, 3) := by decide +kernel
theorem dX10_kind_143 : decode cX10_kind 143 = .ok (.getfield 85, 3) := by decide +kernel
theorem dX10_kind_146 : decode cX10_kind 146 = .ok (.ireturn, 1) := by decide +kernel
theorem dX10_kind_147 : decode cX10_kind 147 = .ok (.aload 4, 2) := by decide +kernel
theorem dX10_kind_149 : decode cX10_kind 149 = .ok (.getfield 275, 3) := by decide +kernel
theorem dX10_kind_152 : decode cX10_kind 152 = .ok (.getfield 374, 3) := by decide +kernel
theorem dX10_kind_155 : decode cX10_kind 155 = .ok (.ireturn, 1) := by decide +kernel
theorem dX10_kind_156 : decode cX10_kind 156 = .ok (.aload_n 3, 1) := by decide +kernel
theorem dX10_kind_157 : decode cX10_kind 157 = .ok (.getfield 182, 3) := by decide +kernel
theorem dX10_kind_160 : decode cX10_kind 160 = .ok (.ifCond .eq 7, 3) := by decide +kernel
theorem dX10_kind_163 : decode cX10_kind 163 = .ok (.iconst 2, 1) := by decide +kernel
theorem dX10_kind_164 : decode cX10_kind 164 = .ok (.goto 4, 3) := by decide +kernel
theorem dX10_kind_167 : decode cX10_kind 167 = .ok (.iconst 0, 1) := by decide +kernel
theorem dX10_kind_168 : decode cX10_kind 168 = .ok (.ireturn, 1) := by decide +kernel
theorem dX10_kind_169 : decode cX10_kind 169 = .ok (.aload_n 3, 1) := by decide +kernel
theorem dX10_kind_170 : decode cX10_kind 170 = .ok (.getfield 153, 3) := by decide +kernel
theorem dX10_kind_173 : decode cX10_kind 173 = .ok (.ifnonnull 11, 3) := by decide +kernel
theorem dX10_kind_176 : decode cX10_kind 176 = .ok (.aload 4, 2) := by decide +kernel
theorem dX10_kind_178 : decode cX10_kind 178 = .ok (.getfield 282, 3) := by decide +kernel
theorem dX10_kind_181 : decode cX10_kind 181 = .ok (.ifnonnull 7, 3) := by decide +kernel
theorem dX10_kind_184 : decode cX10_kind 184 = .ok (.iconst 0, 1) := by decide +kernel
theorem dX10_kind_185 : decode cX10_kind 185 = .ok (.goto 11, 3) := by decide +kernel
theorem dX10_kind_188 : decode cX10_kind 188 = .ok (.aload 4, 2) := by decide +kernel
theorem dX10_kind_190 : decode cX10_kind 190 = .ok (.getfield 282, 3) := by decide +kernel
theorem dX10_kind_193 : decode cX10_kind 193 = .ok (.invokevirtual 323, 3) := by decide +kernel
theorem dX10_kind_196 : decode cX10_kind 196 = .ok (.ireturn, 1) := by decide +kernel
theorem dX10_kind_197 : decode cX10_kind 197 = .ok (.iconst (-1), 1) := by decide +kernel
theorem dX10_kind_198 : decode cX10_kind 198 = .ok (.ireturn, 1) := by decide +kernel
theorem dX10_sum_0 : decode cX10_sum 0 = .ok (.aload_n 0, 1) := by decide +kernel
theorem dX10_sum_1 : decode cX10_sum 1 = .ok (.iload_n 1, 1) := by decide +kernel
theorem dX10_sum_2 : decode cX10_sum 2 = .ok (.invokevirtual 133, 3) := by decide +kernel
theorem dX10_sum_5 : decode cX10_sum 5 = .ok (.astore_n 2, 1) := by decide +kernel
theorem dX10_sum_6 : decode cX10_sum 6 = .ok (.aload_n 2, 1) := by decide +kernel
theorem dX10_sum_7 : decode cX10_sum 7 = .ok (.ifnonnull 9, 3) := by decide +kernel
theorem dX10_sum_10 : decode cX10_sum 10 = .ok (.ldc2_w 120, 3) := by decide +kernel
theorem dX10_sum_13 : decode cX10_sum 13 = .ok (.goto 11, 3) := by decide +kernel
theorem dX10_sum_16 : decode cX10_sum 16 = .ok (.aload_n 2, 1) := by decide +kernel
theorem dX10_sum_17 : decode cX10_sum 17 = .ok (.getfield 141, 3) := by decide +kernel
theorem dX10_sum_20 : decode cX10_sum 20 = .ok (.aload_n 2, 1) := by decide +kernel
theorem dX10_sum_21 : decode cX10_sum 21 = .ok (.invokevirtual 178, 3) := by decide +kernel
theorem dX10_sum_24 : decode cX10_sum 24 = .ok (.lreturn, 1) := by decide +kernel
theorem dX10_parcels_0 : decode cX10_parcels 0 = .ok (.aload_n 0, 1) := by decide +kernel
theorem dX10_parcels_1 : decode cX10_parcels 1 = .ok (.iload_n 1, 1) := by decide +kernel
theorem dX10_parcels_2 : decode cX10_parcels 2 = .ok (.invokevirtual 133, 3) := by decide +kernel
theorem dX10_parcels_5 : decode cX10_parcels 5 = .ok (.astore_n 2, 1) := by decide +kernel
theorem dX10_parcels_6 : decode cX10_parcels 6 = .ok (.aload_n 2, 1) := by decide +kernel
theorem dX10_parcels_7 : decode cX10_parcels 7 = .ok (.ifnonnull 5, 3) := by decide +kernel
theorem dX10_parcels_10 : decode cX10_parcels 10 = .ok (.lconst 0, 1) := by decide +kernel
theorem dX10_parcels_11 : decode cX10_parcels 11 = .ok (.lreturn, 1) := by decide +kernel
theorem dX10_parcels_12 : decode cX10_parcels 12 = .ok (.lconst 0, 1) := by decide +kernel
theorem dX10_parcels_13 : decode cX10_parcels 13 = .ok (.lstore_n 3, 1) := by decide +kernel
theorem dX10_parcels_14 : decode cX10_parcels 14 = .ok (.iconst 0, 1) := by decide +kernel
theorem dX10_parcels_15 : decode cX10_parcels 15 = .ok (.istore 5, 2) := by decide +kernel
theorem dX10_parcels_17 : decode cX10_parcels 17 = .ok (.iload 5, 2) := by decide +kernel
theorem dX10_parcels_19 : decode cX10_parcels 19 = .ok (.bipush 60, 2) := by decide +kernel
theorem dX10_parcels_21 : decode cX10_parcels 21 = .ok (.if_icmp .ge 29, 3) := by decide +kernel
theorem dX10_parcels_24 : decode cX10_parcels 24 = .ok (.aload_n 2, 1) := by decide +kernel
theorem dX10_parcels_25 : decode cX10_parcels 25 = .ok (.iload 5, 2) := by decide +kernel
theorem dX10_parcels_27 : decode cX10_parcels 27 = .ok (.aload_n 0, 1) := by decide +kernel
theorem dX10_parcels_28 : decode cX10_parcels 28 = .ok (.getfield 33, 3) := by decide +kernel
theorem dX10_parcels_31 : decode cX10_parcels 31 = .ok (.invokevirtual 377, 3) := by decide +kernel
theorem dX10_parcels_34 : decode cX10_parcels 34 = .ok (.ifCond .eq 10, 3) := by decide +kernel
theorem dX10_parcels_37 : decode cX10_parcels 37 = .ok (.lload_n 3, 1) := by decide +kernel
theorem dX10_parcels_38 : decode cX10_parcels 38 = .ok (.lconst 1, 1) := by decide +kernel
theorem dX10_parcels_39 : decode cX10_parcels 39 = .ok (.iload 5, 2) := by decide +kernel
theorem dX10_parcels_41 : decode cX10_parcels 41 = .ok (.lshl, 1) := by decide +kernel
theorem dX10_parcels_42 : decode cX10_parcels 42 = .ok (.lor, 1) := by decide +kernel
theorem dX10_parcels_43 : decode cX10_parcels 43 = .ok (.lstore_n 3, 1) := by decide +kernel
theorem dX10_parcels_44 : decode cX10_parcels 44 = .ok (.iinc 5 1, 3) := by decide +kernel
theorem dX10_parcels_47 : decode cX10_parcels 47 = .ok (.goto (-30), 3) := by decide +kernel
theorem dX10_parcels_50 : decode cX10_parcels 50 = .ok (.lload_n 3, 1) := by decide +kernel
theorem dX10_parcels_51 : decode cX10_parcels 51 = .ok (.lreturn, 1) := by decide +kernel
theorem dX10_status_0 : decode cX10_status 0 = .ok (.aload_n 0, 1) := by decide +kernel
theorem dX10_status_1 : decode cX10_status 1 = .ok (.getfield 381, 3) := by decide +kernel
theorem dX10_status_4 : decode cX10_status 4 = .ok (.ireturn, 1) := by decide +kernel
theorem dX10_count_0 : decode cX10_count 0 = .ok (.iload_n 1, 1) := by decide +kernel
theorem dX10_count_1 : decode cX10_count 1 = .ok (.tableswitch 84 0 6 #[43, 51, 56, 61, 66, 71, 76], 43) := by decide +kernel
theorem dX10_count_44 : decode cX10_count 44 = .ok (.aload_n 0, 1) := by decide +kernel
theorem dX10_count_45 : decode cX10_count 45 = .ok (.getfield 33, 3) := by decide +kernel
theorem dX10_count_48 : decode cX10_count 48 = .ok (.getfield 69, 3) := by decide +kernel
theorem dX10_count_51 : decode cX10_count 51 = .ok (.ireturn, 1) := by decide +kernel
theorem dX10_count_52 : decode cX10_count 52 = .ok (.aload_n 0, 1) := by decide +kernel
theorem dX10_count_53 : decode cX10_count 53 = .ok (.getfield 45, 3) := by decide +kernel
theorem dX10_count_56 : decode cX10_count 56 = .ok (.ireturn, 1) := by decide +kernel
theorem dX10_count_57 : decode cX10_count 57 = .ok (.aload_n 0, 1) := by decide +kernel
theorem dX10_count_58 : decode cX10_count 58 = .ok (.getfield 98, 3) := by decide +kernel
theorem dX10_count_61 : decode cX10_count 61 = .ok (.ireturn, 1) := by decide +kernel
theorem dX10_count_62 : decode cX10_count 62 = .ok (.aload_n 0, 1) := by decide +kernel
theorem dX10_count_63 : decode cX10_count 63 = .ok (.getfield 223, 3) := by decide +kernel
theorem dX10_count_66 : decode cX10_count 66 = .ok (.ireturn, 1) := by decide +kernel
theorem dX10_count_67 : decode cX10_count 67 = .ok (.aload_n 0, 1) := by decide +kernel
theorem dX10_count_68 : decode cX10_count 68 = .ok (.getfield 65, 3) := by decide +kernel
theorem dX10_count_71 : decode cX10_count 71 = .ok (.ireturn, 1) := by decide +kernel
theorem dX10_count_72 : decode cX10_count 72 = .ok (.aload_n 0, 1) := by decide +kernel
theorem dX10_count_73 : decode cX10_count 73 = .ok (.getfield 342, 3) := by decide +kernel
theorem dX10_count_76 : decode cX10_count 76 = .ok (.ireturn, 1) := by decide +kernel
theorem dX10_count_77 : decode cX10_count 77 = .ok (.aload_n 0, 1) := by decide +kernel
theorem dX10_count_78 : decode cX10_count 78 = .ok (.getfield 24, 3) := by decide +kernel
theorem dX10_count_81 : decode cX10_count 81 = .ok (.getfield 384, 3) := by decide +kernel
theorem dX10_count_84 : decode cX10_count 84 = .ok (.ireturn, 1) := by decide +kernel
theorem dX10_count_85 : decode cX10_count 85 = .ok (.iconst (-1), 1) := by decide +kernel
theorem dX10_count_86 : decode cX10_count 86 = .ok (.ireturn, 1) := by decide +kernel
theorem dX10_settle_0 : decode cX10_settle 0 = .ok (.aload_n 0, 1) := by decide +kernel
theorem dX10_settle_1 : decode cX10_settle 1 = .ok (.iload_n 1, 1) := by decide +kernel
theorem dX10_settle_2 : decode cX10_settle 2 = .ok (.putfield 381, 3) := by decide +kernel
theorem dX10_settle_5 : decode cX10_settle 5 = .ok (.iload_n 1, 1) := by decide +kernel
theorem dX10_settle_6 : decode cX10_settle 6 = .ok (.ifCond .ne 7, 3) := by decide +kernel
theorem dX10_settle_9 : decode cX10_settle 9 = .ok (.iconst 1, 1) := by decide +kernel
theorem dX10_settle_10 : decode cX10_settle 10 = .ok (.goto 4, 3) := by decide +kernel
theorem dX10_settle_13 : decode cX10_settle 13 = .ok (.iconst 0, 1) := by decide +kernel
theorem dX10_settle_14 : decode cX10_settle 14 = .ok (.ireturn, 1) := by decide +kernel
theorem dX10_newAct_0 : decode cX10_newAct 0 = .ok (.new 86, 3) := by decide +kernel
theorem dX10_newAct_3 : decode cX10_newAct 3 = .ok (.dup, 1) := by decide +kernel
theorem dX10_newAct_4 : decode cX10_newAct 4 = .ok (.aload_n 0, 1) := by decide +kernel
theorem dX10_newAct_5 : decode cX10_newAct 5 = .ok (.getfield 65, 3) := by decide +kernel
theorem dX10_newAct_8 : decode cX10_newAct 8 = .ok (.aload_n 0, 1) := by decide +kernel
theorem dX10_newAct_9 : decode cX10_newAct 9 = .ok (.getfield 33, 3) := by decide +kernel
theorem dX10_newAct_12 : decode cX10_newAct 12 = .ok (.getfield 69, 3) := by decide +kernel
theorem dX10_newAct_15 : decode cX10_newAct 15 = .ok (.invokespecial 387, 3) := by decide +kernel
theorem dX10_newAct_18 : decode cX10_newAct 18 = .ok (.areturn, 1) := by decide +kernel
theorem dX10_isPastOrToday_0 : decode cX10_isPastOrToday 0 = .ok (.iload_n 1, 1) := by decide +kernel
theorem dX10_isPastOrToday_1 : decode cX10_isPastOrToday 1 = .ok (.ifCond .lt 18, 3) := by decide +kernel
theorem dX10_isPastOrToday_4 : decode cX10_isPastOrToday 4 = .ok (.iload_n 1, 1) := by decide +kernel
theorem dX10_isPastOrToday_5 : decode cX10_isPastOrToday 5 = .ok (.aload_n 0, 1) := by decide +kernel
theorem dX10_isPastOrToday_6 : decode cX10_isPastOrToday 6 = .ok (.getfield 33, 3) := by decide +kernel
theorem dX10_isPastOrToday_9 : decode cX10_isPastOrToday 9 = .ok (.getfield 69, 3) := by decide +kernel
theorem dX10_isPastOrToday_12 : decode cX10_isPastOrToday 12 = .ok (.if_icmp .gt 7, 3) := by decide +kernel
theorem dX10_isPastOrToday_15 : decode cX10_isPastOrToday 15 = .ok (.iconst 1, 1) := by decide +kernel
theorem dX10_isPastOrToday_16 : decode cX10_isPastOrToday 16 = .ok (.goto 4, 3) := by decide +kernel
theorem dX10_isPastOrToday_19 : decode cX10_isPastOrToday 19 = .ok (.iconst 0, 1) := by decide +kernel
theorem dX10_isPastOrToday_20 : decode cX10_isPastOrToday 20 = .ok (.ireturn, 1) := by decide +kernel
theorem dX10_isSum_0 : decode cX10_isSum 0 = .ok (.lload_n 0, 1) := by decide +kernel
theorem dX10_isSum_1 : decode cX10_isSum 1 = .ok (.lconst 0, 1) := by decide +kernel
theorem dX10_isSum_2 : decode cX10_isSum 2 = .ok (.lcmp, 1) := by decide +kernel
theorem dX10_isSum_3 : decode cX10_isSum 3 = .ok (.ifCond .lt 15, 3) := by decide +kernel
theorem dX10_isSum_6 : decode cX10_isSum 6 = .ok (.lload_n 0, 1) := by decide +kernel
theorem dX10_isSum_7 : decode cX10_isSum 7 = .ok (.ldc2_w 388, 3) := by decide +kernel
theorem dX10_isSum_10 : decode cX10_isSum 10 = .ok (.lcmp, 1) := by decide +kernel
theorem dX10_isSum_11 : decode cX10_isSum 11 = .ok (.ifCond .gt 7, 3) := by decide +kernel
theorem dX10_isSum_14 : decode cX10_isSum 14 = .ok (.iconst 1, 1) := by decide +kernel
theorem dX10_isSum_15 : decode cX10_isSum 15 = .ok (.goto 4, 3) := by decide +kernel
theorem dX10_isSum_18 : decode cX10_isSum 18 = .ok (.iconst 0, 1) := by decide +kernel
theorem dX10_isSum_19 : decode cX10_isSum 19 = .ok (.ireturn, 1) := by decide +kernel
theorem dX10_liveInOneFolio_0 : decode cX10_liveInOneFolio 0 = .ok (.aload_n 1, 1) := by decide +kernel
theorem dX10_liveInOneFolio_1 : decode cX10_liveInOneFolio 1 = .ok (.aload_n 0, 1) := by decide +kernel
theorem dX10_liveInOneFolio_2 : decode cX10_liveInOneFolio 2 = .ok (.getfield 33, 3) := by decide +kernel
theorem dX10_liveInOneFolio_5 : decode cX10_liveInOneFolio 5 = .ok (.invokevirtual 174, 3) := by decide +kernel
theorem dX10_liveInOneFolio_8 : decode cX10_liveInOneFolio 8 = .ok (.ifCond .eq 29, 3) := by decide +kernel
theorem dX10_liveInOneFolio_11 : decode cX10_liveInOneFolio 11 = .ok (.aload_n 2, 1) := by decide +kernel
theorem dX10_liveInOneFolio_12 : decode cX10_liveInOneFolio 12 = .ok (.aload_n 0, 1) := by decide +kernel
theorem dX10_liveInOneFolio_13 : decode cX10_liveInOneFolio 13 = .ok (.getfield 33, 3) := by decide +kernel
theorem dX10_liveInOneFolio_16 : decode cX10_liveInOneFolio 16 = .ok (.invokevirtual 174, 3) := by decide +kernel
theorem dX10_liveInOneFolio_19 : decode cX10_liveInOneFolio 19 = .ok (.ifCond .eq 18, 3) := by decide +kernel
theorem dX10_liveInOneFolio_22 : decode cX10_liveInOneFolio 22 = .ok (.aload_n 1, 1) := by decide +kernel
theorem dX10_liveInOneFolio_23 : decode cX10_liveInOneFolio 23 = .ok (.getfield 326, 3) := by decide +kernel
theorem dX10_liveInOneFolio_26 : decode cX10_liveInOneFolio 26 = .ok (.aload_n 2, 1) := by decide +kernel
theorem dX10_liveInOneFolio_27 : decode cX10_liveInOneFolio 27 = .ok (.getfield 326, 3) := by decide +kernel
theorem dX10_liveInOneFolio_30 : decode cX10_liveInOneFolio 30 = .ok (.if_acmp .ne 7, 3) := by decide +kernel
theorem dX10_liveInOneFolio_33 : decode cX10_liveInOneFolio 33 = .ok (.iconst 1, 1) := by decide +kernel
theorem dX10_liveInOneFolio_34 : decode cX10_liveInOneFolio 34 = .ok (.goto 4, 3) := by decide +kernel
theorem dX10_liveInOneFolio_37 : decode cX10_liveInOneFolio 37 = .ok (.iconst 0, 1) := by decide +kernel
theorem dX10_liveInOneFolio_38 : decode cX10_liveInOneFolio 38 = .ok (.ireturn, 1) := by decide +kernel
theorem dX10_parcelFault_0 : decode cX10_parcelFault 0 = .ok (.aload_n 0, 1) := by decide +kernel
theorem dX10_parcelFault_1 : decode cX10_parcelFault 1 = .ok (.ifnonnull 5, 3) := by decide +kernel
theorem dX10_parcelFault_4 : decode cX10_parcelFault 4 = .ok (.iconst 1, 1) := by decide +kernel
theorem dX10_parcelFault_5 : decode cX10_parcelFault 5 = .ok (.ireturn, 1) := by decide +kernel
theorem dX10_parcelFault_6 : decode cX10_parcelFault 6 = .ok (.aload_n 0, 1) := by decide +kernel
theorem dX10_parcelFault_7 : decode cX10_parcelFault 7 = .ok (.iload_n 1, 1) := by decide +kernel
theorem dX10_parcelFault_8 : decode cX10_parcelFault 8 = .ok (.invokevirtual 390, 3) := by decide +kernel
theorem dX10_parcelFault_11 : decode cX10_parcelFault 11 = .ok (.ifCond .ne 5, 3) := by decide +kernel
theorem dX10_parcelFault_14 : decode cX10_parcelFault 14 = .ok (.iconst 2, 1) := by decide +kernel
theorem dX10_parcelFault_15 : decode cX10_parcelFault 15 = .ok (.ireturn, 1) := by decide +kernel
theorem dX10_parcelFault_16 : decode cX10_parcelFault 16 = .ok (.aload_n 0, 1) := by decide +kernel
theorem dX10_parcelFault_17 : decode cX10_parcelFault 17 = .ok (.iload_n 1, 1) := by decide +kernel
theorem dX10_parcelFault_18 : decode cX10_parcelFault 18 = .ok (.invokevirtual 393, 3) := by decide +kernel
theorem dX10_parcelFault_21 : decode cX10_parcelFault 21 = .ok (.ifCond .eq 7, 3) := by decide +kernel
theorem dX10_parcelFault_24 : decode cX10_parcelFault 24 = .ok (.iconst 3, 1) := by decide +kernel
theorem dX10_parcelFault_25 : decode cX10_parcelFault 25 = .ok (.goto 4, 3) := by decide +kernel
theorem dX10_parcelFault_28 : decode cX10_parcelFault 28 = .ok (.iconst 0, 1) := by decide +kernel
theorem dX10_parcelFault_29 : decode cX10_parcelFault 29 = .ok (.ireturn, 1) := by decide +kernel
theorem dX10_lieFault_0 : decode cX10_lieFault 0 = .ok (.aload_n 1, 1) := by decide +kernel
theorem dX10_lieFault_1 : decode cX10_lieFault 1 = .ok (.ifnonnull 5, 3) := by decide +kernel
theorem dX10_lieFault_4 : decode cX10_lieFault 4 = .ok (.iconst 1, 1) := by decide +kernel
theorem dX10_lieFault_5 : decode cX10_lieFault 5 = .ok (.ireturn, 1) := by decide +kernel
theorem dX10_lieFault_6 : decode cX10_lieFault 6 = .ok (.aload_n 1, 1) := by decide +kernel
theorem dX10_lieFault_7 : decode cX10_lieFault 7 = .ok (.getfield 141, 3) := by decide +kernel
theorem dX10_lieFault_10 : decode cX10_lieFault 10 = .ok (.getfield 326, 3) := by decide +kernel
theorem dX10_lieFault_13 : decode cX10_lieFault 13 = .ok (.iload_n 2, 1) := by decide +kernel
theorem dX10_lieFault_14 : decode cX10_lieFault 14 = .ok (.invokestatic 54, 3) := by decide +kernel
theorem dX10_lieFault_17 : decode cX10_lieFault 17 = .ok (.istore_n 3, 1) := by decide +kernel
theorem dX10_lieFault_18 : decode cX10_lieFault 18 = .ok (.iload_n 3, 1) := by decide +kernel
theorem dX10_lieFault_19 : decode cX10_lieFault 19 = .ok (.ifCond .eq 5, 3) := by decide +kernel
theorem dX10_lieFault_22 : decode cX10_lieFault 22 = .ok (.iload_n 3, 1) := by decide +kernel
theorem dX10_lieFault_23 : decode cX10_lieFault 23 = .ok (.ireturn, 1) := by decide +kernel
theorem dX10_lieFault_24 : decode cX10_lieFault 24 = .ok (.aload_n 1, 1) := by decide +kernel
theorem dX10_lieFault_25 : decode cX10_lieFault 25 = .ok (.iload_n 2, 1) := by decide +kernel
theorem dX10_lieFault_26 : decode cX10_lieFault 26 = .ok (.aload_n 0, 1) := by decide +kernel
theorem dX10_lieFault_27 : decode cX10_lieFault 27 = .ok (.getfield 33, 3) := by decide +kernel
theorem dX10_lieFault_30 : decode cX10_lieFault 30 = .ok (.invokevirtual 377, 3) := by decide +kernel
theorem dX10_lieFault_33 : decode cX10_lieFault 33 = .ok (.ifCond .eq 7, 3) := by decide +kernel
theorem dX10_lieFault_36 : decode cX10_lieFault 36 = .ok (.iconst 0, 1) := by decide +kernel
theorem dX10_lieFault_37 : decode cX10_lieFault 37 = .ok (.goto 5, 3) := by decide +kernel
theorem dX10_lieFault_40 : decode cX10_lieFault 40 = .ok (.bipush 6, 2) := by decide +kernel
theorem dX10_lieFault_42 : decode cX10_lieFault 42 = .ok (.ireturn, 1) := by decide +kernel
theorem dX10_folioAt_0 : decode cX10_folioAt 0 = .ok (.iload_n 1, 1) := by decide +kernel
theorem dX10_folioAt_1 : decode cX10_folioAt 1 = .ok (.ifCond .lt 20, 3) := by decide +kernel
theorem dX10_folioAt_4 : decode cX10_folioAt 4 = .ok (.iload_n 1, 1) := by decide +kernel
theorem dX10_folioAt_5 : decode cX10_folioAt 5 = .ok (.aload_n 0, 1) := by decide +kernel
theorem dX10_folioAt_6 : decode cX10_folioAt 6 = .ok (.getfield 45, 3) := by decide +kernel
theorem dX10_folioAt_9 : decode cX10_folioAt 9 = .ok (.if_icmp .ge 12, 3) := by decide +kernel
theorem dX10_folioAt_12 : decode cX10_folioAt 12 = .ok (.aload_n 0, 1) := by decide +kernel
theorem dX10_folioAt_13 : decode cX10_folioAt 13 = .ok (.getfield 11, 3) := by decide +kernel
theorem dX10_folioAt_16 : decode cX10_folioAt 16 = .ok (.iload_n 1, 1) := by decide +kernel
theorem dX10_folioAt_17 : decode cX10_folioAt 17 = .ok (.aaload, 1) := by decide +kernel
theorem dX10_folioAt_18 : decode cX10_folioAt 18 = .ok (.goto 4, 3) := by decide +kernel
theorem dX10_folioAt_21 : decode cX10_folioAt 21 = .ok (.aconst_null, 1) := by decide +kernel
theorem dX10_folioAt_22 : decode cX10_folioAt 22 = .ok (.areturn, 1) := by decide +kernel
theorem dX10_entryAt_0 : decode cX10_entryAt 0 = .ok (.iload_n 1, 1) := by decide +kernel
theorem dX10_entryAt_1 : decode cX10_entryAt 1 = .ok (.iconst 1, 1) := by decide +kernel
theorem dX10_entryAt_2 : decode cX10_entryAt 2 = .ok (.if_icmp .lt 22, 3) := by decide +kernel
theorem dX10_entryAt_5 : decode cX10_entryAt 5 = .ok (.iload_n 1, 1) := by decide +kernel
theorem dX10_entryAt_6 : decode cX10_entryAt 6 = .ok (.aload_n 0, 1) := by decide +kernel
theorem dX10_entryAt_7 : decode cX10_entryAt 7 = .ok (.getfield 98, 3) := by decide +kernel
theorem dX10_entryAt_10 : decode cX10_entryAt 10 = .ok (.if_icmp .gt 14, 3) := by decide +kernel
theorem dX10_entryAt_13 : decode cX10_entryAt 13 = .ok (.aload_n 0, 1) := by decide +kernel
theorem dX10_entryAt_14 : decode cX10_entryAt 14 = .ok (.getfield 17, 3) := by decide +kernel
theorem dX10_entryAt_17 : decode cX10_entryAt 17 = .ok (.iload_n 1, 1) := by decide +kernel
theorem dX10_entryAt_18 : decode cX10_entryAt 18 = .ok (.iconst 1, 1) := by decide +kernel
theorem dX10_entryAt_19 : decode cX10_entryAt 19 = .ok (.isub, 1) := by decide +kernel
theorem dX10_entryAt_20 : decode cX10_entryAt 20 = .ok (.aaload, 1) := by decide +kernel
theorem dX10_entryAt_21 : decode cX10_entryAt 21 = .ok (.goto 4, 3) := by decide +kernel
theorem dX10_entryAt_24 : decode cX10_entryAt 24 = .ok (.aconst_null, 1) := by decide +kernel
theorem dX10_entryAt_25 : decode cX10_entryAt 25 = .ok (.areturn, 1) := by decide +kernel
theorem dX10_postAt_0 : decode cX10_postAt 0 = .ok (.aload_n 0, 1) := by decide +kernel
theorem dX10_postAt_1 : decode cX10_postAt 1 = .ok (.getfield 233, 3) := by decide +kernel
theorem dX10_postAt_4 : decode cX10_postAt 4 = .ok (.astore_n 2, 1) := by decide +kernel
theorem dX10_postAt_5 : decode cX10_postAt 5 = .ok (.aload_n 2, 1) := by decide +kernel
theorem dX10_postAt_6 : decode cX10_postAt 6 = .ok (.ifnull 21, 3) := by decide +kernel
theorem dX10_postAt_9 : decode cX10_postAt 9 = .ok (.aload_n 2, 1) := by decide +kernel
theorem dX10_postAt_10 : decode cX10_postAt 10 = .ok (.getfield 239, 3) := by decide +kernel
theorem dX10_postAt_13 : decode cX10_postAt 13 = .ok (.iload_n 1, 1) := by decide +kernel
theorem dX10_postAt_14 : decode cX10_postAt 14 = .ok (.if_icmp .ne 5, 3) := by decide +kernel
theorem dX10_postAt_17 : decode cX10_postAt 17 = .ok (.aload_n 2, 1) := by decide +kernel
theorem dX10_postAt_18 : decode cX10_postAt 18 = .ok (.areturn, 1) := by decide +kernel
theorem dX10_postAt_19 : decode cX10_postAt 19 = .ok (.aload_n 2, 1) := by decide +kernel
theorem dX10_postAt_20 : decode cX10_postAt 20 = .ok (.getfield 236, 3) := by decide +kernel
theorem dX10_postAt_23 : decode cX10_postAt 23 = .ok (.astore_n 2, 1) := by decide +kernel
theorem dX10_postAt_24 : decode cX10_postAt 24 = .ok (.goto (-19), 3) := by decide +kernel
theorem dX10_postAt_27 : decode cX10_postAt 27 = .ok (.aconst_null, 1) := by decide +kernel
theorem dX10_postAt_28 : decode cX10_postAt 28 = .ok (.areturn, 1) := by decide +kernel
theorem dX10_addEntry_0 : decode cX10_addEntry 0 = .ok (.aload_n 0, 1) := by decide +kernel
theorem dX10_addEntry_1 : decode cX10_addEntry 1 = .ok (.getfield 98, 3) := by decide +kernel
theorem dX10_addEntry_4 : decode cX10_addEntry 4 = .ok (.aload_n 0, 1) := by decide +kernel
theorem dX10_addEntry_5 : decode cX10_addEntry 5 = .ok (.getfield 17, 3) := by decide +kernel
theorem dX10_addEntry_8 : decode cX10_addEntry 8 = .ok (.arraylength, 1) := by decide +kernel
theorem dX10_addEntry_9 : decode cX10_addEntry 9 = .ok (.if_icmp .lt 5, 3) := by decide +kernel
theorem dX10_addEntry_12 : decode cX10_addEntry 12 = .ok (.iconst (-1), 1) := by decide +kernel
theorem dX10_addEntry_13 : decode cX10_addEntry 13 = .ok (.ireturn, 1) := by decide +kernel
theorem dX10_addEntry_14 : decode cX10_addEntry 14 = .ok (.aload_n 0, 1) := by decide +kernel
theorem dX10_addEntry_15 : decode cX10_addEntry 15 = .ok (.getfield 17, 3) := by decide +kernel
theorem dX10_addEntry_18 : decode cX10_addEntry 18 = .ok (.aload_n 0, 1) := by decide +kernel
theorem dX10_addEntry_19 : decode cX10_addEntry 19 = .ok (.getfield 98, 3) := by decide +kernel
theorem dX10_addEntry_22 : decode cX10_addEntry 22 = .ok (.aload_n 1, 1) := by decide +kernel
theorem dX10_addEntry_23 : decode cX10_addEntry 23 = .ok (.aastore, 1) := by decide +kernel
theorem dX10_addEntry_24 : decode cX10_addEntry 24 = .ok (.aload_n 0, 1) := by decide +kernel
theorem dX10_addEntry_25 : decode cX10_addEntry 25 = .ok (.dup, 1) := by decide +kernel
theorem dX10_addEntry_26 : decode cX10_addEntry 26 = .ok (.getfield 98, 3) := by decide +kernel
theorem dX10_addEntry_29 : decode cX10_addEntry 29 = .ok (.iconst 1, 1) := by decide +kernel
theorem dX10_addEntry_30 : decode cX10_addEntry 30 = .ok (.iadd, 1) := by decide +kernel
theorem dX10_addEntry_31 : decode cX10_addEntry 31 = .ok (.putfield 98, 3) := by decide +kernel
theorem dX10_addEntry_34 : decode cX10_addEntry 34 = .ok (.aload_n 1, 1) := by decide +kernel
theorem dX10_addEntry_35 : decode cX10_addEntry 35 = .ok (.getfield 364, 3) := by decide +kernel
theorem dX10_addEntry_38 : decode cX10_addEntry 38 = .ok (.ireturn, 1) := by decide +kernel
