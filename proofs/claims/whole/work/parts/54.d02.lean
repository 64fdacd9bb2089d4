theorem dX6_over_44 : decode cX6_over 44 = .ok (.goto (-33), 3) := by decide +kernel
theorem dX6_over_47 : decode cX6_over 47 = .ok (.return_, 1) := by decide +kernel
theorem dX6_addTerm_0 : decode cX6_addTerm 0 = .ok (.iconst 0, 1) := by decide +kernel
theorem dX6_addTerm_1 : decode cX6_addTerm 1 = .ok (.istore_n 1, 1) := by decide +kernel
theorem dX6_addTerm_2 : decode cX6_addTerm 2 = .ok (.iconst 0, 1) := by decide +kernel
theorem dX6_addTerm_3 : decode cX6_addTerm 3 = .ok (.istore_n 2, 1) := by decide +kernel
theorem dX6_addTerm_4 : decode cX6_addTerm 4 = .ok (.iload_n 2, 1) := by decide +kernel
theorem dX6_addTerm_5 : decode cX6_addTerm 5 = .ok (.bipush 24, 2) := by decide +kernel
theorem dX6_addTerm_7 : decode cX6_addTerm 7 = .ok (.if_icmp .ge 40, 3) := by decide +kernel
theorem dX6_addTerm_10 : decode cX6_addTerm 10 = .ok (.iload_n 1, 1) := by decide +kernel
theorem dX6_addTerm_11 : decode cX6_addTerm 11 = .ok (.aload_n 0, 1) := by decide +kernel
theorem dX6_addTerm_12 : decode cX6_addTerm 12 = .ok (.getfield 13, 3) := by decide +kernel
theorem dX6_addTerm_15 : decode cX6_addTerm 15 = .ok (.iload_n 2, 1) := by decide +kernel
theorem dX6_addTerm_16 : decode cX6_addTerm 16 = .ok (.iaload, 1) := by decide +kernel
theorem dX6_addTerm_17 : decode cX6_addTerm 17 = .ok (.aload_n 0, 1) := by decide +kernel
theorem dX6_addTerm_18 : decode cX6_addTerm 18 = .ok (.getfield 9, 3) := by decide +kernel
theorem dX6_addTerm_21 : decode cX6_addTerm 21 = .ok (.iload_n 2, 1) := by decide +kernel
theorem dX6_addTerm_22 : decode cX6_addTerm 22 = .ok (.iaload, 1) := by decide +kernel
theorem dX6_addTerm_23 : decode cX6_addTerm 23 = .ok (.iadd, 1) := by decide +kernel
theorem dX6_addTerm_24 : decode cX6_addTerm 24 = .ok (.iadd, 1) := by decide +kernel
theorem dX6_addTerm_25 : decode cX6_addTerm 25 = .ok (.istore_n 1, 1) := by decide +kernel
theorem dX6_addTerm_26 : decode cX6_addTerm 26 = .ok (.aload_n 0, 1) := by decide +kernel
theorem dX6_addTerm_27 : decode cX6_addTerm 27 = .ok (.getfield 13, 3) := by decide +kernel
theorem dX6_addTerm_30 : decode cX6_addTerm 30 = .ok (.iload_n 2, 1) := by decide +kernel
theorem dX6_addTerm_31 : decode cX6_addTerm 31 = .ok (.iload_n 1, 1) := by decide +kernel
theorem dX6_addTerm_32 : decode cX6_addTerm 32 = .ok (.ldc 53, 2) := by decide +kernel
theorem dX6_addTerm_34 : decode cX6_addTerm 34 = .ok (.iand, 1) := by decide +kernel
theorem dX6_addTerm_35 : decode cX6_addTerm 35 = .ok (.iastore, 1) := by decide +kernel
theorem dX6_addTerm_36 : decode cX6_addTerm 36 = .ok (.iload_n 1, 1) := by decide +kernel
theorem dX6_addTerm_37 : decode cX6_addTerm 37 = .ok (.bipush 24, 2) := by decide +kernel
theorem dX6_addTerm_39 : decode cX6_addTerm 39 = .ok (.ishr, 1) := by decide +kernel
theorem dX6_addTerm_40 : decode cX6_addTerm 40 = .ok (.istore_n 1, 1) := by decide +kernel
theorem dX6_addTerm_41 : decode cX6_addTerm 41 = .ok (.iinc 2 1, 3) := by decide +kernel
theorem dX6_addTerm_44 : decode cX6_addTerm 44 = .ok (.goto (-40), 3) := by decide +kernel
theorem dX6_addTerm_47 : decode cX6_addTerm 47 = .ok (.return_, 1) := by decide +kernel
theorem dX6_sumIsAtMostWhole_0 : decode cX6_sumIsAtMostWhole 0 = .ok (.bipush 23, 2) := by decide +kernel
theorem dX6_sumIsAtMostWhole_2 : decode cX6_sumIsAtMostWhole 2 = .ok (.istore_n 1, 1) := by decide +kernel
theorem dX6_sumIsAtMostWhole_3 : decode cX6_sumIsAtMostWhole 3 = .ok (.iload_n 1, 1) := by decide +kernel
theorem dX6_sumIsAtMostWhole_4 : decode cX6_sumIsAtMostWhole 4 = .ok (.ifCond .lt 45, 3) := by decide +kernel
theorem dX6_sumIsAtMostWhole_7 : decode cX6_sumIsAtMostWhole 7 = .ok (.aload_n 0, 1) := by decide +kernel
theorem dX6_sumIsAtMostWhole_8 : decode cX6_sumIsAtMostWhole 8 = .ok (.getfield 13, 3) := by decide +kernel
theorem dX6_sumIsAtMostWhole_11 : decode cX6_sumIsAtMostWhole 11 = .ok (.iload_n 1, 1) := by decide +kernel
theorem dX6_sumIsAtMostWhole_12 : decode cX6_sumIsAtMostWhole 12 = .ok (.iaload, 1) := by decide +kernel
theorem dX6_sumIsAtMostWhole_13 : decode cX6_sumIsAtMostWhole 13 = .ok (.aload_n 0, 1) := by decide +kernel
theorem dX6_sumIsAtMostWhole_14 : decode cX6_sumIsAtMostWhole 14 = .ok (.getfield 16, 3) := by decide +kernel
theorem dX6_sumIsAtMostWhole_17 : decode cX6_sumIsAtMostWhole 17 = .ok (.iload_n 1, 1) := by decide +kernel
theorem dX6_sumIsAtMostWhole_18 : decode cX6_sumIsAtMostWhole 18 = .ok (.iaload, 1) := by decide +kernel
theorem dX6_sumIsAtMostWhole_19 : decode cX6_sumIsAtMostWhole 19 = .ok (.if_icmp .eq 24, 3) := by decide +kernel
theorem dX6_sumIsAtMostWhole_22 : decode cX6_sumIsAtMostWhole 22 = .ok (.aload_n 0, 1) := by decide +kernel
theorem dX6_sumIsAtMostWhole_23 : decode cX6_sumIsAtMostWhole 23 = .ok (.getfield 13, 3) := by decide +kernel
theorem dX6_sumIsAtMostWhole_26 : decode cX6_sumIsAtMostWhole 26 = .ok (.iload_n 1, 1) := by decide +kernel
theorem dX6_sumIsAtMostWhole_27 : decode cX6_sumIsAtMostWhole 27 = .ok (.iaload, 1) := by decide +kernel
theorem dX6_sumIsAtMostWhole_28 : decode cX6_sumIsAtMostWhole 28 = .ok (.aload_n 0, 1) := by decide +kernel
theorem dX6_sumIsAtMostWhole_29 : decode cX6_sumIsAtMostWhole 29 = .ok (.getfield 16, 3) := by decide +kernel
theorem dX6_sumIsAtMostWhole_32 : decode cX6_sumIsAtMostWhole 32 = .ok (.iload_n 1, 1) := by decide +kernel
theorem dX6_sumIsAtMostWhole_33 : decode cX6_sumIsAtMostWhole 33 = .ok (.iaload, 1) := by decide +kernel
theorem dX6_sumIsAtMostWhole_34 : decode cX6_sumIsAtMostWhole 34 = .ok (.if_icmp .ge 7, 3) := by decide +kernel
theorem dX6_sumIsAtMostWhole_37 : decode cX6_sumIsAtMostWhole 37 = .ok (.iconst 1, 1) := by decide +kernel
theorem dX6_sumIsAtMostWhole_38 : decode cX6_sumIsAtMostWhole 38 = .ok (.goto 4, 3) := by decide +kernel
theorem dX6_sumIsAtMostWhole_41 : decode cX6_sumIsAtMostWhole 41 = .ok (.iconst 0, 1) := by decide +kernel
theorem dX6_sumIsAtMostWhole_42 : decode cX6_sumIsAtMostWhole 42 = .ok (.ireturn, 1) := by decide +kernel
theorem dX6_sumIsAtMostWhole_43 : decode cX6_sumIsAtMostWhole 43 = .ok (.iinc 1 (-1), 3) := by decide +kernel
theorem dX6_sumIsAtMostWhole_46 : decode cX6_sumIsAtMostWhole 46 = .ok (.goto (-43), 3) := by decide +kernel
theorem dX6_sumIsAtMostWhole_49 : decode cX6_sumIsAtMostWhole 49 = .ok (.iconst 1, 1) := by decide +kernel
theorem dX6_sumIsAtMostWhole_50 : decode cX6_sumIsAtMostWhole 50 = .ok (.ireturn, 1) := by decide +kernel
theorem dX7_init_0 : decode cX7_init 0 = .ok (.aload_n 0, 1) := by decide +kernel
theorem dX7_init_1 : decode cX7_init 1 = .ok (.invokespecial 3, 3) := by decide +kernel
theorem dX7_init_4 : decode cX7_init 4 = .ok (.aload_n 0, 1) := by decide +kernel
theorem dX7_init_5 : decode cX7_init 5 = .ok (.sipush 150, 3) := by decide +kernel
theorem dX7_init_8 : decode cX7_init 8 = .ok (.newarray .int, 2) := by decide +kernel
theorem dX7_init_10 : decode cX7_init 10 = .ok (.putfield 9, 3) := by decide +kernel
theorem dX7_init_13 : decode cX7_init 13 = .ok (.aload_n 0, 1) := by decide +kernel
theorem dX7_init_14 : decode cX7_init 14 = .ok (.sipush 150, 3) := by decide +kernel
theorem dX7_init_17 : decode cX7_init 17 = .ok (.newarray .int, 2) := by decide +kernel
theorem dX7_init_19 : decode cX7_init 19 = .ok (.putfield 15, 3) := by decide +kernel
theorem dX7_init_22 : decode cX7_init 22 = .ok (.aload_n 0, 1) := by decide +kernel
theorem dX7_init_23 : decode cX7_init 23 = .ok (.sipush 150, 3) := by decide +kernel
theorem dX7_init_26 : decode cX7_init 26 = .ok (.newarray .int, 2) := by decide +kernel
theorem dX7_init_28 : decode cX7_init 28 = .ok (.putfield 18, 3) := by decide +kernel
theorem dX7_init_31 : decode cX7_init 31 = .ok (.aload_n 0, 1) := by decide +kernel
theorem dX7_init_32 : decode cX7_init 32 = .ok (.sipush 150, 3) := by decide +kernel
theorem dX7_init_35 : decode cX7_init 35 = .ok (.newarray .int, 2) := by decide +kernel
theorem dX7_init_37 : decode cX7_init 37 = .ok (.putfield 21, 3) := by decide +kernel
theorem dX7_init_40 : decode cX7_init 40 = .ok (.aload_n 0, 1) := by decide +kernel
theorem dX7_init_41 : decode cX7_init 41 = .ok (.sipush 2196, 3) := by decide +kernel
theorem dX7_init_44 : decode cX7_init 44 = .ok (.newarray .long, 2) := by decide +kernel
theorem dX7_init_46 : decode cX7_init 46 = .ok (.putfield 24, 3) := by decide +kernel
theorem dX7_init_49 : decode cX7_init 49 = .ok (.return_, 1) := by decide +kernel
theorem dX7_spot_0 : decode cX7_spot 0 = .ok (.iload_n 0, 1) := by decide +kernel
theorem dX7_spot_1 : decode cX7_spot 1 = .ok (.iconst 2, 1) := by decide +kernel
theorem dX7_spot_2 : decode cX7_spot 2 = .ok (.imul, 1) := by decide +kernel
theorem dX7_spot_3 : decode cX7_spot 3 = .ok (.iload_n 1, 1) := by decide +kernel
theorem dX7_spot_4 : decode cX7_spot 4 = .ok (.iadd, 1) := by decide +kernel
theorem dX7_spot_5 : decode cX7_spot 5 = .ok (.bipush 16, 2) := by decide +kernel
theorem dX7_spot_7 : decode cX7_spot 7 = .ok (.imul, 1) := by decide +kernel
theorem dX7_spot_8 : decode cX7_spot 8 = .ok (.iload_n 2, 1) := by decide +kernel
theorem dX7_spot_9 : decode cX7_spot 9 = .ok (.iadd, 1) := by decide +kernel
theorem dX7_spot_10 : decode cX7_spot 10 = .ok (.ireturn, 1) := by decide +kernel
theorem dX7_add_0 : decode cX7_add 0 = .ok (.aload_n 0, 1) := by decide +kernel
theorem dX7_add_1 : decode cX7_add 1 = .ok (.getfield 28, 3) := by decide +kernel
theorem dX7_add_4 : decode cX7_add 4 = .ok (.sipush 150, 3) := by decide +kernel
theorem dX7_add_7 : decode cX7_add 7 = .ok (.if_icmp .ge 54, 3) := by decide +kernel
theorem dX7_add_10 : decode cX7_add 10 = .ok (.aload_n 0, 1) := by decide +kernel
theorem dX7_add_11 : decode cX7_add 11 = .ok (.getfield 9, 3) := by decide +kernel
theorem dX7_add_14 : decode cX7_add 14 = .ok (.aload_n 0, 1) := by decide +kernel
theorem dX7_add_15 : decode cX7_add 15 = .ok (.getfield 28, 3) := by decide +kernel
theorem dX7_add_18 : decode cX7_add 18 = .ok (.iload_n 1, 1) := by decide +kernel
theorem dX7_add_19 : decode cX7_add 19 = .ok (.iastore, 1) := by decide +kernel
theorem dX7_add_20 : decode cX7_add 20 = .ok (.aload_n 0, 1) := by decide +kernel
theorem dX7_add_21 : decode cX7_add 21 = .ok (.getfield 15, 3) := by decide +kernel
theorem dX7_add_24 : decode cX7_add 24 = .ok (.aload_n 0, 1) := by decide +kernel
theorem dX7_add_25 : decode cX7_add 25 = .ok (.getfield 28, 3) := by decide +kernel
theorem dX7_add_28 : decode cX7_add 28 = .ok (.iload_n 2, 1) := by decide +kernel
theorem dX7_add_29 : decode cX7_add 29 = .ok (.iastore, 1) := by decide +kernel
theorem dX7_add_30 : decode cX7_add 30 = .ok (.aload_n 0, 1) := by decide +kernel
theorem dX7_add_31 : decode cX7_add 31 = .ok (.getfield 18, 3) := by decide +kernel
theorem dX7_add_34 : decode cX7_add 34 = .ok (.aload_n 0, 1) := by decide +kernel
theorem dX7_add_35 : decode cX7_add 35 = .ok (.getfield 28, 3) := by decide +kernel
theorem dX7_add_38 : decode cX7_add 38 = .ok (.iload_n 3, 1) := by decide +kernel
theorem dX7_add_39 : decode cX7_add 39 = .ok (.iastore, 1) := by decide +kernel
theorem dX7_add_40 : decode cX7_add 40 = .ok (.aload_n 0, 1) := by decide +kernel
theorem dX7_add_41 : decode cX7_add 41 = .ok (.getfield 21, 3) := by decide +kernel
theorem dX7_add_44 : decode cX7_add 44 = .ok (.aload_n 0, 1) := by decide +kernel
theorem dX7_add_45 : decode cX7_add 45 = .ok (.getfield 28, 3) := by decide +kernel
theorem dX7_add_48 : decode cX7_add 48 = .ok (.iload 4, 2) := by decide +kernel
theorem dX7_add_50 : decode cX7_add 50 = .ok (.iastore, 1) := by decide +kernel
theorem dX7_add_51 : decode cX7_add 51 = .ok (.aload_n 0, 1) := by decide +kernel
theorem dX7_add_52 : decode cX7_add 52 = .ok (.dup, 1) := by decide +kernel
theorem dX7_add_53 : decode cX7_add 53 = .ok (.getfield 28, 3) := by decide +kernel
theorem dX7_add_56 : decode cX7_add 56 = .ok (.iconst 1, 1) := by decide +kernel
theorem dX7_add_57 : decode cX7_add 57 = .ok (.iadd, 1) := by decide +kernel
theorem dX7_add_58 : decode cX7_add 58 = .ok (.putfield 28, 3) := by decide +kernel
theorem dX7_add_61 : decode cX7_add 61 = .ok (.aload_n 0, 1) := by decide +kernel
theorem dX7_add_62 : decode cX7_add 62 = .ok (.getfield 28, 3) := by decide +kernel
theorem dX7_add_65 : decode cX7_add 65 = .ok (.ireturn, 1) := by decide +kernel
theorem dX7_forgetRuns_0 : decode cX7_forgetRuns 0 = .ok (.aload_n 0, 1) := by decide +kernel
theorem dX7_forgetRuns_1 : decode cX7_forgetRuns 1 = .ok (.iconst 0, 1) := by decide +kernel
theorem dX7_forgetRuns_2 : decode cX7_forgetRuns 2 = .ok (.putfield 32, 3) := by decide +kernel
theorem dX7_forgetRuns_5 : decode cX7_forgetRuns 5 = .ok (.return_, 1) := by decide +kernel
theorem dX7_hasRun_0 : decode cX7_hasRun 0 = .ok (.aload_n 0, 1) := by decide +kernel
theorem dX7_hasRun_1 : decode cX7_hasRun 1 = .ok (.getfield 32, 3) := by decide +kernel
theorem dX7_hasRun_4 : decode cX7_hasRun 4 = .ok (.iload_n 1, 1) := by decide +kernel
theorem dX7_hasRun_5 : decode cX7_hasRun 5 = .ok (.ishr, 1) := by decide +kernel
theorem dX7_hasRun_6 : decode cX7_hasRun 6 = .ok (.iconst 1, 1) := by decide +kernel
theorem dX7_hasRun_7 : decode cX7_hasRun 7 = .ok (.iand, 1) := by decide +kernel
theorem dX7_hasRun_8 : decode cX7_hasRun 8 = .ok (.iconst 1, 1) := by decide +kernel
theorem dX7_hasRun_9 : decode cX7_hasRun 9 = .ok (.if_icmp .ne 7, 3) := by decide +kernel
theorem dX7_hasRun_12 : decode cX7_hasRun 12 = .ok (.iconst 1, 1) := by decide +kernel
theorem dX7_hasRun_13 : decode cX7_hasRun 13 = .ok (.goto 4, 3) := by decide +kernel
theorem dX7_hasRun_16 : decode cX7_hasRun 16 = .ok (.iconst 0, 1) := by decide +kernel
theorem dX7_hasRun_17 : decode cX7_hasRun 17 = .ok (.ireturn, 1) := by decide +kernel
theorem dX7_keepRun_0 : decode cX7_keepRun 0 = .ok (.iconst 0, 1) := by decide +kernel
theorem dX7_keepRun_1 : decode cX7_keepRun 1 = .ok (.istore_n 3, 1) := by decide +kernel
theorem dX7_keepRun_2 : decode cX7_keepRun 2 = .ok (.iload_n 3, 1) := by decide +kernel
theorem dX7_keepRun_3 : decode cX7_keepRun 3 = .ok (.bipush 61, 2) := by decide +kernel
theorem dX7_keepRun_5 : decode cX7_keepRun 5 = .ok (.if_icmp .ge 91, 3) := by decide +kernel
theorem dX7_keepRun_8 : decode cX7_keepRun 8 = .ok (.iconst 0, 1) := by decide +kernel
theorem dX7_keepRun_9 : decode cX7_keepRun 9 = .ok (.istore 4, 2) := by decide +kernel
theorem dX7_keepRun_11 : decode cX7_keepRun 11 = .ok (.iload 4, 2) := by decide +kernel
theorem dX7_keepRun_13 : decode cX7_keepRun 13 = .ok (.bipush 6, 2) := by decide +kernel
theorem dX7_keepRun_15 : decode cX7_keepRun 15 = .ok (.if_icmp .ge 75, 3) := by decide +kernel
theorem dX7_keepRun_18 : decode cX7_keepRun 18 = .ok (.iload 4, 2) := by decide +kernel
theorem dX7_keepRun_20 : decode cX7_keepRun 20 = .ok (.iconst 2, 1) := by decide +kernel
theorem dX7_keepRun_21 : decode cX7_keepRun 21 = .ok (.idiv, 1) := by decide +kernel
theorem dX7_keepRun_22 : decode cX7_keepRun 22 = .ok (.istore 5, 2) := by decide +kernel
theorem dX7_keepRun_24 : decode cX7_keepRun 24 = .ok (.iload 4, 2) := by decide +kernel
theorem dX7_keepRun_26 : decode cX7_keepRun 26 = .ok (.iconst 2, 1) := by decide +kernel
theorem dX7_keepRun_27 : decode cX7_keepRun 27 = .ok (.irem, 1) := by decide +kernel
theorem dX7_keepRun_28 : decode cX7_keepRun 28 = .ok (.istore 6, 2) := by decide +kernel
theorem dX7_keepRun_30 : decode cX7_keepRun 30 = .ok (.aload_n 0, 1) := by decide +kernel
theorem dX7_keepRun_31 : decode cX7_keepRun 31 = .ok (.getfield 24, 3) := by decide +kernel
theorem dX7_keepRun_34 : decode cX7_keepRun 34 = .ok (.iload_n 1, 1) := by decide +kernel
theorem dX7_keepRun_35 : decode cX7_keepRun 35 = .ok (.bipush 61, 2) := by decide +kernel
theorem dX7_keepRun_37 : decode cX7_keepRun 37 = .ok (.imul, 1) := by decide +kernel
theorem dX7_keepRun_38 : decode cX7_keepRun 38 = .ok (.iload_n 3, 1) := by decide +kernel
theorem dX7_keepRun_39 : decode cX7_keepRun 39 = .ok (.iadd, 1) := by decide +kernel
theorem dX7_keepRun_40 : decode cX7_keepRun 40 = .ok (.bipush 6, 2) := by decide +kernel
theorem dX7_keepRun_42 : decode cX7_keepRun 42 = .ok (.imul, 1) := by decide +kernel
theorem dX7_keepRun_43 : decode cX7_keepRun 43 = .ok (.iload 4, 2) := by decide +kernel
theorem dX7_keepRun_45 : decode cX7_keepRun 45 = .ok (.iadd, 1) := by decide +kernel
theorem dX7_keepRun_46 : decode cX7_keepRun 46 = .ok (.aload_n 2, 1) := by decide +kernel
theorem dX7_keepRun_47 : decode cX7_keepRun 47 = .ok (.getfield 35, 3) := by decide +kernel
theorem dX7_keepRun_50 : decode cX7_keepRun 50 = .ok (.iload_n 3, 1) := by decide +kernel
theorem dX7_keepRun_51 : decode cX7_keepRun 51 = .ok (.bipush 12, 2) := by decide +kernel
theorem dX7_keepRun_53 : decode cX7_keepRun 53 = .ok (.imul, 1) := by decide +kernel
theorem dX7_keepRun_54 : decode cX7_keepRun 54 = .ok (.iload 5, 2) := by decide +kernel
theorem dX7_keepRun_56 : decode cX7_keepRun 56 = .ok (.iconst 0, 1) := by decide +kernel
theorem dX7_keepRun_57 : decode cX7_keepRun 57 = .ok (.iload 6, 2) := by decide +kernel
theorem dX7_keepRun_59 : decode cX7_keepRun 59 = .ok (.invokestatic 40, 3) := by decide +kernel
theorem dX7_keepRun_62 : decode cX7_keepRun 62 = .ok (.iadd, 1) := by decide +kernel
theorem dX7_keepRun_63 : decode cX7_keepRun 63 = .ok (.laload, 1) := by decide +kernel
theorem dX7_keepRun_64 : decode cX7_keepRun 64 = .ok (.aload_n 2, 1) := by decide +kernel
theorem dX7_keepRun_65 : decode cX7_keepRun 65 = .ok (.getfield 35, 3) := by decide +kernel
theorem dX7_keepRun_68 : decode cX7_keepRun 68 = .ok (.iload_n 3, 1) := by decide +kernel
theorem dX7_keepRun_69 : decode cX7_keepRun 69 = .ok (.bipush 12, 2) := by decide +kernel
theorem dX7_keepRun_71 : decode cX7_keepRun 71 = .ok (.imul, 1) := by decide +kernel
theorem dX7_keepRun_72 : decode cX7_keepRun 72 = .ok (.iload 5, 2) := by decide +kernel
theorem dX7_keepRun_74 : decode cX7_keepRun 74 = .ok (.iconst 1, 1) := by decide +kernel
theorem dX7_keepRun_75 : decode cX7_keepRun 75 = .ok (.iload 6, 2) := by decide +kernel
theorem dX7_keepRun_77 : decode cX7_keepRun 77 = .ok (.invokestatic 40, 3) := by decide +kernel
theorem dX7_keepRun_80 : decode cX7_keepRun 80 = .ok (.iadd, 1) := by decide +kernel
theorem dX7_keepRun_81 : decode cX7_keepRun 81 = .ok (.laload, 1) := by decide +kernel
theorem dX7_keepRun_82 : decode cX7_keepRun 82 = .ok (.ladd, 1) := by decide +kernel
theorem dX7_keepRun_83 : decode cX7_keepRun 83 = .ok (.lastore, 1) := by decide +kernel
theorem dX7_keepRun_84 : decode cX7_keepRun 84 = .ok (.iinc 4 1, 3) := by decide +kernel
theorem dX7_keepRun_87 : decode cX7_keepRun 87 = .ok (.goto (-76), 3) := by decide +kernel
theorem dX7_keepRun_90 : decode cX7_keepRun 90 = .ok (.iinc 3 1, 3) := by decide +kernel
theorem dX7_keepRun_93 : decode cX7_keepRun 93 = .ok (.goto (-91), 3) := by decide +kernel
theorem dX7_keepRun_96 : decode cX7_keepRun 96 = .ok (.aload_n 0, 1) := by decide +kernel
theorem dX7_keepRun_97 : decode cX7_keepRun 97 = .ok (.dup, 1) := by decide +kernel
theorem dX7_keepRun_98 : decode cX7_keepRun 98 = .ok (.getfield 32, 3) := by decide +kernel
theorem dX7_keepRun_101 : decode cX7_keepRun 101 = .ok (.iconst 1, 1) := by decide +kernel
theorem dX7_keepRun_102 : decode cX7_keepRun 102 = .ok (.iload_n 1, 1) := by decide +kernel
theorem dX7_keepRun_103 : decode cX7_keepRun 103 = .ok (.ishl, 1) := by decide +kernel
theorem dX7_keepRun_104 : decode cX7_keepRun 104 = .ok (.ior, 1) := by decide +kernel
theorem dX7_keepRun_105 : decode cX7_keepRun 105 = .ok (.putfield 32, 3) := by decide +kernel
theorem dX7_keepRun_108 : decode cX7_keepRun 108 = .ok (.return_, 1) := by decide +kernel
theorem dX7_brought_0 : decode cX7_brought 0 = .ok (.aload_n 0, 1) := by decide +kernel
theorem dX7_brought_1 : decode cX7_brought 1 = .ok (.getfield 24, 3) := by decide +kernel
theorem dX7_brought_4 : decode cX7_brought 4 = .ok (.iload_n 1, 1) := by decide +kernel
theorem dX7_brought_5 : decode cX7_brought 5 = .ok (.bipush 61, 2) := by decide +kernel
theorem dX7_brought_7 : decode cX7_brought 7 = .ok (.imul, 1) := by decide +kernel
theorem dX7_brought_8 : decode cX7_brought 8 = .ok (.iload_n 2, 1) := by decide +kernel
theorem dX7_brought_9 : decode cX7_brought 9 = .ok (.iadd, 1) := by decide +kernel
theorem dX7_brought_10 : decode cX7_brought 10 = .ok (.bipush 6, 2) := by decide +kernel
theorem dX7_brought_12 : decode cX7_brought 12 = .ok (.imul, 1) := by decide +kernel
theorem dX7_brought_13 : decode cX7_brought 13 = .ok (.iload_n 3, 1) := by decide +kernel
theorem dX7_brought_14 : decode cX7_brought 14 = .ok (.bipush 16, 2) := by decide +kernel
theorem dX7_brought_16 : decode cX7_brought 16 = .ok (.idiv, 1) := by decide +kernel
theorem dX7_brought_17 : decode cX7_brought 17 = .ok (.iadd, 1) := by decide +kernel
theorem dX7_brought_18 : decode cX7_brought 18 = .ok (.laload, 1) := by decide +kernel
theorem dX7_brought_19 : decode cX7_brought 19 = .ok (.lstore 4, 2) := by decide +kernel
theorem dX7_brought_21 : decode cX7_brought 21 = .ok (.lload 4, 2) := by decide +kernel
theorem dX7_brought_23 : decode cX7_brought 23 = .ok (.iconst 4, 1) := by decide +kernel
theorem dX7_brought_24 : decode cX7_brought 24 = .ok (.iload_n 3, 1) := by decide +kernel
theorem dX7_brought_25 : decode cX7_brought 25 = .ok (.bipush 16, 2) := by decide +kernel
theorem dX7_brought_27 : decode cX7_brought 27 = .ok (.irem, 1) := by decide +kernel
theorem dX7_brought_28 : decode cX7_brought 28 = .ok (.imul, 1) := by decide +kernel
theorem dX7_brought_29 : decode cX7_brought 29 = .ok (.lushr, 1) := by decide +kernel
theorem dX7_brought_30 : decode cX7_brought 30 = .ok (.l2i, 1) := by decide +kernel
theorem dX7_brought_31 : decode cX7_brought 31 = .ok (.bipush 15, 2) := by decide +kernel
theorem dX7_brought_33 : decode cX7_brought 33 = .ok (.iand, 1) := by decide +kernel
theorem dX7_brought_34 : decode cX7_brought 34 = .ok (.ireturn, 1) := by decide +kernel
theorem dX7_agreeing_0 : decode cX7_agreeing 0 = .ok (.iconst 0, 1) := by decide +kernel
theorem dX7_agreeing_1 : decode cX7_agreeing 1 = .ok (.istore 4, 2) := by decide +kernel
theorem dX7_agreeing_3 : decode cX7_agreeing 3 = .ok (.iload_n 1, 1) := by decide +kernel
theorem dX7_agreeing_4 : decode cX7_agreeing 4 = .ok (.istore 5, 2) := by decide +kernel
theorem dX7_agreeing_6 : decode cX7_agreeing 6 = .ok (.iload 5, 2) := by decide +kernel
theorem dX7_agreeing_8 : decode cX7_agreeing 8 = .ok (.iload_n 2, 1) := by decide +kernel
theorem dX7_agreeing_9 : decode cX7_agreeing 9 = .ok (.if_icmp .gt 101, 3) := by decide +kernel
theorem dX7_agreeing_12 : decode cX7_agreeing 12 = .ok (.iconst 1, 1) := by decide +kernel
theorem dX7_agreeing_13 : decode cX7_agreeing 13 = .ok (.istore 6, 2) := by decide +kernel
theorem dX7_agreeing_15 : decode cX7_agreeing 15 = .ok (.iconst 0, 1) := by decide +kernel
theorem dX7_agreeing_16 : decode cX7_agreeing 16 = .ok (.istore 7, 2) := by decide +kernel
theorem dX7_agreeing_18 : decode cX7_agreeing 18 = .ok (.iload 7, 2) := by decide +kernel
theorem dX7_agreeing_20 : decode cX7_agreeing 20 = .ok (.aload_n 0, 1) := by decide +kernel
theorem dX7_agreeing_21 : decode cX7_agreeing 21 = .ok (.getfield 28, 3) := by decide +kernel
theorem dX7_agreeing_24 : decode cX7_agreeing 24 = .ok (.if_icmp .ge 62, 3) := by decide +kernel
theorem dX7_agreeing_27 : decode cX7_agreeing 27 = .ok (.iload 6, 2) := by decide +kernel
theorem dX7_agreeing_29 : decode cX7_agreeing 29 = .ok (.ifCond .eq 57, 3) := by decide +kernel
theorem dX7_agreeing_32 : decode cX7_agreeing 32 = .ok (.aload_n 0, 1) := by decide +kernel
theorem dX7_agreeing_33 : decode cX7_agreeing 33 = .ok (.getfield 21, 3) := by decide +kernel
theorem dX7_agreeing_36 : decode cX7_agreeing 36 = .ok (.iload 7, 2) := by decide +kernel
theorem dX7_agreeing_38 : decode cX7_agreeing 38 = .ok (.iaload, 1) := by decide +kernel
theorem dX7_agreeing_39 : decode cX7_agreeing 39 = .ok (.iload_n 3, 1) := by decide +kernel
theorem dX7_agreeing_40 : decode cX7_agreeing 40 = .ok (.if_icmp .gt 33, 3) := by decide +kernel
theorem dX7_agreeing_43 : decode cX7_agreeing 43 = .ok (.aload_n 0, 1) := by decide +kernel
theorem dX7_agreeing_44 : decode cX7_agreeing 44 = .ok (.iload 5, 2) := by decide +kernel
theorem dX7_agreeing_46 : decode cX7_agreeing 46 = .ok (.aload_n 0, 1) := by decide +kernel
theorem dX7_agreeing_47 : decode cX7_agreeing 47 = .ok (.getfield 9, 3) := by decide +kernel
theorem dX7_agreeing_50 : decode cX7_agreeing 50 = .ok (.iload 7, 2) := by decide +kernel
theorem dX7_agreeing_52 : decode cX7_agreeing 52 = .ok (.iaload, 1) := by decide +kernel
theorem dX7_agreeing_53 : decode cX7_agreeing 53 = .ok (.aload_n 0, 1) := by decide +kernel
theorem dX7_agreeing_54 : decode cX7_agreeing 54 = .ok (.getfield 15, 3) := by decide +kernel
theorem dX7_agreeing_57 : decode cX7_agreeing 57 = .ok (.iload 7, 2) := by decide +kernel
theorem dX7_agreeing_59 : decode cX7_agreeing 59 = .ok (.iaload, 1) := by decide +kernel
theorem dX7_agreeing_60 : decode cX7_agreeing 60 = .ok (.invokevirtual 46, 3) := by decide +kernel
theorem dX7_agreeing_63 : decode cX7_agreeing 63 = .ok (.aload_n 0, 1) := by decide +kernel
theorem dX7_agreeing_64 : decode cX7_agreeing 64 = .ok (.getfield 18, 3) := by decide +kernel
theorem dX7_agreeing_67 : decode cX7_agreeing 67 = .ok (.iload 7, 2) := by decide +kernel
theorem dX7_agreeing_69 : decode cX7_agreeing 69 = .ok (.iaload, 1) := by decide +kernel
theorem dX7_agreeing_70 : decode cX7_agreeing 70 = .ok (.if_icmp .ne 7, 3) := by decide +kernel
theorem dX7_agreeing_73 : decode cX7_agreeing 73 = .ok (.iconst 1, 1) := by decide +kernel
theorem dX7_agreeing_74 : decode cX7_agreeing 74 = .ok (.goto 4, 3) := by decide +kernel
theorem dX7_agreeing_77 : decode cX7_agreeing 77 = .ok (.iconst 0, 1) := by decide +kernel
theorem dX7_agreeing_78 : decode cX7_agreeing 78 = .ok (.istore 6, 2) := by decide +kernel
theorem dX7_agreeing_80 : decode cX7_agreeing 80 = .ok (.iinc 7 1, 3) := by decide +kernel
theorem dX7_agreeing_83 : decode cX7_agreeing 83 = .ok (.goto (-65), 3) := by decide +kernel
theorem dX7_agreeing_86 : decode cX7_agreeing 86 = .ok (.iload 4, 2) := by decide +kernel
theorem dX7_agreeing_88 : decode cX7_agreeing 88 = .ok (.iload 6, 2) := by decide +kernel
theorem dX7_agreeing_90 : decode cX7_agreeing 90 = .ok (.ifCond .eq 10, 3) := by decide +kernel
theorem dX7_agreeing_93 : decode cX7_agreeing 93 = .ok (.iconst 1, 1) := by decide +kernel
theorem dX7_agreeing_94 : decode cX7_agreeing 94 = .ok (.iload 5, 2) := by decide +kernel
theorem dX7_agreeing_96 : decode cX7_agreeing 96 = .ok (.ishl, 1) := by decide +kernel
theorem dX7_agreeing_97 : decode cX7_agreeing 97 = .ok (.goto 4, 3) := by decide +kernel
theorem dX7_agreeing_100 : decode cX7_agreeing 100 = .ok (.iconst 0, 1) := by decide +kernel
theorem dX7_agreeing_101 : decode cX7_agreeing 101 = .ok (.ior, 1) := by decide +kernel
theorem dX7_agreeing_102 : decode cX7_agreeing 102 = .ok (.istore 4, 2) := by decide +kernel
theorem dX7_agreeing_104 : decode cX7_agreeing 104 = .ok (.iinc 5 1, 3) := by decide +kernel
theorem dX7_agreeing_107 : decode cX7_agreeing 107 = .ok (.goto (-101), 3) := by decide +kernel
theorem dX7_agreeing_110 : decode cX7_agreeing 110 = .ok (.iload 4, 2) := by decide +kernel
theorem dX7_agreeing_112 : decode cX7_agreeing 112 = .ok (.ireturn, 1) := by decide +kernel
theorem dX7_bound_0 : decode cX7_bound 0 = .ok (.iconst (-1), 1) := by decide +kernel
theorem dX7_bound_1 : decode cX7_bound 1 = .ok (.istore 5, 2) := by decide +kernel
theorem dX7_bound_3 : decode cX7_bound 3 = .ok (.iconst 0, 1) := by decide +kernel
theorem dX7_bound_4 : decode cX7_bound 4 = .ok (.istore 6, 2) := by decide +kernel
theorem dX7_bound_6 : decode cX7_bound 6 = .ok (.iload 6, 2) := by decide +kernel
theorem dX7_bound_8 : decode cX7_bound 8 = .ok (.bipush 6, 2) := by decide +kernel
theorem dX7_bound_10 : decode cX7_bound 10 = .ok (.if_icmp .ge 61, 3) := by decide +kernel
theorem dX7_bound_13 : decode cX7_bound 13 = .ok (.iload_n 1, 1) := by decide +kernel
theorem dX7_bound_14 : decode cX7_bound 14 = .ok (.iload 6, 2) := by decide +kernel
theorem dX7_bound_16 : decode cX7_bound 16 = .ok (.ishr, 1) := by decide +kernel
theorem dX7_bound_17 : decode cX7_bound 17 = .ok (.iconst 1, 1) := by decide +kernel
theorem dX7_bound_18 : decode cX7_bound 18 = .ok (.iand, 1) := by decide +kernel
theorem dX7_bound_19 : decode cX7_bound 19 = .ok (.iconst 1, 1) := by decide +kernel
theorem dX7_bound_20 : decode cX7_bound 20 = .ok (.if_icmp .ne 45, 3) := by decide +kernel
theorem dX7_bound_23 : decode cX7_bound 23 = .ok (.aload_n 0, 1) := by decide +kernel
theorem dX7_bound_24 : decode cX7_bound 24 = .ok (.iload 6, 2) := by decide +kernel
theorem dX7_bound_26 : decode cX7_bound 26 = .ok (.iload_n 2, 1) := by decide +kernel
theorem dX7_bound_27 : decode cX7_bound 27 = .ok (.iload_n 3, 1) := by decide +kernel
theorem dX7_bound_28 : decode cX7_bound 28 = .ok (.invokevirtual 46, 3) := by decide +kernel
theorem dX7_bound_31 : decode cX7_bound 31 = .ok (.istore 7, 2) := by decide +kernel
theorem dX7_bound_33 : decode cX7_bound 33 = .ok (.iload 5, 2) := by decide +kernel
theorem dX7_bound_35 : decode cX7_bound 35 = .ok (.iconst (-1), 1) := by decide +kernel
theorem dX7_bound_36 : decode cX7_bound 36 = .ok (.if_icmp .eq 25, 3) := by decide +kernel
theorem dX7_bound_39 : decode cX7_bound 39 = .ok (.iload 4, 2) := by decide +kernel
theorem dX7_bound_41 : decode cX7_bound 41 = .ok (.ifCond .eq 13, 3) := by decide +kernel
theorem dX7_bound_44 : decode cX7_bound 44 = .ok (.iload 7, 2) := by decide +kernel
theorem dX7_bound_46 : decode cX7_bound 46 = .ok (.iload 5, 2) := by decide +kernel
theorem dX7_bound_48 : decode cX7_bound 48 = .ok (.if_icmp .le 17, 3) := by decide +kernel
theorem dX7_bound_51 : decode cX7_bound 51 = .ok (.goto 10, 3) := by decide +kernel
theorem dX7_bound_54 : decode cX7_bound 54 = .ok (.iload 7, 2) := by decide +kernel
theorem dX7_bound_56 : decode cX7_bound 56 = .ok (.iload 5, 2) := by decide +kernel
theorem dX7_bound_58 : decode cX7_bound 58 = .ok (.if_icmp .ge 7, 3) := by decide +kernel
theorem dX7_bound_61 : decode cX7_bound 61 = .ok (.iload 7, 2) := by decide +kernel
theorem dX7_bound_63 : decode cX7_bound 63 = .ok (.istore 5, 2) := by decide +kernel
theorem dX7_bound_65 : decode cX7_bound 65 = .ok (.iinc 6 1, 3) := by decide +kernel
theorem dX7_bound_68 : decode cX7_bound 68 = .ok (.goto (-62), 3) := by decide +kernel
theorem dX7_bound_71 : decode cX7_bound 71 = .ok (.iload 5, 2) := by decide +kernel
theorem dX7_bound_73 : decode cX7_bound 73 = .ok (.ireturn, 1) := by decide +kernel
theorem dX7_width_0 : decode cX7_width 0 = .ok (.aload_n 0, 1) := by decide +kernel
theorem dX7_width_1 : decode cX7_width 1 = .ok (.iload_n 1, 1) := by decide +kernel
theorem dX7_width_2 : decode cX7_width 2 = .ok (.iload_n 2, 1) := by decide +kernel
theorem dX7_width_3 : decode cX7_width 3 = .ok (.iload_n 3, 1) := by decide +kernel
theorem dX7_width_4 : decode cX7_width 4 = .ok (.iconst 1, 1) := by decide +kernel
theorem dX7_width_5 : decode cX7_width 5 = .ok (.invokevirtual 49, 3) := by decide +kernel
theorem dX7_width_8 : decode cX7_width 8 = .ok (.aload_n 0, 1) := by decide +kernel
theorem dX7_width_9 : decode cX7_width 9 = .ok (.iload_n 1, 1) := by decide +kernel
theorem dX7_width_10 : decode cX7_width 10 = .ok (.iload_n 2, 1) := by decide +kernel
theorem dX7_width_11 : decode cX7_width 11 = .ok (.iload_n 3, 1) := by decide +kernel
theorem dX7_width_12 : decode cX7_width 12 = .ok (.iconst 0, 1) := by decide +kernel
theorem dX7_width_13 : decode cX7_width 13 = .ok (.invokevirtual 49, 3) := by decide +kernel
theorem dX7_width_16 : decode cX7_width 16 = .ok (.isub, 1) := by decide +kernel
theorem dX7_width_17 : decode cX7_width 17 = .ok (.ireturn, 1) := by decide +kernel
theorem dX7_widestSpot_0 : decode cX7_widestSpot 0 = .ok (.iconst (-1), 1) := by decide +kernel
theorem dX7_widestSpot_1 : decode cX7_widestSpot 1 = .ok (.istore_n 3, 1) := by decide +kernel
theorem dX7_widestSpot_2 : decode cX7_widestSpot 2 = .ok (.iconst 0, 1) := by decide +kernel
theorem dX7_widestSpot_3 : decode cX7_widestSpot 3 = .ok (.istore 4, 2) := by decide +kernel
theorem dX7_widestSpot_5 : decode cX7_widestSpot 5 = .ok (.iconst 0, 1) := by decide +kernel
theorem dX7_widestSpot_6 : decode cX7_widestSpot 6 = .ok (.istore 5, 2) := by decide +kernel
theorem dX7_widestSpot_8 : decode cX7_widestSpot 8 = .ok (.iload 5, 2) := by decide +kernel
theorem dX7_widestSpot_10 : decode cX7_widestSpot 10 = .ok (.bipush 96, 2) := by decide +kernel
theorem dX7_widestSpot_12 : decode cX7_widestSpot 12 = .ok (.if_icmp .ge 33, 3) := by decide +kernel
theorem dX7_widestSpot_15 : decode cX7_widestSpot 15 = .ok (.aload_n 0, 1) := by decide +kernel
theorem dX7_widestSpot_16 : decode cX7_widestSpot 16 = .ok (.iload_n 1, 1) := by decide +kernel
theorem dX7_widestSpot_17 : decode cX7_widestSpot 17 = .ok (.iload_n 2, 1) := by decide +kernel
theorem dX7_widestSpot_18 : decode cX7_widestSpot 18 = .ok (.iload 5, 2) := by decide +kernel
theorem dX7_widestSpot_20 : decode cX7_widestSpot 20 = .ok (.invokevirtual 53, 3) := by decide +kernel
theorem dX7_widestSpot_23 : decode cX7_widestSpot 23 = .ok (.istore 6, 2) := by decide +kernel
theorem dX7_widestSpot_25 : decode cX7_widestSpot 25 = .ok (.iload 6, 2) := by decide +kernel
theorem dX7_widestSpot_27 : decode cX7_widestSpot 27 = .ok (.iload 4, 2) := by decide +kernel
theorem dX7_widestSpot_29 : decode cX7_widestSpot 29 = .ok (.if_icmp .le 10, 3) := by decide +kernel
theorem dX7_widestSpot_32 : decode cX7_widestSpot 32 = .ok (.iload 5, 2) := by decide +kernel
theorem dX7_widestSpot_34 : decode cX7_widestSpot 34 = .ok (.istore_n 3, 1) := by decide +kernel
theorem dX7_widestSpot_35 : decode cX7_widestSpot 35 = .ok (.iload 6, 2) := by decide +kernel
theorem dX7_widestSpot_37 : decode cX7_widestSpot 37 = .ok (.istore 4, 2) := by decide +kernel
theorem dX7_widestSpot_39 : decode cX7_widestSpot 39 = .ok (.iinc 5 1, 3) := by decide +kernel
theorem dX7_widestSpot_42 : decode cX7_widestSpot 42 = .ok (.goto (-34), 3) := by decide +kernel
theorem dX7_widestSpot_45 : decode cX7_widestSpot 45 = .ok (.iload_n 3, 1) := by decide +kernel
theorem dX7_widestSpot_46 : decode cX7_widestSpot 46 = .ok (.ireturn, 1) := by decide +kernel
theorem dX8_init_0 : decode cX8_init 0 = .ok (.aload_n 0, 1) := by decide +kernel
theorem dX8_init_1 : decode cX8_init 1 = .ok (.invokespecial 3, 3) := by decide +kernel
theorem dX8_init_4 : decode cX8_init 4 = .ok (.aload_n 0, 1) := by decide +kernel
theorem dX8_init_5 : decode cX8_init 5 = .ok (.sipush 300, 3) := by decide +kernel
theorem dX8_init_8 : decode cX8_init 8 = .ok (.newarray .int, 2) := by decide +kernel
theorem dX8_init_10 : decode cX8_init 10 = .ok (.putfield 11, 3) := by decide +kernel
theorem dX8_init_13 : decode cX8_init 13 = .ok (.aload_n 0, 1) := by decide +kernel
theorem dX8_init_14 : decode cX8_init 14 = .ok (.iconst (-1), 1) := by decide +kernel
theorem dX8_init_15 : decode cX8_init 15 = .ok (.putfield 15, 3) := by decide +kernel
theorem dX8_init_18 : decode cX8_init 18 = .ok (.aload_n 0, 1) := by decide +kernel
theorem dX8_init_19 : decode cX8_init 19 = .ok (.iconst (-1), 1) := by decide +kernel
theorem dX8_init_20 : decode cX8_init 20 = .ok (.putfield 19, 3) := by decide +kernel
theorem dX8_init_23 : decode cX8_init 23 = .ok (.aload_n 0, 1) := by decide +kernel
theorem dX8_init_24 : decode cX8_init 24 = .ok (.sipush 301, 3) := by decide +kernel
theorem dX8_init_27 : decode cX8_init 27 = .ok (.newarray .int, 2) := by decide +kernel
theorem dX8_init_29 : decode cX8_init 29 = .ok (.putfield 22, 3) := by decide +kernel
theorem dX8_init_32 : decode cX8_init 32 = .ok (.aload_n 0, 1) := by decide +kernel
theorem dX8_init_33 : decode cX8_init 33 = .ok (.sipush 301, 3) := by decide +kernel
theorem dX8_init_36 : decode cX8_init 36 = .ok (.newarray .int, 2) := by decide +kernel
theorem dX8_init_38 : decode cX8_init 38 = .ok (.putfield 25, 3) := by decide +kernel
theorem dX8_init_41 : decode cX8_init 41 = .ok (.aload_n 0, 1) := by decide +kernel
theorem dX8_init_42 : decode cX8_init 42 = .ok (.sipush 301, 3) := by decide +kernel
theorem dX8_init_45 : decode cX8_init 45 = .ok (.newarray .int, 2) := by decide +kernel
theorem dX8_init_47 : decode cX8_init 47 = .ok (.putfield 28, 3) := by decide +kernel
theorem dX8_init_50 : decode cX8_init 50 = .ok (.aload_n 0, 1) := by decide +kernel
theorem dX8_init_51 : decode cX8_init 51 = .ok (.aload_n 1, 1) := by decide +kernel
theorem dX8_init_52 : decode cX8_init 52 = .ok (.putfield 31, 3) := by decide +kernel
theorem dX8_init_55 : decode cX8_init 55 = .ok (.return_, 1) := by decide +kernel
theorem dX8_hasRoom_0 : decode cX8_hasRoom 0 = .ok (.aload_n 0, 1) := by decide +kernel
theorem dX8_hasRoom_1 : decode cX8_hasRoom 1 = .ok (.getfield 35, 3) := by decide +kernel
theorem dX8_hasRoom_4 : decode cX8_hasRoom 4 = .ok (.bipush 20, 2) := by decide +kernel
theorem dX8_hasRoom_6 : decode cX8_hasRoom 6 = .ok (.iadd, 1) := by decide +kernel
theorem dX8_hasRoom_7 : decode cX8_hasRoom 7 = .ok (.sipush 300, 3) := by decide +kernel
theorem dX8_hasRoom_10 : decode cX8_hasRoom 10 = .ok (.if_icmp .gt 7, 3) := by decide +kernel
theorem dX8_hasRoom_13 : decode cX8_hasRoom 13 = .ok (.iconst 1, 1) := by decide +kernel
theorem dX8_hasRoom_14 : decode cX8_hasRoom 14 = .ok (.goto 4, 3) := by decide +kernel
theorem dX8_hasRoom_17 : decode cX8_hasRoom 17 = .ok (.iconst 0, 1) := by decide +kernel
theorem dX8_hasRoom_18 : decode cX8_hasRoom 18 = .ok (.ireturn, 1) := by decide +kernel
theorem dX8_put_0 : decode cX8_put 0 = .ok (.bipush 24, 2) := by decide +kernel
theorem dX8_put_2 : decode cX8_put 2 = .ok (.istore_n 2, 1) := by decide +kernel
theorem dX8_put_3 : decode cX8_put 3 = .ok (.iload_n 2, 1) := by decide +kernel
theorem dX8_put_4 : decode cX8_put 4 = .ok (.ifCond .lt 45, 3) := by decide +kernel
theorem dX8_put_7 : decode cX8_put 7 = .ok (.aload_n 0, 1) := by decide +kernel
theorem dX8_put_8 : decode cX8_put 8 = .ok (.getfield 35, 3) := by decide +kernel
theorem dX8_put_11 : decode cX8_put 11 = .ok (.sipush 300, 3) := by decide +kernel
theorem dX8_put_14 : decode cX8_put 14 = .ok (.if_icmp .ge 35, 3) := by decide +kernel
theorem dX8_put_17 : decode cX8_put 17 = .ok (.aload_n 0, 1) := by decide +kernel
theorem dX8_put_18 : decode cX8_put 18 = .ok (.getfield 11, 3) := by decide +kernel
theorem dX8_put_21 : decode cX8_put 21 = .ok (.aload_n 0, 1) := by decide +kernel
theorem dX8_put_22 : decode cX8_put 22 = .ok (.getfield 35, 3) := by decide +kernel
theorem dX8_put_25 : decode cX8_put 25 = .ok (.iload_n 1, 1) := by decide +kernel
theorem dX8_put_26 : decode cX8_put 26 = .ok (.iload_n 2, 1) := by decide +kernel
theorem dX8_put_27 : decode cX8_put 27 = .ok (.iushr, 1) := by decide +kernel
theorem dX8_put_28 : decode cX8_put 28 = .ok (.sipush 255, 3) := by decide +kernel
theorem dX8_put_31 : decode cX8_put 31 = .ok (.iand, 1) := by decide +kernel
theorem dX8_put_32 : decode cX8_put 32 = .ok (.iastore, 1) := by decide +kernel
theorem dX8_put_33 : decode cX8_put 33 = .ok (.aload_n 0, 1) := by decide +kernel
theorem dX8_put_34 : decode cX8_put 34 = .ok (.dup, 1) := by decide +kernel
theorem dX8_put_35 : decode cX8_put 35 = .ok (.getfield 35, 3) := by decide +kernel
theorem dX8_put_38 : decode cX8_put 38 = .ok (.iconst 1, 1) := by decide +kernel
theorem dX8_put_39 : decode cX8_put 39 = .ok (.iadd, 1) := by decide +kernel
theorem dX8_put_40 : decode cX8_put 40 = .ok (.putfield 35, 3) := by decide +kernel
theorem dX8_put_43 : decode cX8_put 43 = .ok (.iinc 2 (-8), 3) := by decide +kernel
theorem dX8_put_46 : decode cX8_put 46 = .ok (.goto (-43), 3) := by decide +kernel
theorem dX8_put_49 : decode cX8_put 49 = .ok (.return_, 1) := by decide +kernel
theorem dX8_read_0 : decode cX8_read 0 = .ok (.aload_n 0, 1) := by decide +kernel
theorem dX8_read_1 : decode cX8_read 1 = .ok (.aload_n 1, 1) := by decide +kernel
theorem dX8_read_2 : decode cX8_read 2 = .ok (.putfield 31, 3) := by decide +kernel
theorem dX8_read_5 : decode cX8_read 5 = .ok (.aload_n 0, 1) := by decide +kernel
theorem dX8_read_6 : decode cX8_read 6 = .ok (.getfield 31, 3) := by decide +kernel
theorem dX8_read_9 : decode cX8_read 9 = .ok (.invokevirtual 38, 3) := by decide +kernel
theorem dX8_read_12 : decode cX8_read 12 = .ok (.aload_n 0, 1) := by decide +kernel
theorem dX8_read_13 : decode cX8_read 13 = .ok (.iconst 0, 1) := by decide +kernel
theorem dX8_read_14 : decode cX8_read 14 = .ok (.putfield 15, 3) := by decide +kernel
theorem dX8_read_17 : decode cX8_read 17 = .ok (.aload_n 0, 1) := by decide +kernel
theorem dX8_read_18 : decode cX8_read 18 = .ok (.iconst (-1), 1) := by decide +kernel
theorem dX8_read_19 : decode cX8_read 19 = .ok (.putfield 19, 3) := by decide +kernel
theorem dX8_read_22 : decode cX8_read 22 = .ok (.aload_n 0, 1) := by decide +kernel
theorem dX8_read_23 : decode cX8_read 23 = .ok (.iconst 0, 1) := by decide +kernel
theorem dX8_read_24 : decode cX8_read 24 = .ok (.putfield 43, 3) := by decide +kernel
theorem dX8_read_27 : decode cX8_read 27 = .ok (.aload_n 0, 1) := by decide +kernel
theorem dX8_read_28 : decode cX8_read 28 = .ok (.invokevirtual 46, 3) := by decide +kernel
theorem dX8_read_31 : decode cX8_read 31 = .ok (.aload_n 0, 1) := by decide +kernel
theorem dX8_read_32 : decode cX8_read 32 = .ok (.iconst 0, 1) := by decide +kernel
theorem dX8_read_33 : decode cX8_read 33 = .ok (.putfield 49, 3) := by decide +kernel
theorem dX8_read_36 : decode cX8_read 36 = .ok (.aload_n 0, 1) := by decide +kernel
theorem dX8_read_37 : decode cX8_read 37 = .ok (.aload_n 0, 1) := by decide +kernel
theorem dX8_read_38 : decode cX8_read 38 = .ok (.getfield 22, 3) := by decide +kernel
theorem dX8_read_41 : decode cX8_read 41 = .ok (.iconst 0, 1) := by decide +kernel
theorem dX8_read_42 : decode cX8_read 42 = .ok (.iaload, 1) := by decide +kernel
theorem dX8_read_43 : decode cX8_read 43 = .ok (.putfield 52, 3) := by decide +kernel
theorem dX8_read_46 : decode cX8_read 46 = .ok (.iconst 0, 1) := by decide +kernel
theorem dX8_read_47 : decode cX8_read 47 = .ok (.istore_n 2, 1) := by decide +kernel
theorem dX8_read_48 : decode cX8_read 48 = .ok (.iload_n 2, 1) := by decide +kernel
theorem dX8_read_49 : decode cX8_read 49 = .ok (.bipush 12, 2) := by decide +kernel
theorem dX8_read_51 : decode cX8_read 51 = .ok (.if_icmp .gt 32, 3) := by decide +kernel
theorem dX8_read_54 : decode cX8_read 54 = .ok (.aload_n 0, 1) := by decide +kernel
theorem dX8_read_55 : decode cX8_read 55 = .ok (.getfield 52, 3) := by decide +kernel
theorem dX8_read_58 : decode cX8_read 58 = .ok (.bipush 37, 2) := by decide +kernel
theorem dX8_read_60 : decode cX8_read 60 = .ok (.if_icmp .eq 23, 3) := by decide +kernel
theorem dX8_read_63 : decode cX8_read 63 = .ok (.aload_n 0, 1) := by decide +kernel
theorem dX8_read_64 : decode cX8_read 64 = .ok (.getfield 52, 3) := by decide +kernel
theorem dX8_read_67 : decode cX8_read 67 = .ok (.bipush 39, 2) := by decide +kernel
theorem dX8_read_69 : decode cX8_read 69 = .ok (.if_icmp .eq 14, 3) := by decide +kernel
theorem dX8_read_72 : decode cX8_read 72 = .ok (.aload_n 0, 1) := by decide +kernel
theorem dX8_read_73 : decode cX8_read 73 = .ok (.iload_n 2, 1) := by decide +kernel
theorem dX8_read_74 : decode cX8_read 74 = .ok (.invokevirtual 55, 3) := by decide +kernel
theorem dX8_read_77 : decode cX8_read 77 = .ok (.iinc 2 1, 3) := by decide +kernel
theorem dX8_read_80 : decode cX8_read 80 = .ok (.goto (-32), 3) := by decide +kernel
theorem dX8_read_83 : decode cX8_read 83 = .ok (.aload_n 0, 1) := by decide +kernel
theorem dX8_read_84 : decode cX8_read 84 = .ok (.iconst 0, 1) := by decide +kernel
theorem dX8_read_85 : decode cX8_read 85 = .ok (.putfield 35, 3) := by decide +kernel
theorem dX8_read_88 : decode cX8_read 88 = .ok (.aload_n 0, 1) := by decide +kernel
theorem dX8_read_89 : decode cX8_read 89 = .ok (.getfield 15, 3) := by decide +kernel
theorem dX8_read_92 : decode cX8_read 92 = .ok (.ifCond .ne 7, 3) := by decide +kernel
theorem dX8_read_95 : decode cX8_read 95 = .ok (.iconst 1, 1) := by decide +kernel
theorem dX8_read_96 : decode cX8_read 96 = .ok (.goto 4, 3) := by decide +kernel
theorem dX8_read_99 : decode cX8_read 99 = .ok (.iconst 0, 1) := by decide +kernel
theorem dX8_read_100 : decode cX8_read 100 = .ok (.ireturn, 1) := by decide +kernel
theorem dX8_cut_0 : decode cX8_cut 0 = .ok (.iconst 0, 1) := by decide +kernel
theorem dX8_cut_1 : decode cX8_cut 1 = .ok (.istore_n 1, 1) := by decide +kernel
theorem dX8_cut_2 : decode cX8_cut 2 = .ok (.iconst 0, 1) := by decide +kernel
theorem dX8_cut_3 : decode cX8_cut 3 = .ok (.istore_n 2, 1) := by decide +kernel
theorem dX8_cut_4 : decode cX8_cut 4 = .ok (.iconst 0, 1) := by decide +kernel
theorem dX8_cut_5 : decode cX8_cut 5 = .ok (.istore_n 3, 1) := by decide +kernel
theorem dX8_cut_6 : decode cX8_cut 6 = .ok (.iload_n 3, 1) := by decide +kernel
theorem dX8_cut_7 : decode cX8_cut 7 = .ok (.sipush 300, 3) := by decide +kernel
theorem dX8_cut_10 : decode cX8_cut 10 = .ok (.if_icmp .ge 62, 3) := by decide +kernel
theorem dX8_cut_13 : decode cX8_cut 13 = .ok (.iload_n 2, 1) := by decide +kernel
theorem dX8_cut_14 : decode cX8_cut 14 = .ok (.aload_n 0, 1) := by decide +kernel
theorem dX8_cut_15 : decode cX8_cut 15 = .ok (.getfield 35, 3) := by decide +kernel
theorem dX8_cut_18 : decode cX8_cut 18 = .ok (.if_icmp .ge 54, 3) := by decide +kernel
theorem dX8_cut_21 : decode cX8_cut 21 = .ok (.aload_n 0, 1) := by decide +kernel
theorem dX8_cut_22 : decode cX8_cut 22 = .ok (.getfield 11, 3) := by decide +kernel
theorem dX8_cut_25 : decode cX8_cut 25 = .ok (.iload_n 2, 1) := by decide +kernel
theorem dX8_cut_26 : decode cX8_cut 26 = .ok (.iaload, 1) := by decide +kernel
theorem dX8_cut_27 : decode cX8_cut 27 = .ok (.bipush 32, 2) := by decide +kernel
theorem dX8_cut_29 : decode cX8_cut 29 = .ok (.if_icmp .eq 14, 3) := by decide +kernel
theorem dX8_cut_32 : decode cX8_cut 32 = .ok (.aload_n 0, 1) := by decide +kernel
theorem dX8_cut_33 : decode cX8_cut 33 = .ok (.getfield 11, 3) := by decide +kernel
theorem dX8_cut_36 : decode cX8_cut 36 = .ok (.iload_n 2, 1) := by decide +kernel
theorem dX8_cut_37 : decode cX8_cut 37 = .ok (.iaload, 1) := by decide +kernel
theorem dX8_cut_38 : decode cX8_cut 38 = .ok (.bipush 10, 2) := by decide +kernel
theorem dX8_cut_40 : decode cX8_cut 40 = .ok (.if_icmp .ne 9, 3) := by decide +kernel
theorem dX8_cut_43 : decode cX8_cut 43 = .ok (.iinc 2 1, 3) := by decide +kernel
theorem dX8_cut_46 : decode cX8_cut 46 = .ok (.goto 20, 3) := by decide +kernel
theorem dX8_cut_49 : decode cX8_cut 49 = .ok (.aload_n 0, 1) := by decide +kernel
theorem dX8_cut_50 : decode cX8_cut 50 = .ok (.getfield 25, 3) := by decide +kernel
theorem dX8_cut_53 : decode cX8_cut 53 = .ok (.iload_n 1, 1) := by decide +kernel
theorem dX8_cut_54 : decode cX8_cut 54 = .ok (.iload_n 2, 1) := by decide +kernel
theorem dX8_cut_55 : decode cX8_cut 55 = .ok (.iastore, 1) := by decide +kernel
theorem dX8_cut_56 : decode cX8_cut 56 = .ok (.aload_n 0, 1) := by decide +kernel
theorem dX8_cut_57 : decode cX8_cut 57 = .ok (.iload_n 1, 1) := by decide +kernel
theorem dX8_cut_58 : decode cX8_cut 58 = .ok (.iload_n 2, 1) := by decide +kernel
theorem dX8_cut_59 : decode cX8_cut 59 = .ok (.invokevirtual 59, 3) := by decide +kernel
theorem dX8_cut_62 : decode cX8_cut 62 = .ok (.istore_n 2, 1) := by decide +kernel
theorem dX8_cut_63 : decode cX8_cut 63 = .ok (.iinc 1 1, 3) := by decide +kernel
theorem dX8_cut_66 : decode cX8_cut 66 = .ok (.iinc 3 1, 3) := by decide +kernel
theorem dX8_cut_69 : decode cX8_cut 69 = .ok (.goto (-63), 3) := by decide +kernel
theorem dX8_cut_72 : decode cX8_cut 72 = .ok (.aload_n 0, 1) := by decide +kernel
theorem dX8_cut_73 : decode cX8_cut 73 = .ok (.getfield 22, 3) := by decide +kernel
theorem dX8_cut_76 : decode cX8_cut 76 = .ok (.iload_n 1, 1) := by decide +kernel
theorem dX8_cut_77 : decode cX8_cut 77 = .ok (.bipush 37, 2) := by decide +kernel
theorem dX8_cut_79 : decode cX8_cut 79 = .ok (.iastore, 1) := by decide +kernel
theorem dX8_cut_80 : decode cX8_cut 80 = .ok (.aload_n 0, 1) := by decide +kernel
theorem dX8_cut_81 : decode cX8_cut 81 = .ok (.getfield 25, 3) := by decide +kernel
theorem dX8_cut_84 : decode cX8_cut 84 = .ok (.iload_n 1, 1) := by decide +kernel
theorem dX8_cut_85 : decode cX8_cut 85 = .ok (.aload_n 0, 1) := by decide +kernel
theorem dX8_cut_86 : decode cX8_cut 86 = .ok (.getfield 35, 3) := by decide +kernel
theorem dX8_cut_89 : decode cX8_cut 89 = .ok (.iastore, 1) := by decide +kernel
theorem dX8_cut_90 : decode cX8_cut 90 = .ok (.return_, 1) := by decide +kernel
theorem dX8_cutOne_0 : decode cX8_cutOne 0 = .ok (.aload_n 0, 1) := by decide +kernel
theorem dX8_cutOne_1 : decode cX8_cutOne 1 = .ok (.getfield 11, 3) := by decide +kernel
theorem dX8_cutOne_4 : decode cX8_cutOne 4 = .ok (.iload_n 2, 1) := by decide +kernel
theorem dX8_cutOne_5 : decode cX8_cutOne 5 = .ok (.iaload, 1) := by decide +kernel
theorem dX8_cutOne_6 : decode cX8_cutOne 6 = .ok (.istore_n 3, 1) := by decide +kernel
theorem dX8_cutOne_7 : decode cX8_cutOne 7 = .ok (.iload_n 2, 1) := by decide +kernel
theorem dX8_cutOne_8 : decode cX8_cutOne 8 = .ok (.iconst 1, 1) := by decide +kernel
theorem dX8_cutOne_9 : decode cX8_cutOne 9 = .ok (.iadd, 1) := by decide +kernel
theorem dX8_cutOne_10 : decode cX8_cutOne 10 = .ok (.istore 4, 2) := by decide +kernel
theorem dX8_cutOne_12 : decode cX8_cutOne 12 = .ok (.iload_n 3, 1) := by decide +kernel
theorem dX8_cutOne_13 : decode cX8_cutOne 13 = .ok (.invokestatic 63, 3) := by decide +kernel
theorem dX8_cutOne_16 : decode cX8_cutOne 16 = .ok (.ifCond .eq 47, 3) := by decide +kernel
theorem dX8_cutOne_19 : decode cX8_cutOne 19 = .ok (.iload 4, 2) := by decide +kernel
theorem dX8_cutOne_21 : decode cX8_cutOne 21 = .ok (.aload_n 0, 1) := by decide +kernel
theorem dX8_cutOne_22 : decode cX8_cutOne 22 = .ok (.getfield 35, 3) := by decide +kernel
theorem dX8_cutOne_25 : decode cX8_cutOne 25 = .ok (.if_icmp .ge 22, 3) := by decide +kernel
theorem dX8_cutOne_28 : decode cX8_cutOne 28 = .ok (.aload_n 0, 1) := by decide +kernel
theorem dX8_cutOne_29 : decode cX8_cutOne 29 = .ok (.getfield 11, 3) := by decide +kernel
theorem dX8_cutOne_32 : decode cX8_cutOne 32 = .ok (.iload 4, 2) := by decide +kernel
theorem dX8_cutOne_34 : decode cX8_cutOne 34 = .ok (.iaload, 1) := by decide +kernel
theorem dX8_cutOne_35 : decode cX8_cutOne 35 = .ok (.invokestatic 63, 3) := by decide +kernel
theorem dX8_cutOne_38 : decode cX8_cutOne 38 = .ok (.ifCond .eq 9, 3) := by decide +kernel
theorem dX8_cutOne_41 : decode cX8_cutOne 41 = .ok (.iinc 4 1, 3) := by decide +kernel
theorem dX8_cutOne_44 : decode cX8_cutOne 44 = .ok (.goto (-25), 3) := by decide +kernel
theorem dX8_cutOne_47 : decode cX8_cutOne 47 = .ok (.aload_n 0, 1) := by decide +kernel
theorem dX8_cutOne_48 : decode cX8_cutOne 48 = .ok (.getfield 22, 3) := by decide +kernel
theorem dX8_cutOne_51 : decode cX8_cutOne 51 = .ok (.iload_n 1, 1) := by decide +kernel
theorem dX8_cutOne_52 : decode cX8_cutOne 52 = .ok (.aload_n 0, 1) := by decide +kernel
theorem dX8_cutOne_53 : decode cX8_cutOne 53 = .ok (.iload_n 2, 1) := by decide +kernel
theorem dX8_cutOne_54 : decode cX8_cutOne 54 = .ok (.iload 4, 2) := by decide +kernel
theorem dX8_cutOne_56 : decode cX8_cutOne 56 = .ok (.invokevirtual 67, 3) := by decide +kernel
theorem dX8_cutOne_59 : decode cX8_cutOne 59 = .ok (.iastore, 1) := by decide +kernel
theorem dX8_cutOne_60 : decode cX8_cutOne 60 = .ok (.goto 205, 3) := by decide +kernel
theorem dX8_cutOne_63 : decode cX8_cutOne 63 = .ok (.iload_n 3, 1) := by decide +kernel
theorem dX8_cutOne_64 : decode cX8_cutOne 64 = .ok (.invokestatic 70, 3) := by decide +kernel
theorem dX8_cutOne_67 : decode cX8_cutOne 67 = .ok (.ifCond .eq 80, 3) := by decide +kernel
theorem dX8_cutOne_70 : decode cX8_cutOne 70 = .ok (.iload_n 3, 1) := by decide +kernel
theorem dX8_cutOne_71 : decode cX8_cutOne 71 = .ok (.bipush 48, 2) := by decide +kernel
theorem dX8_cutOne_73 : decode cX8_cutOne 73 = .ok (.isub, 1) := by decide +kernel
theorem dX8_cutOne_74 : decode cX8_cutOne 74 = .ok (.istore 5, 2) := by decide +kernel
theorem dX8_cutOne_76 : decode cX8_cutOne 76 = .ok (.iload 4, 2) := by decide +kernel
theorem dX8_cutOne_78 : decode cX8_cutOne 78 = .ok (.aload_n 0, 1) := by decide +kernel
theorem dX8_cutOne_79 : decode cX8_cutOne 79 = .ok (.getfield 35, 3) := by decide +kernel
theorem dX8_cutOne_82 : decode cX8_cutOne 82 = .ok (.if_icmp .ge 46, 3) := by decide +kernel
theorem dX8_cutOne_85 : decode cX8_cutOne 85 = .ok (.aload_n 0, 1) := by decide +kernel
theorem dX8_cutOne_86 : decode cX8_cutOne 86 = .ok (.getfield 11, 3) := by decide +kernel
theorem dX8_cutOne_89 : decode cX8_cutOne 89 = .ok (.iload 4, 2) := by decide +kernel
theorem dX8_cutOne_91 : decode cX8_cutOne 91 = .ok (.iaload, 1) := by decide +kernel
theorem dX8_cutOne_92 : decode cX8_cutOne 92 = .ok (.invokestatic 70, 3) := by decide +kernel
theorem dX8_cutOne_95 : decode cX8_cutOne 95 = .ok (.ifCond .eq 33, 3) := by decide +kernel
theorem dX8_cutOne_98 : decode cX8_cutOne 98 = .ok (.iload 5, 2) := by decide +kernel
theorem dX8_cutOne_100 : decode cX8_cutOne 100 = .ok (.bipush 10, 2) := by decide +kernel
theorem dX8_cutOne_102 : decode cX8_cutOne 102 = .ok (.imul, 1) := by decide +kernel
theorem dX8_cutOne_103 : decode cX8_cutOne 103 = .ok (.aload_n 0, 1) := by decide +kernel
theorem dX8_cutOne_104 : decode cX8_cutOne 104 = .ok (.getfield 11, 3) := by decide +kernel
theorem dX8_cutOne_107 : decode cX8_cutOne 107 = .ok (.iload 4, 2) := by decide +kernel
theorem dX8_cutOne_109 : decode cX8_cutOne 109 = .ok (.iaload, 1) := by decide +kernel
theorem dX8_cutOne_110 : decode cX8_cutOne 110 = .ok (.iadd, 1) := by decide +kernel
theorem dX8_cutOne_111 : decode cX8_cutOne 111 = .ok (.bipush 48, 2) := by decide +kernel
theorem dX8_cutOne_113 : decode cX8_cutOne 113 = .ok (.isub, 1) := by decide +kernel
theorem dX8_cutOne_114 : decode cX8_cutOne 114 = .ok (.sipush 10000, 3) := by decide +kernel
theorem dX8_cutOne_117 : decode cX8_cutOne 117 = .ok (.invokestatic 73, 3) := by decide +kernel
theorem dX8_cutOne_120 : decode cX8_cutOne 120 = .ok (.istore 5, 2) := by decide +kernel
theorem dX8_cutOne_122 : decode cX8_cutOne 122 = .ok (.iinc 4 1, 3) := by decide +kernel
theorem dX8_cutOne_125 : decode cX8_cutOne 125 = .ok (.goto (-49), 3) := by decide +kernel
theorem dX8_cutOne_128 : decode cX8_cutOne 128 = .ok (.aload_n 0, 1) := by decide +kernel
theorem dX8_cutOne_129 : decode cX8_cutOne 129 = .ok (.getfield 22, 3) := by decide +kernel
theorem dX8_cutOne_132 : decode cX8_cutOne 132 = .ok (.iload_n 1, 1) := by decide +kernel
theorem dX8_cutOne_133 : decode cX8_cutOne 133 = .ok (.bipush 36, 2) := by decide +kernel
theorem dX8_cutOne_135 : decode cX8_cutOne 135 = .ok (.iastore, 1) := by decide +kernel
theorem dX8_cutOne_136 : decode cX8_cutOne 136 = .ok (.aload_n 0, 1) := by decide +kernel
theorem dX8_cutOne_137 : decode cX8_cutOne 137 = .ok (.getfield 28, 3) := by decide +kernel
theorem dX8_cutOne_140 : decode cX8_cutOne 140 = .ok (.iload_n 1, 1) := by decide +kernel
theorem dX8_cutOne_141 : decode cX8_cutOne 141 = .ok (.iload 5, 2) := by decide +kernel
theorem dX8_cutOne_143 : decode cX8_cutOne 143 = .ok (.iastore, 1) := by decide +kernel
theorem dX8_cutOne_144 : decode cX8_cutOne 144 = .ok (.goto 121, 3) := by decide +kernel
theorem dX8_cutOne_147 : decode cX8_cutOne 147 = .ok (.iload_n 3, 1) := by decide +kernel
theorem dX8_cutOne_148 : decode cX8_cutOne 148 = .ok (.bipush 60, 2) := by decide +kernel
theorem dX8_cutOne_150 : decode cX8_cutOne 150 = .ok (.if_icmp .eq 9, 3) := by decide +kernel
theorem dX8_cutOne_153 : decode cX8_cutOne 153 = .ok (.iload_n 3, 1) := by decide +kernel
theorem dX8_cutOne_154 : decode cX8_cutOne 154 = .ok (.bipush 62, 2) := by decide +kernel
theorem dX8_cutOne_156 : decode cX8_cutOne 156 = .ok (.if_icmp .ne 79, 3) := by decide +kernel
theorem dX8_cutOne_159 : decode cX8_cutOne 159 = .ok (.iload 4, 2) := by decide +kernel
theorem dX8_cutOne_161 : decode cX8_cutOne 161 = .ok (.aload_n 0, 1) := by decide +kernel
theorem dX8_cutOne_162 : decode cX8_cutOne 162 = .ok (.getfield 35, 3) := by decide +kernel
theorem dX8_cutOne_165 : decode cX8_cutOne 165 = .ok (.if_icmp .ge 19, 3) := by decide +kernel
theorem dX8_cutOne_168 : decode cX8_cutOne 168 = .ok (.aload_n 0, 1) := by decide +kernel
theorem dX8_cutOne_169 : decode cX8_cutOne 169 = .ok (.getfield 11, 3) := by decide +kernel
theorem dX8_cutOne_172 : decode cX8_cutOne 172 = .ok (.iload 4, 2) := by decide +kernel
theorem dX8_cutOne_174 : decode cX8_cutOne 174 = .ok (.iaload, 1) := by decide +kernel
theorem dX8_cutOne_175 : decode cX8_cutOne 175 = .ok (.bipush 61, 2) := by decide +kernel
theorem dX8_cutOne_177 : decode cX8_cutOne 177 = .ok (.if_icmp .ne 7, 3) := by decide +kernel
theorem dX8_cutOne_180 : decode cX8_cutOne 180 = .ok (.iconst 1, 1) := by decide +kernel
theorem dX8_cutOne_181 : decode cX8_cutOne 181 = .ok (.goto 4, 3) := by decide +kernel
theorem dX8_cutOne_184 : decode cX8_cutOne 184 = .ok (.iconst 0, 1) := by decide +kernel
theorem dX8_cutOne_185 : decode cX8_cutOne 185 = .ok (.istore 5, 2) := by decide +kernel
theorem dX8_cutOne_187 : decode cX8_cutOne 187 = .ok (.aload_n 0, 1) := by decide +kernel
theorem dX8_cutOne_188 : decode cX8_cutOne 188 = .ok (.getfield 22, 3) := by decide +kernel
theorem dX8_cutOne_191 : decode cX8_cutOne 191 = .ok (.iload_n 1, 1) := by decide +kernel
theorem dX8_cutOne_192 : decode cX8_cutOne 192 = .ok (.iload_n 3, 1) := by decide +kernel
theorem dX8_cutOne_193 : decode cX8_cutOne 193 = .ok (.bipush 60, 2) := by decide +kernel
theorem dX8_cutOne_195 : decode cX8_cutOne 195 = .ok (.if_icmp .ne 8, 3) := by decide +kernel
theorem dX8_cutOne_198 : decode cX8_cutOne 198 = .ok (.bipush 22, 2) := by decide +kernel
theorem dX8_cutOne_200 : decode cX8_cutOne 200 = .ok (.goto 5, 3) := by decide +kernel
theorem dX8_cutOne_203 : decode cX8_cutOne 203 = .ok (.bipush 24, 2) := by decide +kernel
theorem dX8_cutOne_205 : decode cX8_cutOne 205 = .ok (.iload 5, 2) := by decide +kernel
theorem dX8_cutOne_207 : decode cX8_cutOne 207 = .ok (.ifCond .eq 7, 3) := by decide +kernel
theorem dX8_cutOne_210 : decode cX8_cutOne 210 = .ok (.iconst 1, 1) := by decide +kernel
theorem dX8_cutOne_211 : decode cX8_cutOne 211 = .ok (.goto 4, 3) := by decide +kernel
theorem dX8_cutOne_214 : decode cX8_cutOne 214 = .ok (.iconst 0, 1) := by decide +kernel
theorem dX8_cutOne_215 : decode cX8_cutOne 215 = .ok (.iadd, 1) := by decide +kernel
theorem dX8_cutOne_216 : decode cX8_cutOne 216 = .ok (.iastore, 1) := by decide +kernel
theorem dX8_cutOne_217 : decode cX8_cutOne 217 = .ok (.iload 4, 2) := by decide +kernel
theorem dX8_cutOne_219 : decode cX8_cutOne 219 = .ok (.iload 5, 2) := by decide +kernel
theorem dX8_cutOne_221 : decode cX8_cutOne 221 = .ok (.ifCond .eq 7, 3) := by decide +kernel
theorem dX8_cutOne_224 : decode cX8_cutOne 224 = .ok (.iconst 1, 1) := by decide +kernel
theorem dX8_cutOne_225 : decode cX8_cutOne 225 = .ok (.goto 4, 3) := by decide +kernel
theorem dX8_cutOne_228 : decode cX8_cutOne 228 = .ok (.iconst 0, 1) := by decide +kernel
theorem dX8_cutOne_229 : decode cX8_cutOne 229 = .ok (.iadd, 1) := by decide +kernel
theorem dX8_cutOne_230 : decode cX8_cutOne 230 = .ok (.istore 4, 2) := by decide +kernel
theorem dX8_cutOne_232 : decode cX8_cutOne 232 = .ok (.goto 33, 3) := by decide +kernel
theorem dX8_cutOne_235 : decode cX8_cutOne 235 = .ok (.ldc 78, 2) := by decide +kernel
theorem dX8_cutOne_237 : decode cX8_cutOne 237 = .ok (.iload_n 3, 1) := by decide +kernel
theorem dX8_cutOne_238 : decode cX8_cutOne 238 = .ok (.i2c, 1) := by decide +kernel
theorem dX8_cutOne_239 : decode cX8_cutOne 239 = .ok (.invokevirtual 80, 3) := by decide +kernel
theorem dX8_cutOne_242 : decode cX8_cutOne 242 = .ok (.istore 5, 2) := by decide +kernel
theorem dX8_cutOne_244 : decode cX8_cutOne 244 = .ok (.aload_n 0, 1) := by decide +kernel
theorem dX8_cutOne_245 : decode cX8_cutOne 245 = .ok (.getfield 22, 3) := by decide +kernel
theorem dX8_cutOne_248 : decode cX8_cutOne 248 = .ok (.iload_n 1, 1) := by decide +kernel
theorem dX8_cutOne_249 : decode cX8_cutOne 249 = .ok (.iload 5, 2) := by decide +kernel
theorem dX8_cutOne_251 : decode cX8_cutOne 251 = .ok (.ifCond .ge 8, 3) := by decide +kernel
theorem dX8_cutOne_254 : decode cX8_cutOne 254 = .ok (.bipush 38, 2) := by decide +kernel
theorem dX8_cutOne_256 : decode cX8_cutOne 256 = .ok (.goto 8, 3) := by decide +kernel
theorem dX8_cutOne_259 : decode cX8_cutOne 259 = .ok (.bipush 26, 2) := by decide +kernel
theorem dX8_cutOne_261 : decode cX8_cutOne 261 = .ok (.iload 5, 2) := by decide +kernel
theorem dX8_cutOne_263 : decode cX8_cutOne 263 = .ok (.iadd, 1) := by decide +kernel
theorem dX8_cutOne_264 : decode cX8_cutOne 264 = .ok (.iastore, 1) := by decide +kernel
theorem dX8_cutOne_265 : decode cX8_cutOne 265 = .ok (.iload 4, 2) := by decide +kernel
theorem dX8_cutOne_267 : decode cX8_cutOne 267 = .ok (.ireturn, 1) := by decide +kernel
theorem dX8_isLetter_0 : decode cX8_isLetter 0 = .ok (.iload_n 0, 1) := by decide +kernel
theorem dX8_isLetter_1 : decode cX8_isLetter 1 = .ok (.bipush 97, 2) := by decide +kernel
theorem dX8_isLetter_3 : decode cX8_isLetter 3 = .ok (.if_icmp .lt 9, 3) := by decide +kernel
theorem dX8_isLetter_6 : decode cX8_isLetter 6 = .ok (.iload_n 0, 1) := by decide +kernel
theorem dX8_isLetter_7 : decode cX8_isLetter 7 = .ok (.bipush 122, 2) := by decide +kernel
theorem dX8_isLetter_9 : decode cX8_isLetter 9 = .ok (.if_icmp .le 15, 3) := by decide +kernel
theorem dX8_isLetter_12 : decode cX8_isLetter 12 = .ok (.iload_n 0, 1) := by decide +kernel
theorem dX8_isLetter_13 : decode cX8_isLetter 13 = .ok (.bipush 65, 2) := by decide +kernel
theorem dX8_isLetter_15 : decode cX8_isLetter 15 = .ok (.if_icmp .lt 13, 3) := by decide +kernel
theorem dX8_isLetter_18 : decode cX8_isLetter 18 = .ok (.iload_n 0, 1) := by decide +kernel
theorem dX8_isLetter_19 : decode cX8_isLetter 19 = .ok (.bipush 90, 2) := by decide +kernel
theorem dX8_isLetter_21 : decode cX8_isLetter 21 = .ok (.if_icmp .gt 7, 3) := by decide +kernel
theorem dX8_isLetter_24 : decode cX8_isLetter 24 = .ok (.iconst 1, 1) := by decide +kernel
theorem dX8_isLetter_25 : decode cX8_isLetter 25 = .ok (.goto 4, 3) := by decide +kernel
theorem dX8_isLetter_28 : decode cX8_isLetter 28 = .ok (.iconst 0, 1) := by decide +kernel
theorem dX8_isLetter_29 : decode cX8_isLetter 29 = .ok (.ireturn, 1) := by decide +kernel
theorem dX8_isDigit_0 : decode cX8_isDigit 0 = .ok (.iload_n 0, 1) := by decide +kernel
theorem dX8_isDigit_1 : decode cX8_isDigit 1 = .ok (.bipush 48, 2) := by decide +kernel
theorem dX8_isDigit_3 : decode cX8_isDigit 3 = .ok (.if_icmp .lt 13, 3) := by decide +kernel
theorem dX8_isDigit_6 : decode cX8_isDigit 6 = .ok (.iload_n 0, 1) := by decide +kernel
theorem dX8_isDigit_7 : decode cX8_isDigit 7 = .ok (.bipush 57, 2) := by decide +kernel
theorem dX8_isDigit_9 : decode cX8_isDigit 9 = .ok (.if_icmp .gt 7, 3) := by decide +kernel
theorem dX8_isDigit_12 : decode cX8_isDigit 12 = .ok (.iconst 1, 1) := by decide +kernel
theorem dX8_isDigit_13 : decode cX8_isDigit 13 = .ok (.goto 4, 3) := by decide +kernel
theorem dX8_isDigit_16 : decode cX8_isDigit 16 = .ok (.iconst 0, 1) := by decide +kernel
theorem dX8_isDigit_17 : decode cX8_isDigit 17 = .ok (.ireturn, 1) := by decide +kernel
theorem dX8_wordOf_0 : decode cX8_wordOf 0 = .ok (.iload_n 2, 1) := by decide +kernel
theorem dX8_wordOf_1 : decode cX8_wordOf 1 = .ok (.iload_n 1, 1) := by decide +kernel
theorem dX8_wordOf_2 : decode cX8_wordOf 2 = .ok (.isub, 1) := by decide +kernel
theorem dX8_wordOf_3 : decode cX8_wordOf 3 = .ok (.iconst 5, 1) := by decide +kernel
theorem dX8_wordOf_4 : decode cX8_wordOf 4 = .ok (.if_icmp .le 6, 3) := by decide +kernel
theorem dX8_wordOf_7 : decode cX8_wordOf 7 = .ok (.bipush 38, 2) := by decide +kernel
theorem dX8_wordOf_9 : decode cX8_wordOf 9 = .ok (.ireturn, 1) := by decide +kernel
theorem dX8_wordOf_10 : decode cX8_wordOf 10 = .ok (.iconst 0, 1) := by decide +kernel
theorem dX8_wordOf_11 : decode cX8_wordOf 11 = .ok (.istore_n 3, 1) := by decide +kernel
theorem dX8_wordOf_12 : decode cX8_wordOf 12 = .ok (.iload_n 3, 1) := by decide +kernel
theorem dX8_wordOf_13 : decode cX8_wordOf 13 = .ok (.bipush 22, 2) := by decide +kernel
theorem dX8_wordOf_15 : decode cX8_wordOf 15 = .ok (.if_icmp .ge 85, 3) := by decide +kernel
theorem dX8_wordOf_18 : decode cX8_wordOf 18 = .ok (.iconst 0, 1) := by decide +kernel
theorem dX8_wordOf_19 : decode cX8_wordOf 19 = .ok (.istore 4, 2) := by decide +kernel
theorem dX8_wordOf_21 : decode cX8_wordOf 21 = .ok (.iconst 0, 1) := by decide +kernel
theorem dX8_wordOf_22 : decode cX8_wordOf 22 = .ok (.istore 5, 2) := by decide +kernel
theorem dX8_wordOf_24 : decode cX8_wordOf 24 = .ok (.iload 5, 2) := by decide +kernel
theorem dX8_wordOf_26 : decode cX8_wordOf 26 = .ok (.iconst 5, 1) := by decide +kernel
theorem dX8_wordOf_27 : decode cX8_wordOf 27 = .ok (.if_icmp .ge 59, 3) := by decide +kernel
theorem dX8_wordOf_30 : decode cX8_wordOf 30 = .ok (.iload_n 1, 1) := by decide +kernel
theorem dX8_wordOf_31 : decode cX8_wordOf 31 = .ok (.iload 5, 2) := by decide +kernel
theorem dX8_wordOf_33 : decode cX8_wordOf 33 = .ok (.iadd, 1) := by decide +kernel
theorem dX8_wordOf_34 : decode cX8_wordOf 34 = .ok (.iload_n 2, 1) := by decide +kernel
theorem dX8_wordOf_35 : decode cX8_wordOf 35 = .ok (.if_icmp .ge 15, 3) := by decide +kernel
theorem dX8_wordOf_38 : decode cX8_wordOf 38 = .ok (.aload_n 0, 1) := by decide +kernel
theorem dX8_wordOf_39 : decode cX8_wordOf 39 = .ok (.getfield 11, 3) := by decide +kernel
theorem dX8_wordOf_42 : decode cX8_wordOf 42 = .ok (.iload_n 1, 1) := by decide +kernel
theorem dX8_wordOf_43 : decode cX8_wordOf 43 = .ok (.iload 5, 2) := by decide +kernel
theorem dX8_wordOf_45 : decode cX8_wordOf 45 = .ok (.iadd, 1) := by decide +kernel
theorem dX8_wordOf_46 : decode cX8_wordOf 46 = .ok (.iaload, 1) := by decide +kernel
theorem dX8_wordOf_47 : decode cX8_wordOf 47 = .ok (.goto 5, 3) := by decide +kernel
theorem dX8_wordOf_50 : decode cX8_wordOf 50 = .ok (.bipush 32, 2) := by decide +kernel
theorem dX8_wordOf_52 : decode cX8_wordOf 52 = .ok (.istore 6, 2) := by decide +kernel
theorem dX8_wordOf_54 : decode cX8_wordOf 54 = .ok (.iload 4, 2) := by decide +kernel
theorem dX8_wordOf_56 : decode cX8_wordOf 56 = .ok (.ldc 86, 2) := by decide +kernel
theorem dX8_wordOf_58 : decode cX8_wordOf 58 = .ok (.iload_n 3, 1) := by decide +kernel
theorem dX8_wordOf_59 : decode cX8_wordOf 59 = .ok (.iconst 5, 1) := by decide +kernel
theorem dX8_wordOf_60 : decode cX8_wordOf 60 = .ok (.imul, 1) := by decide +kernel
theorem dX8_wordOf_61 : decode cX8_wordOf 61 = .ok (.iload 5, 2) := by decide +kernel
theorem dX8_wordOf_63 : decode cX8_wordOf 63 = .ok (.iadd, 1) := by decide +kernel
theorem dX8_wordOf_64 : decode cX8_wordOf 64 = .ok (.invokevirtual 88, 3) := by decide +kernel
theorem dX8_wordOf_67 : decode cX8_wordOf 67 = .ok (.iload 6, 2) := by decide +kernel
theorem dX8_wordOf_69 : decode cX8_wordOf 69 = .ok (.if_icmp .ne 7, 3) := by decide +kernel
theorem dX8_wordOf_72 : decode cX8_wordOf 72 = .ok (.iconst 1, 1) := by decide +kernel
theorem dX8_wordOf_73 : decode cX8_wordOf 73 = .ok (.goto 4, 3) := by decide +kernel
theorem dX8_wordOf_76 : decode cX8_wordOf 76 = .ok (.iconst 0, 1) := by decide +kernel
theorem dX8_wordOf_77 : decode cX8_wordOf 77 = .ok (.iadd, 1) := by decide +kernel
theorem dX8_wordOf_78 : decode cX8_wordOf 78 = .ok (.istore 4, 2) := by decide +kernel
theorem dX8_wordOf_80 : decode cX8_wordOf 80 = .ok (.iinc 5 1, 3) := by decide +kernel
theorem dX8_wordOf_83 : decode cX8_wordOf 83 = .ok (.goto (-59), 3) := by decide +kernel
theorem dX8_wordOf_86 : decode cX8_wordOf 86 = .ok (.iload 4, 2) := by decide +kernel
theorem dX8_wordOf_88 : decode cX8_wordOf 88 = .ok (.iconst 5, 1) := by decide +kernel
theorem dX8_wordOf_89 : decode cX8_wordOf 89 = .ok (.if_icmp .ne 5, 3) := by decide +kernel
theorem dX8_wordOf_92 : decode cX8_wordOf 92 = .ok (.iload_n 3, 1) := by decide +kernel
theorem dX8_wordOf_93 : decode cX8_wordOf 93 = .ok (.ireturn, 1) := by decide +kernel
theorem dX8_wordOf_94 : decode cX8_wordOf 94 = .ok (.iinc 3 1, 3) := by decide +kernel
theorem dX8_wordOf_97 : decode cX8_wordOf 97 = .ok (.goto (-85), 3) := by decide +kernel
theorem dX8_wordOf_100 : decode cX8_wordOf 100 = .ok (.bipush 38, 2) := by decide +kernel
theorem dX8_wordOf_102 : decode cX8_wordOf 102 = .ok (.ireturn, 1) := by decide +kernel
theorem dX8_fail_0 : decode cX8_fail 0 = .ok (.aload_n 0, 1) := by decide +kernel
theorem dX8_fail_1 : decode cX8_fail 1 = .ok (.getfield 52, 3) := by decide +kernel
theorem dX8_fail_4 : decode cX8_fail 4 = .ok (.bipush 39, 2) := by decide +kernel
theorem dX8_fail_6 : decode cX8_fail 6 = .ok (.if_icmp .eq 27, 3) := by decide +kernel
theorem dX8_fail_9 : decode cX8_fail 9 = .ok (.aload_n 0, 1) := by decide +kernel
theorem dX8_fail_10 : decode cX8_fail 10 = .ok (.iload_n 1, 1) := by decide +kernel
theorem dX8_fail_11 : decode cX8_fail 11 = .ok (.putfield 15, 3) := by decide +kernel
theorem dX8_fail_14 : decode cX8_fail 14 = .ok (.aload_n 0, 1) := by decide +kernel
theorem dX8_fail_15 : decode cX8_fail 15 = .ok (.aload_n 0, 1) := by decide +kernel
theorem dX8_fail_16 : decode cX8_fail 16 = .ok (.getfield 25, 3) := by decide +kernel
theorem dX8_fail_19 : decode cX8_fail 19 = .ok (.aload_n 0, 1) := by decide +kernel
theorem dX8_fail_20 : decode cX8_fail 20 = .ok (.getfield 49, 3) := by decide +kernel
theorem dX8_fail_23 : decode cX8_fail 23 = .ok (.iaload, 1) := by decide +kernel
theorem dX8_fail_24 : decode cX8_fail 24 = .ok (.putfield 19, 3) := by decide +kernel
theorem dX8_fail_27 : decode cX8_fail 27 = .ok (.aload_n 0, 1) := by decide +kernel
theorem dX8_fail_28 : decode cX8_fail 28 = .ok (.bipush 39, 2) := by decide +kernel
theorem dX8_fail_30 : decode cX8_fail 30 = .ok (.putfield 52, 3) := by decide +kernel
theorem dX8_fail_33 : decode cX8_fail 33 = .ok (.return_, 1) := by decide +kernel
theorem dX8_advance_0 : decode cX8_advance 0 = .ok (.aload_n 0, 1) := by decide +kernel
theorem dX8_advance_1 : decode cX8_advance 1 = .ok (.getfield 52, 3) := by decide +kernel
theorem dX8_advance_4 : decode cX8_advance 4 = .ok (.bipush 39, 2) := by decide +kernel
theorem dX8_advance_6 : decode cX8_advance 6 = .ok (.if_icmp .eq 35, 3) := by decide +kernel
theorem dX8_advance_9 : decode cX8_advance 9 = .ok (.aload_n 0, 1) := by decide +kernel
theorem dX8_advance_10 : decode cX8_advance 10 = .ok (.getfield 52, 3) := by decide +kernel
theorem dX8_advance_13 : decode cX8_advance 13 = .ok (.bipush 37, 2) := by decide +kernel
theorem dX8_advance_15 : decode cX8_advance 15 = .ok (.if_icmp .eq 26, 3) := by decide +kernel
theorem dX8_advance_18 : decode cX8_advance 18 = .ok (.aload_n 0, 1) := by decide +kernel
theorem dX8_advance_19 : decode cX8_advance 19 = .ok (.dup, 1) := by decide +kernel
theorem dX8_advance_20 : decode cX8_advance 20 = .ok (.getfield 49, 3) := by decide +kernel
theorem dX8_advance_23 : decode cX8_advance 23 = .ok (.iconst 1, 1) := by decide +kernel
theorem dX8_advance_24 : decode cX8_advance 24 = .ok (.iadd, 1) := by decide +kernel
theorem dX8_advance_25 : decode cX8_advance 25 = .ok (.putfield 49, 3) := by decide +kernel
theorem dX8_advance_28 : decode cX8_advance 28 = .ok (.aload_n 0, 1) := by decide +kernel
theorem dX8_advance_29 : decode cX8_advance 29 = .ok (.aload_n 0, 1) := by decide +kernel
theorem dX8_advance_30 : decode cX8_advance 30 = .ok (.getfield 22, 3) := by decide +kernel
theorem dX8_advance_33 : decode cX8_advance 33 = .ok (.aload_n 0, 1) := by decide +kernel
theorem dX8_advance_34 : decode cX8_advance 34 = .ok (.getfield 49, 3) := by decide +kernel
theorem dX8_advance_37 : decode cX8_advance 37 = .ok (.iaload, 1) := by decide +kernel
theorem dX8_advance_38 : decode cX8_advance 38 = .ok (.putfield 52, 3) := by decide +kernel
theorem dX8_advance_41 : decode cX8_advance 41 = .ok (.return_, 1) := by decide +kernel
theorem dX8_expect_0 : decode cX8_expect 0 = .ok (.aload_n 0, 1) := by decide +kernel
theorem dX8_expect_1 : decode cX8_expect 1 = .ok (.getfield 52, 3) := by decide +kernel
theorem dX8_expect_4 : decode cX8_expect 4 = .ok (.iload_n 1, 1) := by decide +kernel
theorem dX8_expect_5 : decode cX8_expect 5 = .ok (.if_icmp .ne 10, 3) := by decide +kernel
theorem dX8_expect_8 : decode cX8_expect 8 = .ok (.aload_n 0, 1) := by decide +kernel
theorem dX8_expect_9 : decode cX8_expect 9 = .ok (.invokevirtual 92, 3) := by decide +kernel
theorem dX8_expect_12 : decode cX8_expect 12 = .ok (.goto 8, 3) := by decide +kernel
theorem dX8_expect_15 : decode cX8_expect 15 = .ok (.aload_n 0, 1) := by decide +kernel
theorem dX8_expect_16 : decode cX8_expect 16 = .ok (.iconst 1, 1) := by decide +kernel
theorem dX8_expect_17 : decode cX8_expect 17 = .ok (.invokevirtual 95, 3) := by decide +kernel
theorem dX8_expect_20 : decode cX8_expect 20 = .ok (.return_, 1) := by decide +kernel
theorem dX8_clause_0 : decode cX8_clause 0 = .ok (.aload_n 0, 1) := by decide +kernel
theorem dX8_clause_1 : decode cX8_clause 1 = .ok (.getfield 52, 3) := by decide +kernel
theorem dX8_clause_4 : decode cX8_clause 4 = .ok (.istore_n 2, 1) := by decide +kernel
theorem dX8_clause_5 : decode cX8_clause 5 = .ok (.iload_n 2, 1) := by decide +kernel
theorem dX8_clause_6 : decode cX8_clause 6 = .ok (.bipush 14, 2) := by decide +kernel
theorem dX8_clause_8 : decode cX8_clause 8 = .ok (.if_icmp .eq 27, 3) := by decide +kernel
theorem dX8_clause_11 : decode cX8_clause 11 = .ok (.iload_n 2, 1) := by decide +kernel
theorem dX8_clause_12 : decode cX8_clause 12 = .ok (.bipush 15, 2) := by decide +kernel
theorem dX8_clause_14 : decode cX8_clause 14 = .ok (.if_icmp .eq 21, 3) := by decide +kernel
theorem dX8_clause_17 : decode cX8_clause 17 = .ok (.iload_n 2, 1) := by decide +kernel
theorem dX8_clause_18 : decode cX8_clause 18 = .ok (.ifCond .eq 17, 3) := by decide +kernel
theorem dX8_clause_21 : decode cX8_clause 21 = .ok (.iload_n 2, 1) := by decide +kernel
theorem dX8_clause_22 : decode cX8_clause 22 = .ok (.bipush 16, 2) := by decide +kernel
theorem dX8_clause_24 : decode cX8_clause 24 = .ok (.if_icmp .eq 11, 3) := by decide +kernel
theorem dX8_clause_27 : decode cX8_clause 27 = .ok (.aload_n 0, 1) := by decide +kernel
theorem dX8_clause_28 : decode cX8_clause 28 = .ok (.iconst 1, 1) := by decide +kernel
theorem dX8_clause_29 : decode cX8_clause 29 = .ok (.invokevirtual 95, 3) := by decide +kernel
theorem dX8_clause_32 : decode cX8_clause 32 = .ok (.goto 34, 3) := by decide +kernel
theorem dX8_clause_35 : decode cX8_clause 35 = .ok (.aload_n 0, 1) := by decide +kernel
theorem dX8_clause_36 : decode cX8_clause 36 = .ok (.getfield 43, 3) := by decide +kernel
theorem dX8_clause_39 : decode cX8_clause 39 = .ok (.iload_n 2, 1) := by decide +kernel
theorem dX8_clause_40 : decode cX8_clause 40 = .ok (.ishr, 1) := by decide +kernel
theorem dX8_clause_41 : decode cX8_clause 41 = .ok (.iconst 1, 1) := by decide +kernel
theorem dX8_clause_42 : decode cX8_clause 42 = .ok (.iand, 1) := by decide +kernel
theorem dX8_clause_43 : decode cX8_clause 43 = .ok (.iconst 1, 1) := by decide +kernel
theorem dX8_clause_44 : decode cX8_clause 44 = .ok (.if_icmp .ne 11, 3) := by decide +kernel
theorem dX8_clause_47 : decode cX8_clause 47 = .ok (.aload_n 0, 1) := by decide +kernel
theorem dX8_clause_48 : decode cX8_clause 48 = .ok (.iconst 4, 1) := by decide +kernel
theorem dX8_clause_49 : decode cX8_clause 49 = .ok (.invokevirtual 95, 3) := by decide +kernel
theorem dX8_clause_52 : decode cX8_clause 52 = .ok (.goto 14, 3) := by decide +kernel
theorem dX8_clause_55 : decode cX8_clause 55 = .ok (.iload_n 1, 1) := by decide +kernel
theorem dX8_clause_56 : decode cX8_clause 56 = .ok (.bipush 12, 2) := by decide +kernel
theorem dX8_clause_58 : decode cX8_clause 58 = .ok (.if_icmp .lt 8, 3) := by decide +kernel
theorem dX8_clause_61 : decode cX8_clause 61 = .ok (.aload_n 0, 1) := by decide +kernel
theorem dX8_clause_62 : decode cX8_clause 62 = .ok (.iconst 5, 1) := by decide +kernel
theorem dX8_clause_63 : decode cX8_clause 63 = .ok (.invokevirtual 95, 3) := by decide +kernel
theorem dX8_clause_66 : decode cX8_clause 66 = .ok (.aload_n 0, 1) := by decide +kernel
theorem dX8_clause_67 : decode cX8_clause 67 = .ok (.dup, 1) := by decide +kernel
theorem dX8_clause_68 : decode cX8_clause 68 = .ok (.getfield 43, 3) := by decide +kernel
theorem dX8_clause_71 : decode cX8_clause 71 = .ok (.iload_n 2, 1) := by decide +kernel
theorem dX8_clause_72 : decode cX8_clause 72 = .ok (.bipush 15, 2) := by decide +kernel
theorem dX8_clause_74 : decode cX8_clause 74 = .ok (.if_icmp .eq 12, 3) := by decide +kernel
theorem dX8_clause_77 : decode cX8_clause 77 = .ok (.aload_n 0, 1) := by decide +kernel
theorem dX8_clause_78 : decode cX8_clause 78 = .ok (.getfield 52, 3) := by decide +kernel
theorem dX8_clause_81 : decode cX8_clause 81 = .ok (.bipush 39, 2) := by decide +kernel
theorem dX8_clause_83 : decode cX8_clause 83 = .ok (.if_icmp .ne 7, 3) := by decide +kernel
theorem dX8_clause_86 : decode cX8_clause 86 = .ok (.iconst 0, 1) := by decide +kernel
theorem dX8_clause_87 : decode cX8_clause 87 = .ok (.goto 6, 3) := by decide +kernel
theorem dX8_clause_90 : decode cX8_clause 90 = .ok (.iconst 1, 1) := by decide +kernel
theorem dX8_clause_91 : decode cX8_clause 91 = .ok (.iload_n 2, 1) := by decide +kernel
theorem dX8_clause_92 : decode cX8_clause 92 = .ok (.ishl, 1) := by decide +kernel
theorem dX8_clause_93 : decode cX8_clause 93 = .ok (.ior, 1) := by decide +kernel
theorem dX8_clause_94 : decode cX8_clause 94 = .ok (.putfield 43, 3) := by decide +kernel
theorem dX8_clause_97 : decode cX8_clause 97 = .ok (.aload_n 0, 1) := by decide +kernel
theorem dX8_clause_98 : decode cX8_clause 98 = .ok (.invokevirtual 92, 3) := by decide +kernel
theorem dX8_clause_101 : decode cX8_clause 101 = .ok (.iload_n 2, 1) := by decide +kernel
theorem dX8_clause_102 : decode cX8_clause 102 = .ok (.bipush 14, 2) := by decide +kernel
theorem dX8_clause_104 : decode cX8_clause 104 = .ok (.if_icmp .ne 20, 3) := by decide +kernel
theorem dX8_clause_107 : decode cX8_clause 107 = .ok (.aload_n 0, 1) := by decide +kernel
theorem dX8_clause_108 : decode cX8_clause 108 = .ok (.iconst 0, 1) := by decide +kernel
theorem dX8_clause_109 : decode cX8_clause 109 = .ok (.invokevirtual 98, 3) := by decide +kernel
theorem dX8_clause_112 : decode cX8_clause 112 = .ok (.aload_n 0, 1) := by decide +kernel
theorem dX8_clause_113 : decode cX8_clause 113 = .ok (.getfield 31, 3) := by decide +kernel
theorem dX8_clause_116 : decode cX8_clause 116 = .ok (.bipush 14, 2) := by decide +kernel
theorem dX8_clause_118 : decode cX8_clause 118 = .ok (.invokevirtual 101, 3) := by decide +kernel
theorem dX8_clause_121 : decode cX8_clause 121 = .ok (.goto 30, 3) := by decide +kernel
theorem dX8_clause_124 : decode cX8_clause 124 = .ok (.iload_n 2, 1) := by decide +kernel
theorem dX8_clause_125 : decode cX8_clause 125 = .ok (.bipush 15, 2) := by decide +kernel
theorem dX8_clause_127 : decode cX8_clause 127 = .ok (.if_icmp .ne 19, 3) := by decide +kernel
theorem dX8_clause_130 : decode cX8_clause 130 = .ok (.aload_n 0, 1) := by decide +kernel
theorem dX8_clause_131 : decode cX8_clause 131 = .ok (.invokevirtual 104, 3) := by decide +kernel
theorem dX8_clause_134 : decode cX8_clause 134 = .ok (.aload_n 0, 1) := by decide +kernel
theorem dX8_clause_135 : decode cX8_clause 135 = .ok (.getfield 31, 3) := by decide +kernel
theorem dX8_clause_138 : decode cX8_clause 138 = .ok (.bipush 15, 2) := by decide +kernel
theorem dX8_clause_140 : decode cX8_clause 140 = .ok (.invokevirtual 101, 3) := by decide +kernel
theorem dX8_clause_143 : decode cX8_clause 143 = .ok (.goto 8, 3) := by decide +kernel
theorem dX8_clause_146 : decode cX8_clause 146 = .ok (.aload_n 0, 1) := by decide +kernel
theorem dX8_clause_147 : decode cX8_clause 147 = .ok (.iload_n 2, 1) := by decide +kernel
theorem dX8_clause_148 : decode cX8_clause 148 = .ok (.invokevirtual 107, 3) := by decide +kernel
theorem dX8_clause_151 : decode cX8_clause 151 = .ok (.aload_n 0, 1) := by decide +kernel
theorem dX8_clause_152 : decode cX8_clause 152 = .ok (.bipush 35, 2) := by decide +kernel
theorem dX8_clause_154 : decode cX8_clause 154 = .ok (.invokevirtual 110, 3) := by decide +kernel
theorem dX8_clause_157 : decode cX8_clause 157 = .ok (.return_, 1) := by decide +kernel
theorem dX8_window_0 : decode cX8_window 0 = .ok (.aload_n 0, 1) := by decide +kernel
theorem dX8_window_1 : decode cX8_window 1 = .ok (.getfield 28, 3) := by decide +kernel
theorem dX8_window_4 : decode cX8_window 4 = .ok (.aload_n 0, 1) := by decide +kernel
theorem dX8_window_5 : decode cX8_window 5 = .ok (.getfield 49, 3) := by decide +kernel
theorem dX8_window_8 : decode cX8_window 8 = .ok (.iaload, 1) := by decide +kernel
theorem dX8_window_9 : decode cX8_window 9 = .ok (.istore_n 2, 1) := by decide +kernel
theorem dX8_window_10 : decode cX8_window 10 = .ok (.aload_n 0, 1) := by decide +kernel
theorem dX8_window_11 : decode cX8_window 11 = .ok (.getfield 52, 3) := by decide +kernel
theorem dX8_window_14 : decode cX8_window 14 = .ok (.bipush 36, 2) := by decide +kernel
theorem dX8_window_16 : decode cX8_window 16 = .ok (.if_icmp .eq 11, 3) := by decide +kernel
theorem dX8_window_19 : decode cX8_window 19 = .ok (.aload_n 0, 1) := by decide +kernel
theorem dX8_window_20 : decode cX8_window 20 = .ok (.iconst 1, 1) := by decide +kernel
theorem dX8_window_21 : decode cX8_window 21 = .ok (.invokevirtual 95, 3) := by decide +kernel
theorem dX8_window_24 : decode cX8_window 24 = .ok (.goto 54, 3) := by decide +kernel
theorem dX8_window_27 : decode cX8_window 27 = .ok (.iload_n 2, 1) := by decide +kernel
theorem dX8_window_28 : decode cX8_window 28 = .ok (.iconst 1, 1) := by decide +kernel
theorem dX8_window_29 : decode cX8_window 29 = .ok (.if_icmp .lt 18, 3) := by decide +kernel
theorem dX8_window_32 : decode cX8_window 32 = .ok (.iload_n 2, 1) := by decide +kernel
theorem dX8_window_33 : decode cX8_window 33 = .ok (.iload_n 1, 1) := by decide +kernel
theorem dX8_window_34 : decode cX8_window 34 = .ok (.ifCond .ne 8, 3) := by decide +kernel
theorem dX8_window_37 : decode cX8_window 37 = .ok (.bipush 20, 2) := by decide +kernel
theorem dX8_window_39 : decode cX8_window 39 = .ok (.goto 5, 3) := by decide +kernel
theorem dX8_window_42 : decode cX8_window 42 = .ok (.bipush 60, 2) := by decide +kernel
theorem dX8_window_44 : decode cX8_window 44 = .ok (.if_icmp .le 11, 3) := by decide +kernel
theorem dX8_window_47 : decode cX8_window 47 = .ok (.aload_n 0, 1) := by decide +kernel
theorem dX8_window_48 : decode cX8_window 48 = .ok (.iconst 2, 1) := by decide +kernel
theorem dX8_window_49 : decode cX8_window 49 = .ok (.invokevirtual 95, 3) := by decide +kernel
theorem dX8_window_52 : decode cX8_window 52 = .ok (.goto 26, 3) := by decide +kernel
theorem dX8_window_55 : decode cX8_window 55 = .ok (.iload_n 1, 1) := by decide +kernel
theorem dX8_window_56 : decode cX8_window 56 = .ok (.ifCond .ne 14, 3) := by decide +kernel
theorem dX8_window_59 : decode cX8_window 59 = .ok (.aload_n 0, 1) := by decide +kernel
theorem dX8_window_60 : decode cX8_window 60 = .ok (.getfield 31, 3) := by decide +kernel
theorem dX8_window_63 : decode cX8_window 63 = .ok (.iload_n 2, 1) := by decide +kernel
theorem dX8_window_64 : decode cX8_window 64 = .ok (.putfield 113, 3) := by decide +kernel
theorem dX8_window_67 : decode cX8_window 67 = .ok (.goto 11, 3) := by decide +kernel
theorem dX8_window_70 : decode cX8_window 70 = .ok (.aload_n 0, 1) := by decide +kernel
theorem dX8_window_71 : decode cX8_window 71 = .ok (.getfield 31, 3) := by decide +kernel
theorem dX8_window_74 : decode cX8_window 74 = .ok (.iload_n 2, 1) := by decide +kernel
theorem dX8_window_75 : decode cX8_window 75 = .ok (.putfield 116, 3) := by decide +kernel
theorem dX8_window_78 : decode cX8_window 78 = .ok (.aload_n 0, 1) := by decide +kernel
theorem dX8_window_79 : decode cX8_window 79 = .ok (.invokevirtual 92, 3) := by decide +kernel
theorem dX8_window_82 : decode cX8_window 82 = .ok (.return_, 1) := by decide +kernel
theorem dX8_either_0 : decode cX8_either 0 = .ok (.iconst 0, 1) := by decide +kernel
theorem dX8_either_1 : decode cX8_either 1 = .ok (.istore_n 1, 1) := by decide +kernel
theorem dX8_either_2 : decode cX8_either 2 = .ok (.iconst 0, 1) := by decide +kernel
theorem dX8_either_3 : decode cX8_either 3 = .ok (.istore_n 2, 1) := by decide +kernel
theorem dX8_either_4 : decode cX8_either 4 = .ok (.iload_n 2, 1) := by decide +kernel
theorem dX8_either_5 : decode cX8_either 5 = .ok (.sipush 300, 3) := by decide +kernel
theorem dX8_either_8 : decode cX8_either 8 = .ok (.if_icmp .ge 90, 3) := by decide +kernel
theorem dX8_either_11 : decode cX8_either 11 = .ok (.iload_n 2, 1) := by decide +kernel
theorem dX8_either_12 : decode cX8_either 12 = .ok (.ifCond .eq 12, 3) := by decide +kernel
theorem dX8_either_15 : decode cX8_either 15 = .ok (.aload_n 0, 1) := by decide +kernel
theorem dX8_either_16 : decode cX8_either 16 = .ok (.getfield 52, 3) := by decide +kernel
theorem dX8_either_19 : decode cX8_either 19 = .ok (.bipush 17, 2) := by decide +kernel
theorem dX8_either_21 : decode cX8_either 21 = .ok (.if_icmp .ne 77, 3) := by decide +kernel
theorem dX8_either_24 : decode cX8_either 24 = .ok (.iload_n 1, 1) := by decide +kernel
theorem dX8_either_25 : decode cX8_either 25 = .ok (.ifCond .eq 7, 3) := by decide +kernel
theorem dX8_either_28 : decode cX8_either 28 = .ok (.aload_n 0, 1) := by decide +kernel
theorem dX8_either_29 : decode cX8_either 29 = .ok (.invokevirtual 92, 3) := by decide +kernel
theorem dX8_either_32 : decode cX8_either 32 = .ok (.aload_n 0, 1) := by decide +kernel
theorem dX8_either_33 : decode cX8_either 33 = .ok (.invokevirtual 119, 3) := by decide +kernel
theorem dX8_either_36 : decode cX8_either 36 = .ok (.iconst 0, 1) := by decide +kernel
theorem dX8_either_37 : decode cX8_either 37 = .ok (.istore_n 3, 1) := by decide +kernel
theorem dX8_either_38 : decode cX8_either 38 = .ok (.iload_n 3, 1) := by decide +kernel
theorem dX8_either_39 : decode cX8_either 39 = .ok (.sipush 300, 3) := by decide +kernel
theorem dX8_either_42 : decode cX8_either 42 = .ok (.if_icmp .ge 35, 3) := by decide +kernel
theorem dX8_either_45 : decode cX8_either 45 = .ok (.aload_n 0, 1) := by decide +kernel
theorem dX8_either_46 : decode cX8_either 46 = .ok (.getfield 52, 3) := by decide +kernel
theorem dX8_either_49 : decode cX8_either 49 = .ok (.bipush 18, 2) := by decide +kernel
theorem dX8_either_51 : decode cX8_either 51 = .ok (.if_icmp .ne 26, 3) := by decide +kernel
theorem dX8_either_54 : decode cX8_either 54 = .ok (.aload_n 0, 1) := by decide +kernel
theorem dX8_either_55 : decode cX8_either 55 = .ok (.invokevirtual 92, 3) := by decide +kernel
theorem dX8_either_58 : decode cX8_either 58 = .ok (.aload_n 0, 1) := by decide +kernel
theorem dX8_either_59 : decode cX8_either 59 = .ok (.invokevirtual 119, 3) := by decide +kernel
theorem dX8_either_62 : decode cX8_either 62 = .ok (.aload_n 0, 1) := by decide +kernel
theorem dX8_either_63 : decode cX8_either 63 = .ok (.getfield 31, 3) := by decide +kernel
theorem dX8_either_66 : decode cX8_either 66 = .ok (.bipush 18, 2) := by decide +kernel
theorem dX8_either_68 : decode cX8_either 68 = .ok (.invokevirtual 101, 3) := by decide +kernel
theorem dX8_either_71 : decode cX8_either 71 = .ok (.iinc 3 1, 3) := by decide +kernel
theorem dX8_either_74 : decode cX8_either 74 = .ok (.goto (-36), 3) := by decide +kernel
theorem dX8_either_77 : decode cX8_either 77 = .ok (.iload_n 1, 1) := by decide +kernel
theorem dX8_either_78 : decode cX8_either 78 = .ok (.ifCond .eq 12, 3) := by decide +kernel
theorem dX8_either_81 : decode cX8_either 81 = .ok (.aload_n 0, 1) := by decide +kernel
theorem dX8_either_82 : decode cX8_either 82 = .ok (.getfield 31, 3) := by decide +kernel
theorem dX8_either_85 : decode cX8_either 85 = .ok (.bipush 17, 2) := by decide +kernel
theorem dX8_either_87 : decode cX8_either 87 = .ok (.invokevirtual 101, 3) := by decide +kernel
theorem dX8_either_90 : decode cX8_either 90 = .ok (.iconst 1, 1) := by decide +kernel
theorem dX8_either_91 : decode cX8_either 91 = .ok (.istore_n 1, 1) := by decide +kernel
theorem dX8_either_92 : decode cX8_either 92 = .ok (.iinc 2 1, 3) := by decide +kernel
theorem dX8_either_95 : decode cX8_either 95 = .ok (.goto (-91), 3) := by decide +kernel
theorem dX8_either_98 : decode cX8_either 98 = .ok (.return_, 1) := by decide +kernel
theorem dX8_ask_0 : decode cX8_ask 0 = .ok (.iconst 0, 1) := by decide +kernel
theorem dX8_ask_1 : decode cX8_ask 1 = .ok (.istore_n 1, 1) := by decide +kernel
theorem dX8_ask_2 : decode cX8_ask 2 = .ok (.iconst 0, 1) := by decide +kernel
theorem dX8_ask_3 : decode cX8_ask 3 = .ok (.istore_n 2, 1) := by decide +kernel
theorem dX8_ask_4 : decode cX8_ask 4 = .ok (.iload_n 2, 1) := by decide +kernel
theorem dX8_ask_5 : decode cX8_ask 5 = .ok (.bipush 8, 2) := by decide +kernel
theorem dX8_ask_7 : decode cX8_ask 7 = .ok (.if_icmp .gt 36, 3) := by decide +kernel
theorem dX8_ask_10 : decode cX8_ask 10 = .ok (.aload_n 0, 1) := by decide +kernel
theorem dX8_ask_11 : decode cX8_ask 11 = .ok (.getfield 52, 3) := by decide +kernel
theorem dX8_ask_14 : decode cX8_ask 14 = .ok (.bipush 19, 2) := by decide +kernel
theorem dX8_ask_16 : decode cX8_ask 16 = .ok (.if_icmp .ne 27, 3) := by decide +kernel
theorem dX8_ask_19 : decode cX8_ask 19 = .ok (.iload_n 1, 1) := by decide +kernel
theorem dX8_ask_20 : decode cX8_ask 20 = .ok (.bipush 8, 2) := by decide +kernel
theorem dX8_ask_22 : decode cX8_ask 22 = .ok (.if_icmp .lt 8, 3) := by decide +kernel
theorem dX8_ask_25 : decode cX8_ask 25 = .ok (.aload_n 0, 1) := by decide +kernel
theorem dX8_ask_26 : decode cX8_ask 26 = .ok (.iconst 3, 1) := by decide +kernel
theorem dX8_ask_27 : decode cX8_ask 27 = .ok (.invokevirtual 95, 3) := by decide +kernel
theorem dX8_ask_30 : decode cX8_ask 30 = .ok (.aload_n 0, 1) := by decide +kernel
theorem dX8_ask_31 : decode cX8_ask 31 = .ok (.invokevirtual 92, 3) := by decide +kernel
theorem dX8_ask_34 : decode cX8_ask 34 = .ok (.iinc 1 1, 3) := by decide +kernel
theorem dX8_ask_37 : decode cX8_ask 37 = .ok (.iinc 2 1, 3) := by decide +kernel
theorem dX8_ask_40 : decode cX8_ask 40 = .ok (.goto (-36), 3) := by decide +kernel
theorem dX8_ask_43 : decode cX8_ask 43 = .ok (.aload_n 0, 1) := by decide +kernel
theorem dX8_ask_44 : decode cX8_ask 44 = .ok (.iload_n 1, 1) := by decide +kernel
theorem dX8_ask_45 : decode cX8_ask 45 = .ok (.invokevirtual 98, 3) := by decide +kernel
theorem dX8_ask_48 : decode cX8_ask 48 = .ok (.aload_n 0, 1) := by decide +kernel
theorem dX8_ask_49 : decode cX8_ask 49 = .ok (.getfield 52, 3) := by decide +kernel
theorem dX8_ask_52 : decode cX8_ask 52 = .ok (.istore_n 2, 1) := by decide +kernel
theorem dX8_ask_53 : decode cX8_ask 53 = .ok (.iload_n 2, 1) := by decide +kernel
theorem dX8_ask_54 : decode cX8_ask 54 = .ok (.bipush 22, 2) := by decide +kernel
theorem dX8_ask_56 : decode cX8_ask 56 = .ok (.if_icmp .lt 9, 3) := by decide +kernel
theorem dX8_ask_59 : decode cX8_ask 59 = .ok (.iload_n 2, 1) := by decide +kernel
theorem dX8_ask_60 : decode cX8_ask 60 = .ok (.bipush 27, 2) := by decide +kernel
theorem dX8_ask_62 : decode cX8_ask 62 = .ok (.if_icmp .le 8, 3) := by decide +kernel
theorem dX8_ask_65 : decode cX8_ask 65 = .ok (.aload_n 0, 1) := by decide +kernel
theorem dX8_ask_66 : decode cX8_ask 66 = .ok (.iconst 1, 1) := by decide +kernel
theorem dX8_ask_67 : decode cX8_ask 67 = .ok (.invokevirtual 95, 3) := by decide +kernel
theorem dX8_ask_70 : decode cX8_ask 70 = .ok (.aload_n 0, 1) := by decide +kernel
theorem dX8_ask_71 : decode cX8_ask 71 = .ok (.invokevirtual 92, 3) := by decide +kernel
theorem dX8_ask_74 : decode cX8_ask 74 = .ok (.aload_n 0, 1) := by decide +kernel
theorem dX8_ask_75 : decode cX8_ask 75 = .ok (.iload_n 1, 1) := by decide +kernel
theorem dX8_ask_76 : decode cX8_ask 76 = .ok (.invokevirtual 98, 3) := by decide +kernel
theorem dX8_ask_79 : decode cX8_ask 79 = .ok (.aload_n 0, 1) := by decide +kernel
theorem dX8_ask_80 : decode cX8_ask 80 = .ok (.getfield 31, 3) := by decide +kernel
theorem dX8_ask_83 : decode cX8_ask 83 = .ok (.iload_n 2, 1) := by decide +kernel
theorem dX8_ask_84 : decode cX8_ask 84 = .ok (.invokevirtual 101, 3) := by decide +kernel
theorem dX8_ask_87 : decode cX8_ask 87 = .ok (.iconst 0, 1) := by decide +kernel
theorem dX8_ask_88 : decode cX8_ask 88 = .ok (.istore_n 3, 1) := by decide +kernel
theorem dX8_ask_89 : decode cX8_ask 89 = .ok (.iload_n 3, 1) := by decide +kernel
theorem dX8_ask_90 : decode cX8_ask 90 = .ok (.iload_n 1, 1) := by decide +kernel
theorem dX8_ask_91 : decode cX8_ask 91 = .ok (.if_icmp .ge 18, 3) := by decide +kernel
theorem dX8_ask_94 : decode cX8_ask 94 = .ok (.aload_n 0, 1) := by decide +kernel
theorem dX8_ask_95 : decode cX8_ask 95 = .ok (.getfield 31, 3) := by decide +kernel
theorem dX8_ask_98 : decode cX8_ask 98 = .ok (.bipush 19, 2) := by decide +kernel
theorem dX8_ask_100 : decode cX8_ask 100 = .ok (.invokevirtual 101, 3) := by decide +kernel
theorem dX8_ask_103 : decode cX8_ask 103 = .ok (.iinc 3 1, 3) := by decide +kernel
theorem dX8_ask_106 : decode cX8_ask 106 = .ok (.goto (-17), 3) := by decide +kernel
theorem dX8_ask_109 : decode cX8_ask 109 = .ok (.return_, 1) := by decide +kernel
theorem dX8_sum_0 : decode cX8_sum 0 = .ok (.aload_n 0, 1) := by decide +kernel
theorem dX8_sum_1 : decode cX8_sum 1 = .ok (.iload_n 1, 1) := by decide +kernel
theorem dX8_sum_2 : decode cX8_sum 2 = .ok (.invokevirtual 122, 3) := by decide +kernel
theorem dX8_sum_5 : decode cX8_sum 5 = .ok (.iconst 0, 1) := by decide +kernel
theorem dX8_sum_6 : decode cX8_sum 6 = .ok (.istore_n 2, 1) := by decide +kernel
theorem dX8_sum_7 : decode cX8_sum 7 = .ok (.iload_n 2, 1) := by decide +kernel
theorem dX8_sum_8 : decode cX8_sum 8 = .ok (.sipush 300, 3) := by decide +kernel
theorem dX8_sum_11 : decode cX8_sum 11 = .ok (.if_icmp .ge 49, 3) := by decide +kernel
theorem dX8_sum_14 : decode cX8_sum 14 = .ok (.aload_n 0, 1) := by decide +kernel
theorem dX8_sum_15 : decode cX8_sum 15 = .ok (.getfield 52, 3) := by decide +kernel
theorem dX8_sum_18 : decode cX8_sum 18 = .ok (.bipush 28, 2) := by decide +kernel
theorem dX8_sum_20 : decode cX8_sum 20 = .ok (.if_icmp .eq 12, 3) := by decide +kernel
theorem dX8_sum_23 : decode cX8_sum 23 = .ok (.aload_n 0, 1) := by decide +kernel
theorem dX8_sum_24 : decode cX8_sum 24 = .ok (.getfield 52, 3) := by decide +kernel
theorem dX8_sum_27 : decode cX8_sum 27 = .ok (.bipush 29, 2) := by decide +kernel
theorem dX8_sum_29 : decode cX8_sum 29 = .ok (.if_icmp .ne 31, 3) := by decide +kernel
theorem dX8_sum_32 : decode cX8_sum 32 = .ok (.aload_n 0, 1) := by decide +kernel
theorem dX8_sum_33 : decode cX8_sum 33 = .ok (.getfield 52, 3) := by decide +kernel
theorem dX8_sum_36 : decode cX8_sum 36 = .ok (.istore_n 3, 1) := by decide +kernel
theorem dX8_sum_37 : decode cX8_sum 37 = .ok (.aload_n 0, 1) := by decide +kernel
theorem dX8_sum_38 : decode cX8_sum 38 = .ok (.invokevirtual 92, 3) := by decide +kernel
theorem dX8_sum_41 : decode cX8_sum 41 = .ok (.aload_n 0, 1) := by decide +kernel
theorem dX8_sum_42 : decode cX8_sum 42 = .ok (.iload_n 1, 1) := by decide +kernel
theorem dX8_sum_43 : decode cX8_sum 43 = .ok (.invokevirtual 122, 3) := by decide +kernel
theorem dX8_sum_46 : decode cX8_sum 46 = .ok (.aload_n 0, 1) := by decide +kernel
theorem dX8_sum_47 : decode cX8_sum 47 = .ok (.getfield 31, 3) := by decide +kernel
theorem dX8_sum_50 : decode cX8_sum 50 = .ok (.iload_n 3, 1) := by decide +kernel
theorem dX8_sum_51 : decode cX8_sum 51 = .ok (.invokevirtual 101, 3) := by decide +kernel
theorem dX8_sum_54 : decode cX8_sum 54 = .ok (.iinc 2 1, 3) := by decide +kernel
theorem dX8_sum_57 : decode cX8_sum 57 = .ok (.goto (-50), 3) := by decide +kernel
theorem dX8_sum_60 : decode cX8_sum 60 = .ok (.return_, 1) := by decide +kernel
theorem dX8_product_0 : decode cX8_product 0 = .ok (.aload_n 0, 1) := by decide +kernel
theorem dX8_product_1 : decode cX8_product 1 = .ok (.iload_n 1, 1) := by decide +kernel
theorem dX8_product_2 : decode cX8_product 2 = .ok (.invokevirtual 125, 3) := by decide +kernel
theorem dX8_product_5 : decode cX8_product 5 = .ok (.iconst 0, 1) := by decide +kernel
theorem dX8_product_6 : decode cX8_product 6 = .ok (.istore_n 2, 1) := by decide +kernel
theorem dX8_product_7 : decode cX8_product 7 = .ok (.iload_n 2, 1) := by decide +kernel
theorem dX8_product_8 : decode cX8_product 8 = .ok (.sipush 300, 3) := by decide +kernel
theorem dX8_product_11 : decode cX8_product 11 = .ok (.if_icmp .ge 49, 3) := by decide +kernel
theorem dX8_product_14 : decode cX8_product 14 = .ok (.aload_n 0, 1) := by decide +kernel
theorem dX8_product_15 : decode cX8_product 15 = .ok (.getfield 52, 3) := by decide +kernel
theorem dX8_product_18 : decode cX8_product 18 = .ok (.bipush 30, 2) := by decide +kernel
theorem dX8_product_20 : decode cX8_product 20 = .ok (.if_icmp .eq 12, 3) := by decide +kernel
theorem dX8_product_23 : decode cX8_product 23 = .ok (.aload_n 0, 1) := by decide +kernel
theorem dX8_product_24 : decode cX8_product 24 = .ok (.getfield 52, 3) := by decide +kernel
theorem dX8_product_27 : decode cX8_product 27 = .ok (.bipush 31, 2) := by decide +kernel
theorem dX8_product_29 : decode cX8_product 29 = .ok (.if_icmp .ne 31, 3) := by decide +kernel
theorem dX8_product_32 : decode cX8_product 32 = .ok (.aload_n 0, 1) := by decide +kernel
theorem dX8_product_33 : decode cX8_product 33 = .ok (.getfield 52, 3) := by decide +kernel
theorem dX8_product_36 : decode cX8_product 36 = .ok (.istore_n 3, 1) := by decide +kernel
theorem dX8_product_37 : decode cX8_product 37 = .ok (.aload_n 0, 1) := by decide +kernel
theorem dX8_product_38 : decode cX8_product 38 = .ok (.invokevirtual 92, 3) := by decide +kernel
theorem dX8_product_41 : decode cX8_product 41 = .ok (.aload_n 0, 1) := by decide +kernel
theorem dX8_product_42 : decode cX8_product 42 = .ok (.iload_n 1, 1) := by decide +kernel
theorem dX8_product_43 : decode cX8_product 43 = .ok (.invokevirtual 125, 3) := by decide +kernel
theorem dX8_product_46 : decode cX8_product 46 = .ok (.aload_n 0, 1) := by decide +kernel
theorem dX8_product_47 : decode cX8_product 47 = .ok (.getfield 31, 3) := by decide +kernel
theorem dX8_product_50 : decode cX8_product 50 = .ok (.iload_n 3, 1) := by decide +kernel
theorem dX8_product_51 : decode cX8_product 51 = .ok (.invokevirtual 101, 3) := by decide +kernel
theorem dX8_product_54 : decode cX8_product 54 = .ok (.iinc 2 1, 3) := by decide +kernel
theorem dX8_product_57 : decode cX8_product 57 = .ok (.goto (-50), 3) := by decide +kernel
theorem dX8_product_60 : decode cX8_product 60 = .ok (.return_, 1) := by decide +kernel
theorem dX8_one_0 : decode cX8_one 0 = .ok (.aload_n 0, 1) := by decide +kernel
theorem dX8_one_1 : decode cX8_one 1 = .ok (.getfield 52, 3) := by decide +kernel
theorem dX8_one_4 : decode cX8_one 4 = .ok (.istore_n 2, 1) := by decide +kernel
theorem dX8_one_5 : decode cX8_one 5 = .ok (.iload_n 2, 1) := by decide +kernel
theorem dX8_one_6 : decode cX8_one 6 = .ok (.bipush 36, 2) := by decide +kernel
theorem dX8_one_8 : decode cX8_one 8 = .ok (.if_icmp .ne 49, 3) := by decide +kernel
theorem dX8_one_11 : decode cX8_one 11 = .ok (.aload_n 0, 1) := by decide +kernel
theorem dX8_one_12 : decode cX8_one 12 = .ok (.getfield 28, 3) := by decide +kernel
theorem dX8_one_15 : decode cX8_one 15 = .ok (.aload_n 0, 1) := by decide +kernel
theorem dX8_one_16 : decode cX8_one 16 = .ok (.getfield 49, 3) := by decide +kernel
theorem dX8_one_19 : decode cX8_one 19 = .ok (.iaload, 1) := by decide +kernel
theorem dX8_one_20 : decode cX8_one 20 = .ok (.sipush 9999, 3) := by decide +kernel
theorem dX8_one_23 : decode cX8_one 23 = .ok (.if_icmp .le 8, 3) := by decide +kernel
theorem dX8_one_26 : decode cX8_one 26 = .ok (.aload_n 0, 1) := by decide +kernel
theorem dX8_one_27 : decode cX8_one 27 = .ok (.iconst 2, 1) := by decide +kernel
theorem dX8_one_28 : decode cX8_one 28 = .ok (.invokevirtual 95, 3) := by decide +kernel
theorem dX8_one_31 : decode cX8_one 31 = .ok (.aload_n 0, 1) := by decide +kernel
theorem dX8_one_32 : decode cX8_one 32 = .ok (.getfield 31, 3) := by decide +kernel
theorem dX8_one_35 : decode cX8_one 35 = .ok (.bipush 100, 2) := by decide +kernel
theorem dX8_one_37 : decode cX8_one 37 = .ok (.aload_n 0, 1) := by decide +kernel
theorem dX8_one_38 : decode cX8_one 38 = .ok (.getfield 28, 3) := by decide +kernel
theorem dX8_one_41 : decode cX8_one 41 = .ok (.aload_n 0, 1) := by decide +kernel
theorem dX8_one_42 : decode cX8_one 42 = .ok (.getfield 49, 3) := by decide +kernel
theorem dX8_one_45 : decode cX8_one 45 = .ok (.iaload, 1) := by decide +kernel
theorem dX8_one_46 : decode cX8_one 46 = .ok (.iadd, 1) := by decide +kernel
theorem dX8_one_47 : decode cX8_one 47 = .ok (.invokevirtual 101, 3) := by decide +kernel
theorem dX8_one_50 : decode cX8_one 50 = .ok (.aload_n 0, 1) := by decide +kernel
theorem dX8_one_51 : decode cX8_one 51 = .ok (.invokevirtual 92, 3) := by decide +kernel
theorem dX8_one_54 : decode cX8_one 54 = .ok (.goto 66, 3) := by decide +kernel
theorem dX8_one_57 : decode cX8_one 57 = .ok (.iload_n 2, 1) := by decide +kernel
theorem dX8_one_58 : decode cX8_one 58 = .ok (.ifCond .lt 24, 3) := by decide +kernel
theorem dX8_one_61 : decode cX8_one 61 = .ok (.iload_n 2, 1) := by decide +kernel
theorem dX8_one_62 : decode cX8_one 62 = .ok (.bipush 14, 2) := by decide +kernel
theorem dX8_one_64 : decode cX8_one 64 = .ok (.if_icmp .ge 18, 3) := by decide +kernel
theorem dX8_one_67 : decode cX8_one 67 = .ok (.aload_n 0, 1) := by decide +kernel
theorem dX8_one_68 : decode cX8_one 68 = .ok (.getfield 31, 3) := by decide +kernel
theorem dX8_one_71 : decode cX8_one 71 = .ok (.iload_n 2, 1) := by decide +kernel
theorem dX8_one_72 : decode cX8_one 72 = .ok (.invokevirtual 101, 3) := by decide +kernel
theorem dX8_one_75 : decode cX8_one 75 = .ok (.aload_n 0, 1) := by decide +kernel
theorem dX8_one_76 : decode cX8_one 76 = .ok (.invokevirtual 92, 3) := by decide +kernel
theorem dX8_one_79 : decode cX8_one 79 = .ok (.goto 41, 3) := by decide +kernel
theorem dX8_one_82 : decode cX8_one 82 = .ok (.iload_n 2, 1) := by decide +kernel
theorem dX8_one_83 : decode cX8_one 83 = .ok (.bipush 29, 2) := by decide +kernel
theorem dX8_one_85 : decode cX8_one 85 = .ok (.if_icmp .eq 21, 3) := by decide +kernel
theorem dX8_one_88 : decode cX8_one 88 = .ok (.iload_n 2, 1) := by decide +kernel
theorem dX8_one_89 : decode cX8_one 89 = .ok (.bipush 32, 2) := by decide +kernel
theorem dX8_one_91 : decode cX8_one 91 = .ok (.if_icmp .eq 15, 3) := by decide +kernel
theorem dX8_one_94 : decode cX8_one 94 = .ok (.iload_n 2, 1) := by decide +kernel
theorem dX8_one_95 : decode cX8_one 95 = .ok (.bipush 20, 2) := by decide +kernel
theorem dX8_one_97 : decode cX8_one 97 = .ok (.if_icmp .eq 9, 3) := by decide +kernel
theorem dX8_one_100 : decode cX8_one 100 = .ok (.iload_n 2, 1) := by decide +kernel
theorem dX8_one_101 : decode cX8_one 101 = .ok (.bipush 21, 2) := by decide +kernel
theorem dX8_one_103 : decode cX8_one 103 = .ok (.if_icmp .ne 12, 3) := by decide +kernel
theorem dX8_one_106 : decode cX8_one 106 = .ok (.aload_n 0, 1) := by decide +kernel
theorem dX8_one_107 : decode cX8_one 107 = .ok (.iload_n 2, 1) := by decide +kernel
theorem dX8_one_108 : decode cX8_one 108 = .ok (.iload_n 1, 1) := by decide +kernel
theorem dX8_one_109 : decode cX8_one 109 = .ok (.invokevirtual 128, 3) := by decide +kernel
theorem dX8_one_112 : decode cX8_one 112 = .ok (.goto 8, 3) := by decide +kernel
theorem dX8_one_115 : decode cX8_one 115 = .ok (.aload_n 0, 1) := by decide +kernel
theorem dX8_one_116 : decode cX8_one 116 = .ok (.iconst 1, 1) := by decide +kernel
theorem dX8_one_117 : decode cX8_one 117 = .ok (.invokevirtual 95, 3) := by decide +kernel
theorem dX8_one_120 : decode cX8_one 120 = .ok (.return_, 1) := by decide +kernel
theorem dX8_around_0 : decode cX8_around 0 = .ok (.iload_n 1, 1) := by decide +kernel
theorem dX8_around_1 : decode cX8_around 1 = .ok (.bipush 20, 2) := by decide +kernel
theorem dX8_around_3 : decode cX8_around 3 = .ok (.if_icmp .eq 9, 3) := by decide +kernel
theorem dX8_around_6 : decode cX8_around 6 = .ok (.iload_n 1, 1) := by decide +kernel
theorem dX8_around_7 : decode cX8_around 7 = .ok (.bipush 21, 2) := by decide +kernel
theorem dX8_around_9 : decode cX8_around 9 = .ok (.if_icmp .ne 21, 3) := by decide +kernel
theorem dX8_around_12 : decode cX8_around 12 = .ok (.aload_n 0, 1) := by decide +kernel
theorem dX8_around_13 : decode cX8_around 13 = .ok (.invokevirtual 92, 3) := by decide +kernel
theorem dX8_around_16 : decode cX8_around 16 = .ok (.aload_n 0, 1) := by decide +kernel
theorem dX8_around_17 : decode cX8_around 17 = .ok (.getfield 52, 3) := by decide +kernel
theorem dX8_around_20 : decode cX8_around 20 = .ok (.bipush 32, 2) := by decide +kernel
theorem dX8_around_22 : decode cX8_around 22 = .ok (.if_icmp .eq 8, 3) := by decide +kernel
theorem dX8_around_25 : decode cX8_around 25 = .ok (.aload_n 0, 1) := by decide +kernel
theorem dX8_around_26 : decode cX8_around 26 = .ok (.iconst 1, 1) := by decide +kernel
theorem dX8_around_27 : decode cX8_around 27 = .ok (.invokevirtual 95, 3) := by decide +kernel
theorem dX8_around_30 : decode cX8_around 30 = .ok (.iload_n 2, 1) := by decide +kernel
theorem dX8_around_31 : decode cX8_around 31 = .ok (.bipush 8, 2) := by decide +kernel
theorem dX8_around_33 : decode cX8_around 33 = .ok (.if_icmp .lt 8, 3) := by decide +kernel
theorem dX8_around_36 : decode cX8_around 36 = .ok (.aload_n 0, 1) := by decide +kernel
theorem dX8_around_37 : decode cX8_around 37 = .ok (.iconst 3, 1) := by decide +kernel
theorem dX8_around_38 : decode cX8_around 38 = .ok (.invokevirtual 95, 3) := by decide +kernel
theorem dX8_around_41 : decode cX8_around 41 = .ok (.aload_n 0, 1) := by decide +kernel
theorem dX8_around_42 : decode cX8_around 42 = .ok (.getfield 52, 3) := by decide +kernel
theorem dX8_around_45 : decode cX8_around 45 = .ok (.bipush 39, 2) := by decide +kernel
theorem dX8_around_47 : decode cX8_around 47 = .ok (.if_icmp .ne 4, 3) := by decide +kernel
theorem dX8_around_50 : decode cX8_around 50 = .ok (.return_, 1) := by decide +kernel
theorem dX8_around_51 : decode cX8_around 51 = .ok (.aload_n 0, 1) := by decide +kernel
theorem dX8_around_52 : decode cX8_around 52 = .ok (.invokevirtual 92, 3) := by decide +kernel
theorem dX8_around_55 : decode cX8_around 55 = .ok (.iload_n 1, 1) := by decide +kernel
theorem dX8_around_56 : decode cX8_around 56 = .ok (.bipush 29, 2) := by decide +kernel
theorem dX8_around_58 : decode cX8_around 58 = .ok (.if_icmp .ne 20, 3) := by decide +kernel
theorem dX8_around_61 : decode cX8_around 61 = .ok (.aload_n 0, 1) := by decide +kernel
theorem dX8_around_62 : decode cX8_around 62 = .ok (.iload_n 2, 1) := by decide +kernel
theorem dX8_around_63 : decode cX8_around 63 = .ok (.iconst 1, 1) := by decide +kernel
theorem dX8_around_64 : decode cX8_around 64 = .ok (.iadd, 1) := by decide +kernel
theorem dX8_around_65 : decode cX8_around 65 = .ok (.invokevirtual 125, 3) := by decide +kernel
theorem dX8_around_68 : decode cX8_around 68 = .ok (.aload_n 0, 1) := by decide +kernel
theorem dX8_around_69 : decode cX8_around 69 = .ok (.getfield 31, 3) := by decide +kernel
theorem dX8_around_72 : decode cX8_around 72 = .ok (.bipush 40, 2) := by decide +kernel
theorem dX8_around_74 : decode cX8_around 74 = .ok (.invokevirtual 101, 3) := by decide +kernel
theorem dX8_around_77 : decode cX8_around 77 = .ok (.return_, 1) := by decide +kernel
theorem dX8_around_78 : decode cX8_around 78 = .ok (.aload_n 0, 1) := by decide +kernel
theorem dX8_around_79 : decode cX8_around 79 = .ok (.iload_n 2, 1) := by decide +kernel
theorem dX8_around_80 : decode cX8_around 80 = .ok (.iconst 1, 1) := by decide +kernel
theorem dX8_around_81 : decode cX8_around 81 = .ok (.iadd, 1) := by decide +kernel
theorem dX8_around_82 : decode cX8_around 82 = .ok (.invokevirtual 98, 3) := by decide +kernel
theorem dX8_around_85 : decode cX8_around 85 = .ok (.iload_n 1, 1) := by decide +kernel
theorem dX8_around_86 : decode cX8_around 86 = .ok (.bipush 32, 2) := by decide +kernel
theorem dX8_around_88 : decode cX8_around 88 = .ok (.if_icmp .eq 24, 3) := by decide +kernel
theorem dX8_around_91 : decode cX8_around 91 = .ok (.aload_n 0, 1) := by decide +kernel
theorem dX8_around_92 : decode cX8_around 92 = .ok (.bipush 34, 2) := by decide +kernel
theorem dX8_around_94 : decode cX8_around 94 = .ok (.invokevirtual 110, 3) := by decide +kernel
theorem dX8_around_97 : decode cX8_around 97 = .ok (.aload_n 0, 1) := by decide +kernel
theorem dX8_around_98 : decode cX8_around 98 = .ok (.iload_n 2, 1) := by decide +kernel
theorem dX8_around_99 : decode cX8_around 99 = .ok (.iconst 1, 1) := by decide +kernel
theorem dX8_around_100 : decode cX8_around 100 = .ok (.iadd, 1) := by decide +kernel
theorem dX8_around_101 : decode cX8_around 101 = .ok (.invokevirtual 98, 3) := by decide +kernel
theorem dX8_around_104 : decode cX8_around 104 = .ok (.aload_n 0, 1) := by decide +kernel
theorem dX8_around_105 : decode cX8_around 105 = .ok (.getfield 31, 3) := by decide +kernel
theorem dX8_around_108 : decode cX8_around 108 = .ok (.iload_n 1, 1) := by decide +kernel
theorem dX8_around_109 : decode cX8_around 109 = .ok (.invokevirtual 101, 3) := by decide +kernel
theorem dX8_around_112 : decode cX8_around 112 = .ok (.aload_n 0, 1) := by decide +kernel
theorem dX8_around_113 : decode cX8_around 113 = .ok (.bipush 33, 2) := by decide +kernel
theorem dX8_around_115 : decode cX8_around 115 = .ok (.invokevirtual 110, 3) := by decide +kernel
theorem dX8_around_118 : decode cX8_around 118 = .ok (.return_, 1) := by decide +kernel
theorem dX9_init_0 : decode cX9_init 0 = .ok (.aload_n 0, 1) := by decide +kernel
theorem dX9_init_1 : decode cX9_init 1 = .ok (.invokespecial 1, 3) := by decide +kernel
theorem dX9_init_4 : decode cX9_init 4 = .ok (.aload_n 0, 1) := by decide +kernel
theorem dX9_init_5 : decode cX9_init 5 = .ok (.sipush 300, 3) := by decide +kernel
theorem dX9_init_8 : decode cX9_init 8 = .ok (.newarray .int, 2) := by decide +kernel
theorem dX9_init_10 : decode cX9_init 10 = .ok (.putfield 9, 3) := by decide +kernel
theorem dX9_init_13 : decode cX9_init 13 = .ok (.return_, 1) := by decide +kernel
theorem dX9_clear_0 : decode cX9_clear 0 = .ok (.aload_n 0, 1) := by decide +kernel
theorem dX9_clear_1 : decode cX9_clear 1 = .ok (.iconst 0, 1) := by decide +kernel
theorem dX9_clear_2 : decode cX9_clear 2 = .ok (.putfield 15, 3) := by decide +kernel
theorem dX9_clear_5 : decode cX9_clear 5 = .ok (.aload_n 0, 1) := by decide +kernel
theorem dX9_clear_6 : decode cX9_clear 6 = .ok (.iconst 5, 1) := by decide +kernel
theorem dX9_clear_7 : decode cX9_clear 7 = .ok (.putfield 19, 3) := by decide +kernel
theorem dX9_clear_10 : decode cX9_clear 10 = .ok (.aload_n 0, 1) := by decide +kernel
theorem dX9_clear_11 : decode cX9_clear 11 = .ok (.bipush 50, 2) := by decide +kernel
theorem dX9_clear_13 : decode cX9_clear 13 = .ok (.putfield 22, 3) := by decide +kernel
theorem dX9_clear_16 : decode cX9_clear 16 = .ok (.return_, 1) := by decide +kernel
theorem dX9_put_0 : decode cX9_put 0 = .ok (.aload_n 0, 1) := by decide +kernel
theorem dX9_put_1 : decode cX9_put 1 = .ok (.getfield 15, 3) := by decide +kernel
theorem dX9_put_4 : decode cX9_put 4 = .ok (.aload_n 0, 1) := by decide +kernel
theorem dX9_put_5 : decode cX9_put 5 = .ok (.getfield 9, 3) := by decide +kernel
theorem dX9_put_8 : decode cX9_put 8 = .ok (.arraylength, 1) := by decide +kernel
theorem dX9_put_9 : decode cX9_put 9 = .ok (.if_icmp .ge 23, 3) := by decide +kernel
theorem dX9_put_12 : decode cX9_put 12 = .ok (.aload_n 0, 1) := by decide +kernel
theorem dX9_put_13 : decode cX9_put 13 = .ok (.getfield 9, 3) := by decide +kernel
theorem dX9_put_16 : decode cX9_put 16 = .ok (.aload_n 0, 1) := by decide +kernel
theorem dX9_put_17 : decode cX9_put 17 = .ok (.getfield 15, 3) := by decide +kernel
theorem dX9_put_20 : decode cX9_put 20 = .ok (.iload_n 1, 1) := by decide +kernel
theorem dX9_put_21 : decode cX9_put 21 = .ok (.iastore, 1) := by decide +kernel
theorem dX9_put_22 : decode cX9_put 22 = .ok (.aload_n 0, 1) := by decide +kernel
theorem dX9_put_23 : decode cX9_put 23 = .ok (.dup, 1) := by decide +kernel
theorem dX9_put_24 : decode cX9_put 24 = .ok (.getfield 15, 3) := by decide +kernel
theorem dX9_put_27 : decode cX9_put 27 = .ok (.iconst 1, 1) := by decide +kernel
theorem dX9_put_28 : decode cX9_put 28 = .ok (.iadd, 1) := by decide +kernel
theorem dX9_put_29 : decode cX9_put 29 = .ok (.putfield 15, 3) := by decide +kernel
theorem dX9_put_32 : decode cX9_put 32 = .ok (.return_, 1) := by decide +kernel
theorem dX10_init_0 : decode cX10_init 0 = .ok (.aload_n 0, 1) := by decide +kernel
theorem dX10_init_1 : decode cX10_init 1 = .ok (.invokespecial 3, 3) := by decide +kernel
theorem dX10_init_4 : decode cX10_init 4 = .ok (.aload_n 0, 1) := by decide +kernel
theorem dX10_init_5 : decode cX10_init 5 = .ok (.bipush 16, 2) := by decide +kernel
theorem dX10_init_7 : decode cX10_init 7 = .ok (.newarray .int, 2) := by decide +kernel
theorem dX10_init_9 : decode cX10_init 9 = .ok (.putfield 9, 3) := by decide +kernel
theorem dX10_init_12 : decode cX10_init 12 = .ok (.aload_n 0, 1) := by decide +kernel
theorem dX10_init_13 : decode cX10_init 13 = .ok (.bipush 16, 2) := by decide +kernel
theorem dX10_init_15 : decode cX10_init 15 = .ok (.newarray .int, 2) := by decide +kernel
theorem dX10_init_17 : decode cX10_init 17 = .ok (.putfield 15, 3) := by decide +kernel
theorem dX10_init_20 : decode cX10_init 20 = .ok (.aload_n 0, 1) := by decide +kernel
theorem dX10_init_21 : decode cX10_init 21 = .ok (.sipush 976, 3) := by decide +kernel
theorem dX10_init_24 : decode cX10_init 24 = .ok (.newarray .int, 2) := by decide +kernel
theorem dX10_init_26 : decode cX10_init 26 = .ok (.putfield 18, 3) := by decide +kernel
theorem dX10_init_29 : decode cX10_init 29 = .ok (.aload_n 0, 1) := by decide +kernel
theorem dX10_init_30 : decode cX10_init 30 = .ok (.sipush 976, 3) := by decide +kernel
theorem dX10_init_33 : decode cX10_init 33 = .ok (.newarray .int, 2) := by decide +kernel
theorem dX10_init_35 : decode cX10_init 35 = .ok (.putfield 21, 3) := by decide +kernel
theorem dX10_init_38 : decode cX10_init 38 = .ok (.aload_n 0, 1) := by decide +kernel
theorem dX10_init_39 : decode cX10_init 39 = .ok (.bipush 16, 2) := by decide +kernel
theorem dX10_init_41 : decode cX10_init 41 = .ok (.newarray .int, 2) := by decide +kernel
theorem dX10_init_43 : decode cX10_init 43 = .ok (.putfield 24, 3) := by decide +kernel
theorem dX10_init_46 : decode cX10_init 46 = .ok (.aload_n 0, 1) := by decide +kernel
theorem dX10_init_47 : decode cX10_init 47 = .ok (.bipush 16, 2) := by decide +kernel
theorem dX10_init_49 : decode cX10_init 49 = .ok (.newarray .int, 2) := by decide +kernel
theorem dX10_init_51 : decode cX10_init 51 = .ok (.putfield 27, 3) := by decide +kernel
theorem dX10_init_54 : decode cX10_init 54 = .ok (.aload_n 0, 1) := by decide +kernel
theorem dX10_init_55 : decode cX10_init 55 = .ok (.bipush 16, 2) := by decide +kernel
theorem dX10_init_57 : decode cX10_init 57 = .ok (.newarray .int, 2) := by decide +kernel
theorem dX10_init_59 : decode cX10_init 59 = .ok (.putfield 30, 3) := by decide +kernel
theorem dX10_init_62 : decode cX10_init 62 = .ok (.aload_n 0, 1) := by decide +kernel
theorem dX10_init_63 : decode cX10_init 63 = .ok (.aload_n 1, 1) := by decide +kernel
theorem dX10_init_64 : decode cX10_init 64 = .ok (.putfield 33, 3) := by decide +kernel
theorem dX10_init_67 : decode cX10_init 67 = .ok (.aload_n 0, 1) := by decide +kernel
theorem dX10_init_68 : decode cX10_init 68 = .ok (.aload_n 2, 1) := by decide +kernel
theorem dX10_init_69 : decode cX10_init 69 = .ok (.putfield 37, 3) := by decide +kernel
theorem dX10_init_72 : decode cX10_init 72 = .ok (.aload_n 0, 1) := by decide +kernel
theorem dX10_init_73 : decode cX10_init 73 = .ok (.aload_n 3, 1) := by decide +kernel
theorem dX10_init_74 : decode cX10_init 74 = .ok (.putfield 41, 3) := by decide +kernel
theorem dX10_init_77 : decode cX10_init 77 = .ok (.return_, 1) := by decide +kernel
theorem dX10_in_0 : decode cX10_in 0 = .ok (.aload_n 0, 1) := by decide +kernel
theorem dX10_in_1 : decode cX10_in 1 = .ok (.getfield 41, 3) := by decide +kernel
theorem dX10_in_4 : decode cX10_in 4 = .ok (.bipush 6, 2) := by decide +kernel
theorem dX10_in_6 : decode cX10_in 6 = .ok (.iload_n 1, 1) := by decide +kernel
theorem dX10_in_7 : decode cX10_in 7 = .ok (.iload_n 2, 1) := by decide +kernel
theorem dX10_in_8 : decode cX10_in 8 = .ok (.iload_n 2, 1) := by decide +kernel
theorem dX10_in_9 : decode cX10_in 9 = .ok (.invokevirtual 45, 3) := by decide +kernel
theorem dX10_in_12 : decode cX10_in 12 = .ok (.ireturn, 1) := by decide +kernel
theorem dX10_livingAt_0 : decode cX10_livingAt 0 = .ok (.aload_n 0, 1) := by decide +kernel
theorem dX10_livingAt_1 : decode cX10_livingAt 1 = .ok (.getfield 41, 3) := by decide +kernel
theorem dX10_livingAt_4 : decode cX10_livingAt 4 = .ok (.bipush 6, 2) := by decide +kernel
theorem dX10_livingAt_6 : decode cX10_livingAt 6 = .ok (.iload_n 1, 1) := by decide +kernel
theorem dX10_livingAt_7 : decode cX10_livingAt 7 = .ok (.iload_n 2, 1) := by decide +kernel
theorem dX10_livingAt_8 : decode cX10_livingAt 8 = .ok (.aload_n 0, 1) := by decide +kernel
theorem dX10_livingAt_9 : decode cX10_livingAt 9 = .ok (.getfield 37, 3) := by decide +kernel
theorem dX10_livingAt_12 : decode cX10_livingAt 12 = .ok (.getfield 51, 3) := by decide +kernel
theorem dX10_livingAt_15 : decode cX10_livingAt 15 = .ok (.isub, 1) := by decide +kernel
theorem dX10_livingAt_16 : decode cX10_livingAt 16 = .ok (.iconst 1, 1) := by decide +kernel
theorem dX10_livingAt_17 : decode cX10_livingAt 17 = .ok (.iadd, 1) := by decide +kernel
theorem dX10_livingAt_18 : decode cX10_livingAt 18 = .ok (.iload_n 2, 1) := by decide +kernel
theorem dX10_livingAt_19 : decode cX10_livingAt 19 = .ok (.invokevirtual 45, 3) := by decide +kernel
theorem dX10_livingAt_22 : decode cX10_livingAt 22 = .ok (.ireturn, 1) := by decide +kernel
theorem dX10_peak_0 : decode cX10_peak 0 = .ok (.iconst (-1), 1) := by decide +kernel
theorem dX10_peak_1 : decode cX10_peak 1 = .ok (.istore_n 2, 1) := by decide +kernel
theorem dX10_peak_2 : decode cX10_peak 2 = .ok (.iconst 0, 1) := by decide +kernel
theorem dX10_peak_3 : decode cX10_peak 3 = .ok (.istore_n 3, 1) := by decide +kernel
theorem dX10_peak_4 : decode cX10_peak 4 = .ok (.iconst 0, 1) := by decide +kernel
theorem dX10_peak_5 : decode cX10_peak 5 = .ok (.istore 4, 2) := by decide +kernel
theorem dX10_peak_7 : decode cX10_peak 7 = .ok (.iload 4, 2) := by decide +kernel
theorem dX10_peak_9 : decode cX10_peak 9 = .ok (.aload_n 0, 1) := by decide +kernel
theorem dX10_peak_10 : decode cX10_peak 10 = .ok (.getfield 37, 3) := by decide +kernel
theorem dX10_peak_13 : decode cX10_peak 13 = .ok (.getfield 57, 3) := by decide +kernel
theorem dX10_peak_16 : decode cX10_peak 16 = .ok (.if_icmp .ge 30, 3) := by decide +kernel
theorem dX10_peak_19 : decode cX10_peak 19 = .ok (.aload_n 0, 1) := by decide +kernel
theorem dX10_peak_20 : decode cX10_peak 20 = .ok (.iload_n 1, 1) := by decide +kernel
theorem dX10_peak_21 : decode cX10_peak 21 = .ok (.iload 4, 2) := by decide +kernel
theorem dX10_peak_23 : decode cX10_peak 23 = .ok (.invokevirtual 60, 3) := by decide +kernel
theorem dX10_peak_26 : decode cX10_peak 26 = .ok (.istore 5, 2) := by decide +kernel
theorem dX10_peak_28 : decode cX10_peak 28 = .ok (.iload 5, 2) := by decide +kernel
theorem dX10_peak_30 : decode cX10_peak 30 = .ok (.iload_n 3, 1) := by decide +kernel
theorem dX10_peak_31 : decode cX10_peak 31 = .ok (.if_icmp .le 9, 3) := by decide +kernel
theorem dX10_peak_34 : decode cX10_peak 34 = .ok (.iload 5, 2) := by decide +kernel
theorem dX10_peak_36 : decode cX10_peak 36 = .ok (.istore_n 3, 1) := by decide +kernel
theorem dX10_peak_37 : decode cX10_peak 37 = .ok (.iload 4, 2) := by decide +kernel
theorem dX10_peak_39 : decode cX10_peak 39 = .ok (.istore_n 2, 1) := by decide +kernel
theorem dX10_peak_40 : decode cX10_peak 40 = .ok (.iinc 4 1, 3) := by decide +kernel
theorem dX10_peak_43 : decode cX10_peak 43 = .ok (.goto (-36), 3) := by decide +kernel
theorem dX10_peak_46 : decode cX10_peak 46 = .ok (.iload_n 2, 1) := by decide +kernel
theorem dX10_peak_47 : decode cX10_peak 47 = .ok (.ireturn, 1) := by decide +kernel
theorem dX10_slope_0 : decode cX10_slope 0 = .ok (.aload_n 0, 1) := by decide +kernel
theorem dX10_slope_1 : decode cX10_slope 1 = .ok (.iload_n 1, 1) := by decide +kernel
theorem dX10_slope_2 : decode cX10_slope 2 = .ok (.iload_n 2, 1) := by decide +kernel
theorem dX10_slope_3 : decode cX10_slope 3 = .ok (.invokevirtual 60, 3) := by decide +kernel
theorem dX10_slope_6 : decode cX10_slope 6 = .ok (.istore 4, 2) := by decide +kernel
theorem dX10_slope_8 : decode cX10_slope 8 = .ok (.iconst 0, 1) := by decide +kernel
theorem dX10_slope_9 : decode cX10_slope 9 = .ok (.istore 5, 2) := by decide +kernel
theorem dX10_slope_11 : decode cX10_slope 11 = .ok (.iload 5, 2) := by decide +kernel
theorem dX10_slope_13 : decode cX10_slope 13 = .ok (.bipush 61, 2) := by decide +kernel
theorem dX10_slope_15 : decode cX10_slope 15 = .ok (.if_icmp .ge 48, 3) := by decide +kernel
theorem dX10_slope_18 : decode cX10_slope 18 = .ok (.iload_n 2, 1) := by decide +kernel
theorem dX10_slope_19 : decode cX10_slope 19 = .ok (.iload 5, 2) := by decide +kernel
theorem dX10_slope_21 : decode cX10_slope 21 = .ok (.iconst 1, 1) := by decide +kernel
theorem dX10_slope_22 : decode cX10_slope 22 = .ok (.iadd, 1) := by decide +kernel
theorem dX10_slope_23 : decode cX10_slope 23 = .ok (.iload_n 3, 1) := by decide +kernel
theorem dX10_slope_24 : decode cX10_slope 24 = .ok (.imul, 1) := by decide +kernel
theorem dX10_slope_25 : decode cX10_slope 25 = .ok (.iadd, 1) := by decide +kernel
theorem dX10_slope_26 : decode cX10_slope 26 = .ok (.istore 6, 2) := by decide +kernel
theorem dX10_slope_28 : decode cX10_slope 28 = .ok (.aload_n 0, 1) := by decide +kernel
theorem dX10_slope_29 : decode cX10_slope 29 = .ok (.getfield 37, 3) := by decide +kernel
theorem dX10_slope_32 : decode cX10_slope 32 = .ok (.iload 6, 2) := by decide +kernel
theorem dX10_slope_34 : decode cX10_slope 34 = .ok (.invokevirtual 64, 3) := by decide +kernel
theorem dX10_slope_37 : decode cX10_slope 37 = .ok (.ifCond .eq 17, 3) := by decide +kernel
theorem dX10_slope_40 : decode cX10_slope 40 = .ok (.iconst 2, 1) := by decide +kernel
theorem dX10_slope_41 : decode cX10_slope 41 = .ok (.aload_n 0, 1) := by decide +kernel
theorem dX10_slope_42 : decode cX10_slope 42 = .ok (.iload_n 1, 1) := by decide +kernel
theorem dX10_slope_43 : decode cX10_slope 43 = .ok (.iload 6, 2) := by decide +kernel
theorem dX10_slope_45 : decode cX10_slope 45 = .ok (.invokevirtual 60, 3) := by decide +kernel
theorem dX10_slope_48 : decode cX10_slope 48 = .ok (.imul, 1) := by decide +kernel
theorem dX10_slope_49 : decode cX10_slope 49 = .ok (.iload 4, 2) := by decide +kernel
theorem dX10_slope_51 : decode cX10_slope 51 = .ok (.if_icmp .ge 6, 3) := by decide +kernel
theorem dX10_slope_54 : decode cX10_slope 54 = .ok (.iload 5, 2) := by decide +kernel
theorem dX10_slope_56 : decode cX10_slope 56 = .ok (.ireturn, 1) := by decide +kernel
theorem dX10_slope_57 : decode cX10_slope 57 = .ok (.iinc 5 1, 3) := by decide +kernel
theorem dX10_slope_60 : decode cX10_slope 60 = .ok (.goto (-49), 3) := by decide +kernel
theorem dX10_slope_63 : decode cX10_slope 63 = .ok (.bipush 61, 2) := by decide +kernel
theorem dX10_slope_65 : decode cX10_slope 65 = .ok (.ireturn, 1) := by decide +kernel
theorem dX10_pairs_0 : decode cX10_pairs 0 = .ok (.iconst 0, 1) := by decide +kernel
theorem dX10_pairs_1 : decode cX10_pairs 1 = .ok (.istore_n 2, 1) := by decide +kernel
theorem dX10_pairs_2 : decode cX10_pairs 2 = .ok (.iconst 0, 1) := by decide +kernel
theorem dX10_pairs_3 : decode cX10_pairs 3 = .ok (.istore_n 3, 1) := by decide +kernel
theorem dX10_pairs_4 : decode cX10_pairs 4 = .ok (.iload_n 3, 1) := by decide +kernel
theorem dX10_pairs_5 : decode cX10_pairs 5 = .ok (.aload_n 0, 1) := by decide +kernel
theorem dX10_pairs_6 : decode cX10_pairs 6 = .ok (.getfield 33, 3) := by decide +kernel
theorem dX10_pairs_9 : decode cX10_pairs 9 = .ok (.getfield 68, 3) := by decide +kernel
theorem dX10_pairs_12 : decode cX10_pairs 12 = .ok (.if_icmp .ge 152, 3) := by decide +kernel
theorem dX10_pairs_15 : decode cX10_pairs 15 = .ok (.aload_n 0, 1) := by decide +kernel
theorem dX10_pairs_16 : decode cX10_pairs 16 = .ok (.iload_n 3, 1) := by decide +kernel
theorem dX10_pairs_17 : decode cX10_pairs 17 = .ok (.invokevirtual 73, 3) := by decide +kernel
theorem dX10_pairs_20 : decode cX10_pairs 20 = .ok (.istore 4, 2) := by decide +kernel
theorem dX10_pairs_22 : decode cX10_pairs 22 = .ok (.aload_n 0, 1) := by decide +kernel
theorem dX10_pairs_23 : decode cX10_pairs 23 = .ok (.getfield 9, 3) := by decide +kernel
theorem dX10_pairs_26 : decode cX10_pairs 26 = .ok (.iload_n 3, 1) := by decide +kernel
theorem dX10_pairs_27 : decode cX10_pairs 27 = .ok (.iload 4, 2) := by decide +kernel
theorem dX10_pairs_29 : decode cX10_pairs 29 = .ok (.iconst (-1), 1) := by decide +kernel
theorem dX10_pairs_30 : decode cX10_pairs 30 = .ok (.if_icmp .ne 7, 3) := by decide +kernel
theorem dX10_pairs_33 : decode cX10_pairs 33 = .ok (.iconst (-1), 1) := by decide +kernel
theorem dX10_pairs_34 : decode cX10_pairs 34 = .ok (.goto 11, 3) := by decide +kernel
theorem dX10_pairs_37 : decode cX10_pairs 37 = .ok (.aload_n 0, 1) := by decide +kernel
theorem dX10_pairs_38 : decode cX10_pairs 38 = .ok (.iload_n 3, 1) := by decide +kernel
theorem dX10_pairs_39 : decode cX10_pairs 39 = .ok (.iload 4, 2) := by decide +kernel
theorem dX10_pairs_41 : decode cX10_pairs 41 = .ok (.iconst (-1), 1) := by decide +kernel
theorem dX10_pairs_42 : decode cX10_pairs 42 = .ok (.invokevirtual 77, 3) := by decide +kernel
theorem dX10_pairs_45 : decode cX10_pairs 45 = .ok (.iastore, 1) := by decide +kernel
theorem dX10_pairs_46 : decode cX10_pairs 46 = .ok (.aload_n 0, 1) := by decide +kernel
theorem dX10_pairs_47 : decode cX10_pairs 47 = .ok (.getfield 15, 3) := by decide +kernel
theorem dX10_pairs_50 : decode cX10_pairs 50 = .ok (.iload_n 3, 1) := by decide +kernel
theorem dX10_pairs_51 : decode cX10_pairs 51 = .ok (.iload 4, 2) := by decide +kernel
theorem dX10_pairs_53 : decode cX10_pairs 53 = .ok (.iconst (-1), 1) := by decide +kernel
theorem dX10_pairs_54 : decode cX10_pairs 54 = .ok (.if_icmp .ne 7, 3) := by decide +kernel
theorem dX10_pairs_57 : decode cX10_pairs 57 = .ok (.iconst (-1), 1) := by decide +kernel
theorem dX10_pairs_58 : decode cX10_pairs 58 = .ok (.goto 11, 3) := by decide +kernel
theorem dX10_pairs_61 : decode cX10_pairs 61 = .ok (.aload_n 0, 1) := by decide +kernel
theorem dX10_pairs_62 : decode cX10_pairs 62 = .ok (.iload_n 3, 1) := by decide +kernel
theorem dX10_pairs_63 : decode cX10_pairs 63 = .ok (.iload 4, 2) := by decide +kernel
theorem dX10_pairs_65 : decode cX10_pairs 65 = .ok (.iconst 1, 1) := by decide +kernel
theorem dX10_pairs_66 : decode cX10_pairs 66 = .ok (.invokevirtual 77, 3) := by decide +kernel
theorem dX10_pairs_69 : decode cX10_pairs 69 = .ok (.iastore, 1) := by decide +kernel
theorem dX10_pairs_70 : decode cX10_pairs 70 = .ok (.iconst 0, 1) := by decide +kernel
theorem dX10_pairs_71 : decode cX10_pairs 71 = .ok (.istore 5, 2) := by decide +kernel
theorem dX10_pairs_73 : decode cX10_pairs 73 = .ok (.iload 5, 2) := by decide +kernel
theorem dX10_pairs_75 : decode cX10_pairs 75 = .ok (.iload_n 3, 1) := by decide +kernel
theorem dX10_pairs_76 : decode cX10_pairs 76 = .ok (.if_icmp .ge 82, 3) := by decide +kernel
theorem dX10_pairs_79 : decode cX10_pairs 79 = .ok (.iload 4, 2) := by decide +kernel
theorem dX10_pairs_81 : decode cX10_pairs 81 = .ok (.iconst (-1), 1) := by decide +kernel
theorem dX10_pairs_82 : decode cX10_pairs 82 = .ok (.if_icmp .eq 76, 3) := by decide +kernel
theorem dX10_pairs_85 : decode cX10_pairs 85 = .ok (.aload_n 0, 1) := by decide +kernel
theorem dX10_pairs_86 : decode cX10_pairs 86 = .ok (.getfield 9, 3) := by decide +kernel
theorem dX10_pairs_89 : decode cX10_pairs 89 = .ok (.iload_n 3, 1) := by decide +kernel
theorem dX10_pairs_90 : decode cX10_pairs 90 = .ok (.iaload, 1) := by decide +kernel
theorem dX10_pairs_91 : decode cX10_pairs 91 = .ok (.aload_n 0, 1) := by decide +kernel
theorem dX10_pairs_92 : decode cX10_pairs 92 = .ok (.getfield 9, 3) := by decide +kernel
theorem dX10_pairs_95 : decode cX10_pairs 95 = .ok (.iload 5, 2) := by decide +kernel
theorem dX10_pairs_97 : decode cX10_pairs 97 = .ok (.iaload, 1) := by decide +kernel
theorem dX10_pairs_98 : decode cX10_pairs 98 = .ok (.invokestatic 81, 3) := by decide +kernel
theorem dX10_pairs_101 : decode cX10_pairs 101 = .ok (.istore 6, 2) := by decide +kernel
theorem dX10_pairs_103 : decode cX10_pairs 103 = .ok (.aload_n 0, 1) := by decide +kernel
theorem dX10_pairs_104 : decode cX10_pairs 104 = .ok (.getfield 15, 3) := by decide +kernel
theorem dX10_pairs_107 : decode cX10_pairs 107 = .ok (.iload_n 3, 1) := by decide +kernel
theorem dX10_pairs_108 : decode cX10_pairs 108 = .ok (.iaload, 1) := by decide +kernel
theorem dX10_pairs_109 : decode cX10_pairs 109 = .ok (.aload_n 0, 1) := by decide +kernel
theorem dX10_pairs_110 : decode cX10_pairs 110 = .ok (.getfield 15, 3) := by decide +kernel
theorem dX10_pairs_113 : decode cX10_pairs 113 = .ok (.iload 5, 2) := by decide +kernel
theorem dX10_pairs_115 : decode cX10_pairs 115 = .ok (.iaload, 1) := by decide +kernel
theorem dX10_pairs_116 : decode cX10_pairs 116 = .ok (.invokestatic 81, 3) := by decide +kernel
theorem dX10_pairs_119 : decode cX10_pairs 119 = .ok (.istore 7, 2) := by decide +kernel
theorem dX10_pairs_121 : decode cX10_pairs 121 = .ok (.aload_n 0, 1) := by decide +kernel
theorem dX10_pairs_122 : decode cX10_pairs 122 = .ok (.getfield 9, 3) := by decide +kernel
theorem dX10_pairs_125 : decode cX10_pairs 125 = .ok (.iload 5, 2) := by decide +kernel
theorem dX10_pairs_127 : decode cX10_pairs 127 = .ok (.iaload, 1) := by decide +kernel
theorem dX10_pairs_128 : decode cX10_pairs 128 = .ok (.iconst (-1), 1) := by decide +kernel
theorem dX10_pairs_129 : decode cX10_pairs 129 = .ok (.if_icmp .eq 23, 3) := by decide +kernel
theorem dX10_pairs_132 : decode cX10_pairs 132 = .ok (.iload 6, 2) := by decide +kernel
theorem dX10_pairs_134 : decode cX10_pairs 134 = .ok (.iload 7, 2) := by decide +kernel
theorem dX10_pairs_136 : decode cX10_pairs 136 = .ok (.imul, 1) := by decide +kernel
theorem dX10_pairs_137 : decode cX10_pairs 137 = .ok (.iload_n 1, 1) := by decide +kernel
theorem dX10_pairs_138 : decode cX10_pairs 138 = .ok (.ifCond .eq 7, 3) := by decide +kernel
theorem dX10_pairs_141 : decode cX10_pairs 141 = .ok (.iconst 1, 1) := by decide +kernel
theorem dX10_pairs_142 : decode cX10_pairs 142 = .ok (.goto 4, 3) := by decide +kernel
theorem dX10_pairs_145 : decode cX10_pairs 145 = .ok (.iconst (-1), 1) := by decide +kernel
theorem dX10_pairs_146 : decode cX10_pairs 146 = .ok (.if_icmp .ne 6, 3) := by decide +kernel
theorem dX10_pairs_149 : decode cX10_pairs 149 = .ok (.iinc 2 1, 3) := by decide +kernel
theorem dX10_pairs_152 : decode cX10_pairs 152 = .ok (.iinc 5 1, 3) := by decide +kernel
theorem dX10_pairs_155 : decode cX10_pairs 155 = .ok (.goto (-82), 3) := by decide +kernel
theorem dX10_pairs_158 : decode cX10_pairs 158 = .ok (.iinc 3 1, 3) := by decide +kernel
theorem dX10_pairs_161 : decode cX10_pairs 161 = .ok (.goto (-157), 3) := by decide +kernel
theorem dX10_pairs_164 : decode cX10_pairs 164 = .ok (.iload_n 2, 1) := by decide +kernel
theorem dX10_pairs_165 : decode cX10_pairs 165 = .ok (.ireturn, 1) := by decide +kernel
theorem dX10_findThousandths_0 : decode cX10_findThousandths 0 = .ok (.iconst 0, 1) := by decide +kernel
theorem dX10_findThousandths_1 : decode cX10_findThousandths 1 = .ok (.istore_n 1, 1) := by decide +kernel
theorem dX10_findThousandths_2 : decode cX10_findThousandths 2 = .ok (.iload_n 1, 1) := by decide +kernel
theorem dX10_findThousandths_3 : decode cX10_findThousandths 3 = .ok (.aload_n 0, 1) := by decide +kernel
theorem dX10_findThousandths_4 : decode cX10_findThousandths 4 = .ok (.getfield 37, 3) := by decide +kernel
theorem dX10_findThousandths_7 : decode cX10_findThousandths 7 = .ok (.getfield 57, 3) := by decide +kernel
theorem dX10_findThousandths_10 : decode cX10_findThousandths 10 = .ok (.if_icmp .ge 122, 3) := by decide +kernel
theorem dX10_findThousandths_13 : decode cX10_findThousandths 13 = .ok (.aload_n 0, 1) := by decide +kernel
theorem dX10_findThousandths_14 : decode cX10_findThousandths 14 = .ok (.getfield 41, 3) := by decide +kernel
theorem dX10_findThousandths_17 : decode cX10_findThousandths 17 = .ok (.iconst 3, 1) := by decide +kernel
theorem dX10_findThousandths_18 : decode cX10_findThousandths 18 = .ok (.iload_n 1, 1) := by decide +kernel
theorem dX10_findThousandths_19 : decode cX10_findThousandths 19 = .ok (.iload_n 1, 1) := by decide +kernel
theorem dX10_findThousandths_20 : decode cX10_findThousandths 20 = .ok (.invokevirtual 86, 3) := by decide +kernel
theorem dX10_findThousandths_23 : decode cX10_findThousandths 23 = .ok (.istore_n 2, 1) := by decide +kernel
theorem dX10_findThousandths_24 : decode cX10_findThousandths 24 = .ok (.aload_n 0, 1) := by decide +kernel
theorem dX10_findThousandths_25 : decode cX10_findThousandths 25 = .ok (.getfield 41, 3) := by decide +kernel
theorem dX10_findThousandths_28 : decode cX10_findThousandths 28 = .ok (.iconst 4, 1) := by decide +kernel
theorem dX10_findThousandths_29 : decode cX10_findThousandths 29 = .ok (.iload_n 1, 1) := by decide +kernel
theorem dX10_findThousandths_30 : decode cX10_findThousandths 30 = .ok (.iload_n 1, 1) := by decide +kernel
theorem dX10_findThousandths_31 : decode cX10_findThousandths 31 = .ok (.invokevirtual 86, 3) := by decide +kernel
theorem dX10_findThousandths_34 : decode cX10_findThousandths 34 = .ok (.istore_n 3, 1) := by decide +kernel
theorem dX10_findThousandths_35 : decode cX10_findThousandths 35 = .ok (.iconst 0, 1) := by decide +kernel
theorem dX10_findThousandths_36 : decode cX10_findThousandths 36 = .ok (.istore 4, 2) := by decide +kernel
theorem dX10_findThousandths_38 : decode cX10_findThousandths 38 = .ok (.iload 4, 2) := by decide +kernel
theorem dX10_findThousandths_40 : decode cX10_findThousandths 40 = .ok (.bipush 16, 2) := by decide +kernel
theorem dX10_findThousandths_42 : decode cX10_findThousandths 42 = .ok (.if_icmp .ge 84, 3) := by decide +kernel
theorem dX10_findThousandths_45 : decode cX10_findThousandths 45 = .ok (.iload_n 1, 1) := by decide +kernel
theorem dX10_findThousandths_46 : decode cX10_findThousandths 46 = .ok (.bipush 16, 2) := by decide +kernel
theorem dX10_findThousandths_48 : decode cX10_findThousandths 48 = .ok (.imul, 1) := by decide +kernel
theorem dX10_findThousandths_49 : decode cX10_findThousandths 49 = .ok (.iload 4, 2) := by decide +kernel
theorem dX10_findThousandths_51 : decode cX10_findThousandths 51 = .ok (.iadd, 1) := by decide +kernel
theorem dX10_findThousandths_52 : decode cX10_findThousandths 52 = .ok (.istore 5, 2) := by decide +kernel
theorem dX10_findThousandths_54 : decode cX10_findThousandths 54 = .ok (.aload_n 0, 1) := by decide +kernel
theorem dX10_findThousandths_55 : decode cX10_findThousandths 55 = .ok (.getfield 18, 3) := by decide +kernel
theorem dX10_findThousandths_58 : decode cX10_findThousandths 58 = .ok (.iload 5, 2) := by decide +kernel
theorem dX10_findThousandths_60 : decode cX10_findThousandths 60 = .ok (.iload_n 2, 1) := by decide +kernel
theorem dX10_findThousandths_61 : decode cX10_findThousandths 61 = .ok (.ifCond .ne 7, 3) := by decide +kernel
theorem dX10_findThousandths_64 : decode cX10_findThousandths 64 = .ok (.iconst 0, 1) := by decide +kernel
theorem dX10_findThousandths_65 : decode cX10_findThousandths 65 = .ok (.goto 21, 3) := by decide +kernel
theorem dX10_findThousandths_68 : decode cX10_findThousandths 68 = .ok (.aload_n 0, 1) := by decide +kernel
theorem dX10_findThousandths_69 : decode cX10_findThousandths 69 = .ok (.getfield 41, 3) := by decide +kernel
theorem dX10_findThousandths_72 : decode cX10_findThousandths 72 = .ok (.iconst 3, 1) := by decide +kernel
theorem dX10_findThousandths_73 : decode cX10_findThousandths 73 = .ok (.iload 4, 2) := by decide +kernel
theorem dX10_findThousandths_75 : decode cX10_findThousandths 75 = .ok (.iload_n 1, 1) := by decide +kernel
theorem dX10_findThousandths_76 : decode cX10_findThousandths 76 = .ok (.iload_n 1, 1) := by decide +kernel
theorem dX10_findThousandths_77 : decode cX10_findThousandths 77 = .ok (.invokevirtual 45, 3) := by decide +kernel
theorem dX10_findThousandths_80 : decode cX10_findThousandths 80 = .ok (.sipush 1000, 3) := by decide +kernel
theorem dX10_findThousandths_83 : decode cX10_findThousandths 83 = .ok (.imul, 1) := by decide +kernel
theorem dX10_findThousandths_84 : decode cX10_findThousandths 84 = .ok (.iload_n 2, 1) := by decide +kernel
theorem dX10_findThousandths_85 : decode cX10_findThousandths 85 = .ok (.idiv, 1) := by decide +kernel
theorem dX10_findThousandths_86 : decode cX10_findThousandths 86 = .ok (.iastore, 1) := by decide +kernel
theorem dX10_findThousandths_87 : decode cX10_findThousandths 87 = .ok (.aload_n 0, 1) := by decide +kernel
theorem dX10_findThousandths_88 : decode cX10_findThousandths 88 = .ok (.getfield 21, 3) := by decide +kernel
theorem dX10_findThousandths_91 : decode cX10_findThousandths 91 = .ok (.iload 5, 2) := by decide +kernel
theorem dX10_findThousandths_93 : decode cX10_findThousandths 93 = .ok (.iload_n 3, 1) := by decide +kernel
theorem dX10_findThousandths_94 : decode cX10_findThousandths 94 = .ok (.ifCond .ne 7, 3) := by decide +kernel
theorem dX10_findThousandths_97 : decode cX10_findThousandths 97 = .ok (.iconst 0, 1) := by decide +kernel
theorem dX10_findThousandths_98 : decode cX10_findThousandths 98 = .ok (.goto 21, 3) := by decide +kernel
theorem dX10_findThousandths_101 : decode cX10_findThousandths 101 = .ok (.aload_n 0, 1) := by decide +kernel
theorem dX10_findThousandths_102 : decode cX10_findThousandths 102 = .ok (.getfield 41, 3) := by decide +kernel
theorem dX10_findThousandths_105 : decode cX10_findThousandths 105 = .ok (.iconst 4, 1) := by decide +kernel
theorem dX10_findThousandths_106 : decode cX10_findThousandths 106 = .ok (.iload 4, 2) := by decide +kernel
theorem dX10_findThousandths_108 : decode cX10_findThousandths 108 = .ok (.iload_n 1, 1) := by decide +kernel
theorem dX10_findThousandths_109 : decode cX10_findThousandths 109 = .ok (.iload_n 1, 1) := by decide +kernel
theorem dX10_findThousandths_110 : decode cX10_findThousandths 110 = .ok (.invokevirtual 45, 3) := by decide +kernel
theorem dX10_findThousandths_113 : decode cX10_findThousandths 113 = .ok (.sipush 1000, 3) := by decide +kernel
theorem dX10_findThousandths_116 : decode cX10_findThousandths 116 = .ok (.imul, 1) := by decide +kernel
theorem dX10_findThousandths_117 : decode cX10_findThousandths 117 = .ok (.iload_n 3, 1) := by decide +kernel
theorem dX10_findThousandths_118 : decode cX10_findThousandths 118 = .ok (.idiv, 1) := by decide +kernel
theorem dX10_findThousandths_119 : decode cX10_findThousandths 119 = .ok (.iastore, 1) := by decide +kernel
theorem dX10_findThousandths_120 : decode cX10_findThousandths 120 = .ok (.iinc 4 1, 3) := by decide +kernel
theorem dX10_findThousandths_123 : decode cX10_findThousandths 123 = .ok (.goto (-85), 3) := by decide +kernel
theorem dX10_findThousandths_126 : decode cX10_findThousandths 126 = .ok (.iinc 1 1, 3) := by decide +kernel
theorem dX10_findThousandths_129 : decode cX10_findThousandths 129 = .ok (.goto (-127), 3) := by decide +kernel
theorem dX10_findThousandths_132 : decode cX10_findThousandths 132 = .ok (.return_, 1) := by decide +kernel
theorem dX10_apartBy_0 : decode cX10_apartBy 0 = .ok (.aload_n 0, 1) := by decide +kernel
theorem dX10_apartBy_1 : decode cX10_apartBy 1 = .ok (.getfield 37, 3) := by decide +kernel
theorem dX10_apartBy_4 : decode cX10_apartBy 4 = .ok (.getfield 57, 3) := by decide +kernel
theorem dX10_apartBy_7 : decode cX10_apartBy 7 = .ok (.iload_n 1, 1) := by decide +kernel
theorem dX10_apartBy_8 : decode cX10_apartBy 8 = .ok (.isub, 1) := by decide +kernel
theorem dX10_apartBy_9 : decode cX10_apartBy 9 = .ok (.istore_n 2, 1) := by decide +kernel
theorem dX10_apartBy_10 : decode cX10_apartBy 10 = .ok (.iload_n 2, 1) := by decide +kernel
theorem dX10_apartBy_11 : decode cX10_apartBy 11 = .ok (.ifCond .le 7, 3) := by decide +kernel
theorem dX10_apartBy_14 : decode cX10_apartBy 14 = .ok (.iload_n 1, 1) := by decide +kernel
theorem dX10_apartBy_15 : decode cX10_apartBy 15 = .ok (.ifCond .ge 5, 3) := by decide +kernel
theorem dX10_apartBy_18 : decode cX10_apartBy 18 = .ok (.iconst (-1), 1) := by decide +kernel
theorem dX10_apartBy_19 : decode cX10_apartBy 19 = .ok (.ireturn, 1) := by decide +kernel
theorem dX10_apartBy_20 : decode cX10_apartBy 20 = .ok (.iconst 0, 1) := by decide +kernel
theorem dX10_apartBy_21 : decode cX10_apartBy 21 = .ok (.istore_n 3, 1) := by decide +kernel
theorem dX10_apartBy_22 : decode cX10_apartBy 22 = .ok (.iconst 0, 1) := by decide +kernel
theorem dX10_apartBy_23 : decode cX10_apartBy 23 = .ok (.istore 4, 2) := by decide +kernel
theorem dX10_apartBy_25 : decode cX10_apartBy 25 = .ok (.iload 4, 2) := by decide +kernel
theorem dX10_apartBy_27 : decode cX10_apartBy 27 = .ok (.iload_n 2, 1) := by decide +kernel
theorem dX10_apartBy_28 : decode cX10_apartBy 28 = .ok (.bipush 16, 2) := by decide +kernel
theorem dX10_apartBy_30 : decode cX10_apartBy 30 = .ok (.imul, 1) := by decide +kernel
theorem dX10_apartBy_31 : decode cX10_apartBy 31 = .ok (.if_icmp .ge 35, 3) := by decide +kernel
theorem dX10_apartBy_34 : decode cX10_apartBy 34 = .ok (.iload_n 3, 1) := by decide +kernel
theorem dX10_apartBy_35 : decode cX10_apartBy 35 = .ok (.aload_n 0, 1) := by decide +kernel
theorem dX10_apartBy_36 : decode cX10_apartBy 36 = .ok (.getfield 18, 3) := by decide +kernel
theorem dX10_apartBy_39 : decode cX10_apartBy 39 = .ok (.iload 4, 2) := by decide +kernel
theorem dX10_apartBy_41 : decode cX10_apartBy 41 = .ok (.iaload, 1) := by decide +kernel
theorem dX10_apartBy_42 : decode cX10_apartBy 42 = .ok (.aload_n 0, 1) := by decide +kernel
theorem dX10_apartBy_43 : decode cX10_apartBy 43 = .ok (.getfield 21, 3) := by decide +kernel
theorem dX10_apartBy_46 : decode cX10_apartBy 46 = .ok (.iload_n 1, 1) := by decide +kernel
theorem dX10_apartBy_47 : decode cX10_apartBy 47 = .ok (.bipush 16, 2) := by decide +kernel
theorem dX10_apartBy_49 : decode cX10_apartBy 49 = .ok (.imul, 1) := by decide +kernel
theorem dX10_apartBy_50 : decode cX10_apartBy 50 = .ok (.iload 4, 2) := by decide +kernel
theorem dX10_apartBy_52 : decode cX10_apartBy 52 = .ok (.iadd, 1) := by decide +kernel
theorem dX10_apartBy_53 : decode cX10_apartBy 53 = .ok (.iaload, 1) := by decide +kernel
theorem dX10_apartBy_54 : decode cX10_apartBy 54 = .ok (.isub, 1) := by decide +kernel
theorem dX10_apartBy_55 : decode cX10_apartBy 55 = .ok (.invokestatic 89, 3) := by decide +kernel
theorem dX10_apartBy_58 : decode cX10_apartBy 58 = .ok (.iadd, 1) := by decide +kernel
theorem dX10_apartBy_59 : decode cX10_apartBy 59 = .ok (.istore_n 3, 1) := by decide +kernel
theorem dX10_apartBy_60 : decode cX10_apartBy 60 = .ok (.iinc 4 1, 3) := by decide +kernel
theorem dX10_apartBy_63 : decode cX10_apartBy 63 = .ok (.goto (-38), 3) := by decide +kernel
theorem dX10_apartBy_66 : decode cX10_apartBy 66 = .ok (.iload_n 3, 1) := by decide +kernel
theorem dX10_apartBy_67 : decode cX10_apartBy 67 = .ok (.iload_n 2, 1) := by decide +kernel
theorem dX10_apartBy_68 : decode cX10_apartBy 68 = .ok (.idiv, 1) := by decide +kernel
theorem dX10_apartBy_69 : decode cX10_apartBy 69 = .ok (.ireturn, 1) := by decide +kernel
theorem dX10_leastLag_0 : decode cX10_leastLag 0 = .ok (.iconst (-1), 1) := by decide +kernel
theorem dX10_leastLag_1 : decode cX10_leastLag 1 = .ok (.istore_n 1, 1) := by decide +kernel
theorem dX10_leastLag_2 : decode cX10_leastLag 2 = .ok (.iconst 0, 1) := by decide +kernel
theorem dX10_leastLag_3 : decode cX10_leastLag 3 = .ok (.istore_n 2, 1) := by decide +kernel
theorem dX10_leastLag_4 : decode cX10_leastLag 4 = .ok (.iconst 0, 1) := by decide +kernel
theorem dX10_leastLag_5 : decode cX10_leastLag 5 = .ok (.istore_n 3, 1) := by decide +kernel
theorem dX10_leastLag_6 : decode cX10_leastLag 6 = .ok (.iload_n 3, 1) := by decide +kernel
theorem dX10_leastLag_7 : decode cX10_leastLag 7 = .ok (.bipush 20, 2) := by decide +kernel
theorem dX10_leastLag_9 : decode cX10_leastLag 9 = .ok (.if_icmp .gt 43, 3) := by decide +kernel
theorem dX10_leastLag_12 : decode cX10_leastLag 12 = .ok (.iload_n 3, 1) := by decide +kernel
theorem dX10_leastLag_13 : decode cX10_leastLag 13 = .ok (.aload_n 0, 1) := by decide +kernel
theorem dX10_leastLag_14 : decode cX10_leastLag 14 = .ok (.getfield 37, 3) := by decide +kernel
theorem dX10_leastLag_17 : decode cX10_leastLag 17 = .ok (.getfield 57, 3) := by decide +kernel
theorem dX10_leastLag_20 : decode cX10_leastLag 20 = .ok (.if_icmp .ge 32, 3) := by decide +kernel
theorem dX10_leastLag_23 : decode cX10_leastLag 23 = .ok (.aload_n 0, 1) := by decide +kernel
theorem dX10_leastLag_24 : decode cX10_leastLag 24 = .ok (.iload_n 3, 1) := by decide +kernel
theorem dX10_leastLag_25 : decode cX10_leastLag 25 = .ok (.invokevirtual 94, 3) := by decide +kernel
theorem dX10_leastLag_28 : decode cX10_leastLag 28 = .ok (.istore 4, 2) := by decide +kernel
theorem dX10_leastLag_30 : decode cX10_leastLag 30 = .ok (.iload_n 1, 1) := by decide +kernel
theorem dX10_leastLag_31 : decode cX10_leastLag 31 = .ok (.iconst (-1), 1) := by decide +kernel
theorem dX10_leastLag_32 : decode cX10_leastLag 32 = .ok (.if_icmp .eq 9, 3) := by decide +kernel
theorem dX10_leastLag_35 : decode cX10_leastLag 35 = .ok (.iload 4, 2) := by decide +kernel
theorem dX10_leastLag_37 : decode cX10_leastLag 37 = .ok (.iload_n 2, 1) := by decide +kernel
theorem dX10_leastLag_38 : decode cX10_leastLag 38 = .ok (.if_icmp .ge 8, 3) := by decide +kernel
theorem dX10_leastLag_41 : decode cX10_leastLag 41 = .ok (.iload_n 3, 1) := by decide +kernel
theorem dX10_leastLag_42 : decode cX10_leastLag 42 = .ok (.istore_n 1, 1) := by decide +kernel
theorem dX10_leastLag_43 : decode cX10_leastLag 43 = .ok (.iload 4, 2) := by decide +kernel
theorem dX10_leastLag_45 : decode cX10_leastLag 45 = .ok (.istore_n 2, 1) := by decide +kernel
theorem dX10_leastLag_46 : decode cX10_leastLag 46 = .ok (.iinc 3 1, 3) := by decide +kernel
theorem dX10_leastLag_49 : decode cX10_leastLag 49 = .ok (.goto (-43), 3) := by decide +kernel
theorem dX10_leastLag_52 : decode cX10_leastLag 52 = .ok (.iload_n 1, 1) := by decide +kernel
theorem dX10_leastLag_53 : decode cX10_leastLag 53 = .ok (.ireturn, 1) := by decide +kernel
theorem dX10_risenOfEnding_0 : decode cX10_risenOfEnding 0 = .ok (.iconst 0, 1) := by decide +kernel
theorem dX10_risenOfEnding_1 : decode cX10_risenOfEnding 1 = .ok (.istore_n 3, 1) := by decide +kernel
theorem dX10_risenOfEnding_2 : decode cX10_risenOfEnding 2 = .ok (.iconst 0, 1) := by decide +kernel
theorem dX10_risenOfEnding_3 : decode cX10_risenOfEnding 3 = .ok (.istore 4, 2) := by decide +kernel
theorem dX10_risenOfEnding_5 : decode cX10_risenOfEnding 5 = .ok (.iload 4, 2) := by decide +kernel
theorem dX10_risenOfEnding_7 : decode cX10_risenOfEnding 7 = .ok (.aload_n 0, 1) := by decide +kernel
theorem dX10_risenOfEnding_8 : decode cX10_risenOfEnding 8 = .ok (.getfield 33, 3) := by decide +kernel
theorem dX10_risenOfEnding_11 : decode cX10_risenOfEnding 11 = .ok (.getfield 68, 3) := by decide +kernel
theorem dX10_risenOfEnding_14 : decode cX10_risenOfEnding 14 = .ok (.if_icmp .ge 44, 3) := by decide +kernel
theorem dX10_risenOfEnding_17 : decode cX10_risenOfEnding 17 = .ok (.aload_n 0, 1) := by decide +kernel
theorem dX10_risenOfEnding_18 : decode cX10_risenOfEnding 18 = .ok (.getfield 33, 3) := by decide +kernel
theorem dX10_risenOfEnding_21 : decode cX10_risenOfEnding 21 = .ok (.iload 4, 2) := by decide +kernel
theorem dX10_risenOfEnding_23 : decode cX10_risenOfEnding 23 = .ok (.iload_n 1, 1) := by decide +kernel
theorem dX10_risenOfEnding_24 : decode cX10_risenOfEnding 24 = .ok (.invokevirtual 97, 3) := by decide +kernel
theorem dX10_risenOfEnding_27 : decode cX10_risenOfEnding 27 = .ok (.ifCond .eq 25, 3) := by decide +kernel
theorem dX10_risenOfEnding_30 : decode cX10_risenOfEnding 30 = .ok (.aload_n 0, 1) := by decide +kernel
theorem dX10_risenOfEnding_31 : decode cX10_risenOfEnding 31 = .ok (.iload 4, 2) := by decide +kernel
theorem dX10_risenOfEnding_33 : decode cX10_risenOfEnding 33 = .ok (.iload_n 2, 1) := by decide +kernel
theorem dX10_risenOfEnding_34 : decode cX10_risenOfEnding 34 = .ok (.invokevirtual 60, 3) := by decide +kernel
theorem dX10_risenOfEnding_37 : decode cX10_risenOfEnding 37 = .ok (.aload_n 0, 1) := by decide +kernel
theorem dX10_risenOfEnding_38 : decode cX10_risenOfEnding 38 = .ok (.iload 4, 2) := by decide +kernel
theorem dX10_risenOfEnding_40 : decode cX10_risenOfEnding 40 = .ok (.iload_n 2, 1) := by decide +kernel
theorem dX10_risenOfEnding_41 : decode cX10_risenOfEnding 41 = .ok (.iconst 1, 1) := by decide +kernel
theorem dX10_risenOfEnding_42 : decode cX10_risenOfEnding 42 = .ok (.isub, 1) := by decide +kernel
theorem dX10_risenOfEnding_43 : decode cX10_risenOfEnding 43 = .ok (.invokevirtual 60, 3) := by decide +kernel
theorem dX10_risenOfEnding_46 : decode cX10_risenOfEnding 46 = .ok (.if_icmp .le 6, 3) := by decide +kernel
theorem dX10_risenOfEnding_49 : decode cX10_risenOfEnding 49 = .ok (.iinc 3 1, 3) := by decide +kernel
theorem dX10_risenOfEnding_52 : decode cX10_risenOfEnding 52 = .ok (.iinc 4 1, 3) := by decide +kernel
theorem dX10_risenOfEnding_55 : decode cX10_risenOfEnding 55 = .ok (.goto (-50), 3) := by decide +kernel
theorem dX10_risenOfEnding_58 : decode cX10_risenOfEnding 58 = .ok (.iload_n 3, 1) := by decide +kernel
theorem dX10_risenOfEnding_59 : decode cX10_risenOfEnding 59 = .ok (.ireturn, 1) := by decide +kernel
theorem dX10_girlsMore_0 : decode cX10_girlsMore 0 = .ok (.iconst 2, 1) := by decide +kernel
theorem dX10_girlsMore_1 : decode cX10_girlsMore 1 = .ok (.aload_n 0, 1) := by decide +kernel
theorem dX10_girlsMore_2 : decode cX10_girlsMore 2 = .ok (.getfield 41, 3) := by decide +kernel
theorem dX10_girlsMore_5 : decode cX10_girlsMore 5 = .ok (.iconst 5, 1) := by decide +kernel
theorem dX10_girlsMore_6 : decode cX10_girlsMore 6 = .ok (.iload_n 1, 1) := by decide +kernel
theorem dX10_girlsMore_7 : decode cX10_girlsMore 7 = .ok (.iload_n 2, 1) := by decide +kernel
theorem dX10_girlsMore_8 : decode cX10_girlsMore 8 = .ok (.iload_n 2, 1) := by decide +kernel
theorem dX10_girlsMore_9 : decode cX10_girlsMore 9 = .ok (.invokevirtual 45, 3) := by decide +kernel
theorem dX10_girlsMore_12 : decode cX10_girlsMore 12 = .ok (.imul, 1) := by decide +kernel
theorem dX10_girlsMore_13 : decode cX10_girlsMore 13 = .ok (.aload_n 0, 1) := by decide +kernel
theorem dX10_girlsMore_14 : decode cX10_girlsMore 14 = .ok (.iload_n 1, 1) := by decide +kernel
theorem dX10_girlsMore_15 : decode cX10_girlsMore 15 = .ok (.iload_n 2, 1) := by decide +kernel
theorem dX10_girlsMore_16 : decode cX10_girlsMore 16 = .ok (.invokevirtual 60, 3) := by decide +kernel
theorem dX10_girlsMore_19 : decode cX10_girlsMore 19 = .ok (.isub, 1) := by decide +kernel
theorem dX10_girlsMore_20 : decode cX10_girlsMore 20 = .ok (.ireturn, 1) := by decide +kernel
theorem dX10_crossing_0 : decode cX10_crossing 0 = .ok (.iconst 0, 1) := by decide +kernel
theorem dX10_crossing_1 : decode cX10_crossing 1 = .ok (.istore_n 2, 1) := by decide +kernel
theorem dX10_crossing_2 : decode cX10_crossing 2 = .ok (.bipush (-40), 2) := by decide +kernel
theorem dX10_crossing_4 : decode cX10_crossing 4 = .ok (.istore_n 3, 1) := by decide +kernel
theorem dX10_crossing_5 : decode cX10_crossing 5 = .ok (.iload_n 3, 1) := by decide +kernel
theorem dX10_crossing_6 : decode cX10_crossing 6 = .ok (.aload_n 0, 1) := by decide +kernel
theorem dX10_crossing_7 : decode cX10_crossing 7 = .ok (.getfield 37, 3) := by decide +kernel
theorem dX10_crossing_10 : decode cX10_crossing 10 = .ok (.getfield 57, 3) := by decide +kernel
theorem dX10_crossing_13 : decode cX10_crossing 13 = .ok (.if_icmp .ge 56, 3) := by decide +kernel
theorem dX10_crossing_16 : decode cX10_crossing 16 = .ok (.aload_n 0, 1) := by decide +kernel
theorem dX10_crossing_17 : decode cX10_crossing 17 = .ok (.iload_n 1, 1) := by decide +kernel
theorem dX10_crossing_18 : decode cX10_crossing 18 = .ok (.iload_n 3, 1) := by decide +kernel
theorem dX10_crossing_19 : decode cX10_crossing 19 = .ok (.invokevirtual 101, 3) := by decide +kernel
theorem dX10_crossing_22 : decode cX10_crossing 22 = .ok (.istore 4, 2) := by decide +kernel
theorem dX10_crossing_24 : decode cX10_crossing 24 = .ok (.iload_n 3, 1) := by decide +kernel
theorem dX10_crossing_25 : decode cX10_crossing 25 = .ok (.ifCond .lt 23, 3) := by decide +kernel
theorem dX10_crossing_28 : decode cX10_crossing 28 = .ok (.iload_n 2, 1) := by decide +kernel
theorem dX10_crossing_29 : decode cX10_crossing 29 = .ok (.ifCond .eq 19, 3) := by decide +kernel
theorem dX10_crossing_32 : decode cX10_crossing 32 = .ok (.iload 4, 2) := by decide +kernel
theorem dX10_crossing_34 : decode cX10_crossing 34 = .ok (.ifCond .lt 14, 3) := by decide +kernel
theorem dX10_crossing_37 : decode cX10_crossing 37 = .ok (.aload_n 0, 1) := by decide +kernel
theorem dX10_crossing_38 : decode cX10_crossing 38 = .ok (.iload_n 1, 1) := by decide +kernel
theorem dX10_crossing_39 : decode cX10_crossing 39 = .ok (.iload_n 3, 1) := by decide +kernel
theorem dX10_crossing_40 : decode cX10_crossing 40 = .ok (.invokevirtual 60, 3) := by decide +kernel
theorem dX10_crossing_43 : decode cX10_crossing 43 = .ok (.ifCond .le 5, 3) := by decide +kernel
theorem dX10_crossing_46 : decode cX10_crossing 46 = .ok (.iload_n 3, 1) := by decide +kernel
theorem dX10_crossing_47 : decode cX10_crossing 47 = .ok (.ireturn, 1) := by decide +kernel
theorem dX10_crossing_48 : decode cX10_crossing 48 = .ok (.iload_n 2, 1) := by decide +kernel
theorem dX10_crossing_49 : decode cX10_crossing 49 = .ok (.ifCond .ne 8, 3) := by decide +kernel
theorem dX10_crossing_52 : decode cX10_crossing 52 = .ok (.iload 4, 2) := by decide +kernel
theorem dX10_crossing_54 : decode cX10_crossing 54 = .ok (.ifCond .ge 7, 3) := by decide +kernel
theorem dX10_crossing_57 : decode cX10_crossing 57 = .ok (.iconst 1, 1) := by decide +kernel
theorem dX10_crossing_58 : decode cX10_crossing 58 = .ok (.goto 4, 3) := by decide +kernel
theorem dX10_crossing_61 : decode cX10_crossing 61 = .ok (.iconst 0, 1) := by decide +kernel
theorem dX10_crossing_62 : decode cX10_crossing 62 = .ok (.istore_n 2, 1) := by decide +kernel
theorem dX10_crossing_63 : decode cX10_crossing 63 = .ok (.iinc 3 1, 3) := by decide +kernel
theorem dX10_crossing_66 : decode cX10_crossing 66 = .ok (.goto (-61), 3) := by decide +kernel
theorem dX10_crossing_69 : decode cX10_crossing 69 = .ok (.iconst (-1), 1) := by decide +kernel
theorem dX10_crossing_70 : decode cX10_crossing 70 = .ok (.ireturn, 1) := by decide +kernel
theorem dX10_boysAgain_0 : decode cX10_boysAgain 0 = .ok (.iload_n 2, 1) := by decide +kernel
theorem dX10_boysAgain_1 : decode cX10_boysAgain 1 = .ok (.iconst 1, 1) := by decide +kernel
theorem dX10_boysAgain_2 : decode cX10_boysAgain 2 = .ok (.iadd, 1) := by decide +kernel
theorem dX10_boysAgain_3 : decode cX10_boysAgain 3 = .ok (.istore_n 3, 1) := by decide +kernel
theorem dX10_boysAgain_4 : decode cX10_boysAgain 4 = .ok (.iload_n 3, 1) := by decide +kernel
theorem dX10_boysAgain_5 : decode cX10_boysAgain 5 = .ok (.aload_n 0, 1) := by decide +kernel
theorem dX10_boysAgain_6 : decode cX10_boysAgain 6 = .ok (.getfield 37, 3) := by decide +kernel
theorem dX10_boysAgain_9 : decode cX10_boysAgain 9 = .ok (.getfield 57, 3) := by decide +kernel
theorem dX10_boysAgain_12 : decode cX10_boysAgain 12 = .ok (.if_icmp .ge 20, 3) := by decide +kernel
theorem dX10_boysAgain_15 : decode cX10_boysAgain 15 = .ok (.aload_n 0, 1) := by decide +kernel
theorem dX10_boysAgain_16 : decode cX10_boysAgain 16 = .ok (.iload_n 1, 1) := by decide +kernel
theorem dX10_boysAgain_17 : decode cX10_boysAgain 17 = .ok (.iload_n 3, 1) := by decide +kernel
theorem dX10_boysAgain_18 : decode cX10_boysAgain 18 = .ok (.invokevirtual 101, 3) := by decide +kernel
theorem dX10_boysAgain_21 : decode cX10_boysAgain 21 = .ok (.ifCond .ge 5, 3) := by decide +kernel
theorem dX10_boysAgain_24 : decode cX10_boysAgain 24 = .ok (.iconst 1, 1) := by decide +kernel
theorem dX10_boysAgain_25 : decode cX10_boysAgain 25 = .ok (.ireturn, 1) := by decide +kernel
theorem dX10_boysAgain_26 : decode cX10_boysAgain 26 = .ok (.iinc 3 1, 3) := by decide +kernel
theorem dX10_boysAgain_29 : decode cX10_boysAgain 29 = .ok (.goto (-25), 3) := by decide +kernel
theorem dX10_boysAgain_32 : decode cX10_boysAgain 32 = .ok (.iconst 0, 1) := by decide +kernel
theorem dX10_boysAgain_33 : decode cX10_boysAgain 33 = .ok (.ireturn, 1) := by decide +kernel
theorem dX10_emptyAhead_0 : decode cX10_emptyAhead 0 = .ok (.iconst 0, 1) := by decide +kernel
theorem dX10_emptyAhead_1 : decode cX10_emptyAhead 1 = .ok (.istore_n 3, 1) := by decide +kernel
theorem dX10_emptyAhead_2 : decode cX10_emptyAhead 2 = .ok (.iload_n 2, 1) := by decide +kernel
theorem dX10_emptyAhead_3 : decode cX10_emptyAhead 3 = .ok (.iconst 1, 1) := by decide +kernel
theorem dX10_emptyAhead_4 : decode cX10_emptyAhead 4 = .ok (.isub, 1) := by decide +kernel
theorem dX10_emptyAhead_5 : decode cX10_emptyAhead 5 = .ok (.istore 4, 2) := by decide +kernel
theorem dX10_emptyAhead_7 : decode cX10_emptyAhead 7 = .ok (.iload 4, 2) := by decide +kernel
theorem dX10_emptyAhead_9 : decode cX10_emptyAhead 9 = .ok (.bipush (-40), 2) := by decide +kernel
theorem dX10_emptyAhead_11 : decode cX10_emptyAhead 11 = .ok (.if_icmp .lt 22, 3) := by decide +kernel
theorem dX10_emptyAhead_14 : decode cX10_emptyAhead 14 = .ok (.aload_n 0, 1) := by decide +kernel
theorem dX10_emptyAhead_15 : decode cX10_emptyAhead 15 = .ok (.iload_n 1, 1) := by decide +kernel
theorem dX10_emptyAhead_16 : decode cX10_emptyAhead 16 = .ok (.iload 4, 2) := by decide +kernel
theorem dX10_emptyAhead_18 : decode cX10_emptyAhead 18 = .ok (.invokevirtual 60, 3) := by decide +kernel
theorem dX10_emptyAhead_21 : decode cX10_emptyAhead 21 = .ok (.ifCond .ne 12, 3) := by decide +kernel
theorem dX10_emptyAhead_24 : decode cX10_emptyAhead 24 = .ok (.iinc 3 1, 3) := by decide +kernel
theorem dX10_emptyAhead_27 : decode cX10_emptyAhead 27 = .ok (.iinc 4 (-1), 3) := by decide +kernel
theorem dX10_emptyAhead_30 : decode cX10_emptyAhead 30 = .ok (.goto (-23), 3) := by decide +kernel
theorem dX10_emptyAhead_33 : decode cX10_emptyAhead 33 = .ok (.iload_n 3, 1) := by decide +kernel
theorem dX10_emptyAhead_34 : decode cX10_emptyAhead 34 = .ok (.ireturn, 1) := by decide +kernel
theorem dX10_comesBack_0 : decode cX10_comesBack 0 = .ok (.iconst 0, 1) := by decide +kernel
theorem dX10_comesBack_1 : decode cX10_comesBack 1 = .ok (.istore_n 3, 1) := by decide +kernel
theorem dX10_comesBack_2 : decode cX10_comesBack 2 = .ok (.iload_n 3, 1) := by decide +kernel
theorem dX10_comesBack_3 : decode cX10_comesBack 3 = .ok (.aload_n 0, 1) := by decide +kernel
theorem dX10_comesBack_4 : decode cX10_comesBack 4 = .ok (.getfield 37, 3) := by decide +kernel
theorem dX10_comesBack_7 : decode cX10_comesBack 7 = .ok (.getfield 57, 3) := by decide +kernel
theorem dX10_comesBack_10 : decode cX10_comesBack 10 = .ok (.if_icmp .ge 55, 3) := by decide +kernel
theorem dX10_comesBack_13 : decode cX10_comesBack 13 = .ok (.aload_n 0, 1) := by decide +kernel
theorem dX10_comesBack_14 : decode cX10_comesBack 14 = .ok (.iload_n 1, 1) := by decide +kernel
theorem dX10_comesBack_15 : decode cX10_comesBack 15 = .ok (.iload_n 3, 1) := by decide +kernel
theorem dX10_comesBack_16 : decode cX10_comesBack 16 = .ok (.invokevirtual 60, 3) := by decide +kernel
theorem dX10_comesBack_19 : decode cX10_comesBack 19 = .ok (.ifCond .le 40, 3) := by decide +kernel
theorem dX10_comesBack_22 : decode cX10_comesBack 22 = .ok (.aload_n 0, 1) := by decide +kernel
theorem dX10_comesBack_23 : decode cX10_comesBack 23 = .ok (.iload_n 1, 1) := by decide +kernel
theorem dX10_comesBack_24 : decode cX10_comesBack 24 = .ok (.iload_n 3, 1) := by decide +kernel
theorem dX10_comesBack_25 : decode cX10_comesBack 25 = .ok (.invokevirtual 104, 3) := by decide +kernel
theorem dX10_comesBack_28 : decode cX10_comesBack 28 = .ok (.istore 4, 2) := by decide +kernel
theorem dX10_comesBack_30 : decode cX10_comesBack 30 = .ok (.iload_n 3, 1) := by decide +kernel
theorem dX10_comesBack_31 : decode cX10_comesBack 31 = .ok (.iload 4, 2) := by decide +kernel
theorem dX10_comesBack_33 : decode cX10_comesBack 33 = .ok (.isub, 1) := by decide +kernel
theorem dX10_comesBack_34 : decode cX10_comesBack 34 = .ok (.bipush (-40), 2) := by decide +kernel
theorem dX10_comesBack_36 : decode cX10_comesBack 36 = .ok (.if_icmp .le 7, 3) := by decide +kernel
theorem dX10_comesBack_39 : decode cX10_comesBack 39 = .ok (.iconst 1, 1) := by decide +kernel
theorem dX10_comesBack_40 : decode cX10_comesBack 40 = .ok (.goto 4, 3) := by decide +kernel
theorem dX10_comesBack_43 : decode cX10_comesBack 43 = .ok (.iconst 0, 1) := by decide +kernel
theorem dX10_comesBack_44 : decode cX10_comesBack 44 = .ok (.istore 5, 2) := by decide +kernel
theorem dX10_comesBack_46 : decode cX10_comesBack 46 = .ok (.iload 4, 2) := by decide +kernel
theorem dX10_comesBack_48 : decode cX10_comesBack 48 = .ok (.iload_n 2, 1) := by decide +kernel
theorem dX10_comesBack_49 : decode cX10_comesBack 49 = .ok (.if_icmp .lt 10, 3) := by decide +kernel
theorem dX10_comesBack_52 : decode cX10_comesBack 52 = .ok (.iload 5, 2) := by decide +kernel
theorem dX10_comesBack_54 : decode cX10_comesBack 54 = .ok (.ifCond .eq 5, 3) := by decide +kernel
theorem dX10_comesBack_57 : decode cX10_comesBack 57 = .ok (.iload_n 3, 1) := by decide +kernel
theorem dX10_comesBack_58 : decode cX10_comesBack 58 = .ok (.ireturn, 1) := by decide +kernel
theorem dX10_comesBack_59 : decode cX10_comesBack 59 = .ok (.iinc 3 1, 3) := by decide +kernel
theorem dX10_comesBack_62 : decode cX10_comesBack 62 = .ok (.goto (-60), 3) := by decide +kernel
theorem dX10_comesBack_65 : decode cX10_comesBack 65 = .ok (.iconst (-1), 1) := by decide +kernel
theorem dX10_comesBack_66 : decode cX10_comesBack 66 = .ok (.ireturn, 1) := by decide +kernel
theorem dX10_sharing_0 : decode cX10_sharing 0 = .ok (.iconst 0, 1) := by decide +kernel
theorem dX10_sharing_1 : decode cX10_sharing 1 = .ok (.istore 5, 2) := by decide +kernel
theorem dX10_sharing_3 : decode cX10_sharing 3 = .ok (.aload_n 0, 1) := by decide +kernel
theorem dX10_sharing_4 : decode cX10_sharing 4 = .ok (.iconst 0, 1) := by decide +kernel
theorem dX10_sharing_5 : decode cX10_sharing 5 = .ok (.putfield 107, 3) := by decide +kernel
theorem dX10_sharing_8 : decode cX10_sharing 8 = .ok (.iconst 0, 1) := by decide +kernel
theorem dX10_sharing_9 : decode cX10_sharing 9 = .ok (.istore 6, 2) := by decide +kernel
theorem dX10_sharing_11 : decode cX10_sharing 11 = .ok (.iload 6, 2) := by decide +kernel
theorem dX10_sharing_13 : decode cX10_sharing 13 = .ok (.aload_n 0, 1) := by decide +kernel
theorem dX10_sharing_14 : decode cX10_sharing 14 = .ok (.getfield 33, 3) := by decide +kernel
theorem dX10_sharing_17 : decode cX10_sharing 17 = .ok (.getfield 68, 3) := by decide +kernel
theorem dX10_sharing_20 : decode cX10_sharing 20 = .ok (.if_icmp .ge 69, 3) := by decide +kernel
theorem dX10_sharing_23 : decode cX10_sharing 23 = .ok (.aload_n 0, 1) := by decide +kernel
theorem dX10_sharing_24 : decode cX10_sharing 24 = .ok (.getfield 41, 3) := by decide +kernel
theorem dX10_sharing_27 : decode cX10_sharing 27 = .ok (.iconst 0, 1) := by decide +kernel
theorem dX10_sharing_28 : decode cX10_sharing 28 = .ok (.iload_n 1, 1) := by decide +kernel
theorem dX10_sharing_29 : decode cX10_sharing 29 = .ok (.iadd, 1) := by decide +kernel
theorem dX10_sharing_30 : decode cX10_sharing 30 = .ok (.iload 6, 2) := by decide +kernel
theorem dX10_sharing_32 : decode cX10_sharing 32 = .ok (.iload_n 2, 1) := by decide +kernel
theorem dX10_sharing_33 : decode cX10_sharing 33 = .ok (.iload_n 2, 1) := by decide +kernel
theorem dX10_sharing_34 : decode cX10_sharing 34 = .ok (.invokevirtual 45, 3) := by decide +kernel
theorem dX10_sharing_37 : decode cX10_sharing 37 = .ok (.istore 7, 2) := by decide +kernel
theorem dX10_sharing_39 : decode cX10_sharing 39 = .ok (.iload 7, 2) := by decide +kernel
theorem dX10_sharing_41 : decode cX10_sharing 41 = .ok (.ifCond .le 42, 3) := by decide +kernel
theorem dX10_sharing_44 : decode cX10_sharing 44 = .ok (.aload_n 0, 1) := by decide +kernel
theorem dX10_sharing_45 : decode cX10_sharing 45 = .ok (.getfield 24, 3) := by decide +kernel
theorem dX10_sharing_48 : decode cX10_sharing 48 = .ok (.aload_n 0, 1) := by decide +kernel
theorem dX10_sharing_49 : decode cX10_sharing 49 = .ok (.getfield 107, 3) := by decide +kernel
theorem dX10_sharing_52 : decode cX10_sharing 52 = .ok (.iload 6, 2) := by decide +kernel
theorem dX10_sharing_54 : decode cX10_sharing 54 = .ok (.iastore, 1) := by decide +kernel
theorem dX10_sharing_55 : decode cX10_sharing 55 = .ok (.aload_n 0, 1) := by decide +kernel
theorem dX10_sharing_56 : decode cX10_sharing 56 = .ok (.getfield 27, 3) := by decide +kernel
theorem dX10_sharing_59 : decode cX10_sharing 59 = .ok (.aload_n 0, 1) := by decide +kernel
theorem dX10_sharing_60 : decode cX10_sharing 60 = .ok (.getfield 107, 3) := by decide +kernel
theorem dX10_sharing_63 : decode cX10_sharing 63 = .ok (.iload 7, 2) := by decide +kernel
theorem dX10_sharing_65 : decode cX10_sharing 65 = .ok (.iastore, 1) := by decide +kernel
theorem dX10_sharing_66 : decode cX10_sharing 66 = .ok (.iload 5, 2) := by decide +kernel
theorem dX10_sharing_68 : decode cX10_sharing 68 = .ok (.iload 7, 2) := by decide +kernel
theorem dX10_sharing_70 : decode cX10_sharing 70 = .ok (.iadd, 1) := by decide +kernel
theorem dX10_sharing_71 : decode cX10_sharing 71 = .ok (.istore 5, 2) := by decide +kernel
theorem dX10_sharing_73 : decode cX10_sharing 73 = .ok (.aload_n 0, 1) := by decide +kernel
theorem dX10_sharing_74 : decode cX10_sharing 74 = .ok (.dup, 1) := by decide +kernel
theorem dX10_sharing_75 : decode cX10_sharing 75 = .ok (.getfield 107, 3) := by decide +kernel
theorem dX10_sharing_78 : decode cX10_sharing 78 = .ok (.iconst 1, 1) := by decide +kernel
theorem dX10_sharing_79 : decode cX10_sharing 79 = .ok (.iadd, 1) := by decide +kernel
theorem dX10_sharing_80 : decode cX10_sharing 80 = .ok (.putfield 107, 3) := by decide +kernel
theorem dX10_sharing_83 : decode cX10_sharing 83 = .ok (.iinc 6 1, 3) := by decide +kernel
theorem dX10_sharing_86 : decode cX10_sharing 86 = .ok (.goto (-75), 3) := by decide +kernel
theorem dX10_sharing_89 : decode cX10_sharing 89 = .ok (.iload 5, 2) := by decide +kernel
theorem dX10_sharing_91 : decode cX10_sharing 91 = .ok (.iload_n 3, 1) := by decide +kernel
theorem dX10_sharing_92 : decode cX10_sharing 92 = .ok (.if_icmp .ge 5, 3) := by decide +kernel
theorem dX10_sharing_95 : decode cX10_sharing 95 = .ok (.iconst (-1), 1) := by decide +kernel
theorem dX10_sharing_96 : decode cX10_sharing 96 = .ok (.ireturn, 1) := by decide +kernel
theorem dX10_sharing_97 : decode cX10_sharing 97 = .ok (.iconst 0, 1) := by decide +kernel
theorem dX10_sharing_98 : decode cX10_sharing 98 = .ok (.istore 6, 2) := by decide +kernel
theorem dX10_sharing_100 : decode cX10_sharing 100 = .ok (.iload 6, 2) := by decide +kernel
theorem dX10_sharing_102 : decode cX10_sharing 102 = .ok (.aload_n 0, 1) := by decide +kernel
theorem dX10_sharing_103 : decode cX10_sharing 103 = .ok (.getfield 107, 3) := by decide +kernel
theorem dX10_sharing_106 : decode cX10_sharing 106 = .ok (.if_icmp .ge 31, 3) := by decide +kernel
theorem dX10_sharing_109 : decode cX10_sharing 109 = .ok (.aload_n 0, 1) := by decide +kernel
theorem dX10_sharing_110 : decode cX10_sharing 110 = .ok (.getfield 30, 3) := by decide +kernel
theorem dX10_sharing_113 : decode cX10_sharing 113 = .ok (.iload 6, 2) := by decide +kernel
theorem dX10_sharing_115 : decode cX10_sharing 115 = .ok (.iload 4, 2) := by decide +kernel
theorem dX10_sharing_117 : decode cX10_sharing 117 = .ok (.ifCond .eq 12, 3) := by decide +kernel
theorem dX10_sharing_120 : decode cX10_sharing 120 = .ok (.aload_n 0, 1) := by decide +kernel
theorem dX10_sharing_121 : decode cX10_sharing 121 = .ok (.iload 6, 2) := by decide +kernel
theorem dX10_sharing_123 : decode cX10_sharing 123 = .ok (.invokevirtual 110, 3) := by decide +kernel
theorem dX10_sharing_126 : decode cX10_sharing 126 = .ok (.goto 4, 3) := by decide +kernel
theorem dX10_sharing_129 : decode cX10_sharing 129 = .ok (.iconst 0, 1) := by decide +kernel
theorem dX10_sharing_130 : decode cX10_sharing 130 = .ok (.iastore, 1) := by decide +kernel
theorem dX10_sharing_131 : decode cX10_sharing 131 = .ok (.iinc 6 1, 3) := by decide +kernel
theorem dX10_sharing_134 : decode cX10_sharing 134 = .ok (.goto (-34), 3) := by decide +kernel
theorem dX10_sharing_137 : decode cX10_sharing 137 = .ok (.lconst 1, 1) := by decide +kernel
theorem dX10_sharing_138 : decode cX10_sharing 138 = .ok (.lstore 6, 2) := by decide +kernel
theorem dX10_sharing_140 : decode cX10_sharing 140 = .ok (.iconst 0, 1) := by decide +kernel
theorem dX10_sharing_141 : decode cX10_sharing 141 = .ok (.istore 8, 2) := by decide +kernel
theorem dX10_sharing_143 : decode cX10_sharing 143 = .ok (.iload 8, 2) := by decide +kernel
theorem dX10_sharing_145 : decode cX10_sharing 145 = .ok (.iload_n 3, 1) := by decide +kernel
theorem dX10_sharing_146 : decode cX10_sharing 146 = .ok (.if_icmp .ge 26, 3) := by decide +kernel
theorem dX10_sharing_149 : decode cX10_sharing 149 = .ok (.lload 6, 2) := by decide +kernel
theorem dX10_sharing_151 : decode cX10_sharing 151 = .ok (.iload 5, 2) := by decide +kernel
theorem dX10_sharing_153 : decode cX10_sharing 153 = .ok (.iload 8, 2) := by decide +kernel
theorem dX10_sharing_155 : decode cX10_sharing 155 = .ok (.isub, 1) := by decide +kernel
theorem dX10_sharing_156 : decode cX10_sharing 156 = .ok (.i2l, 1) := by decide +kernel
theorem dX10_sharing_157 : decode cX10_sharing 157 = .ok (.lmul, 1) := by decide +kernel
theorem dX10_sharing_158 : decode cX10_sharing 158 = .ok (.iload 8, 2) := by decide +kernel
theorem dX10_sharing_160 : decode cX10_sharing 160 = .ok (.iconst 1, 1) := by decide +kernel
theorem dX10_sharing_161 : decode cX10_sharing 161 = .ok (.iadd, 1) := by decide +kernel
theorem dX10_sharing_162 : decode cX10_sharing 162 = .ok (.i2l, 1) := by decide +kernel
theorem dX10_sharing_163 : decode cX10_sharing 163 = .ok (.ldiv, 1) := by decide +kernel
theorem dX10_sharing_164 : decode cX10_sharing 164 = .ok (.lstore 6, 2) := by decide +kernel
theorem dX10_sharing_166 : decode cX10_sharing 166 = .ok (.iinc 8 1, 3) := by decide +kernel
theorem dX10_sharing_169 : decode cX10_sharing 169 = .ok (.goto (-26), 3) := by decide +kernel
theorem dX10_sharing_172 : decode cX10_sharing 172 = .ok (.lload 6, 2) := by decide +kernel
theorem dX10_sharing_174 : decode cX10_sharing 174 = .ok (.lconst 0, 1) := by decide +kernel
theorem dX10_sharing_175 : decode cX10_sharing 175 = .ok (.lcmp, 1) := by decide +kernel
theorem dX10_sharing_176 : decode cX10_sharing 176 = .ok (.ifCond .gt 7, 3) := by decide +kernel
theorem dX10_sharing_179 : decode cX10_sharing 179 = .ok (.iconst (-1), 1) := by decide +kernel
theorem dX10_sharing_180 : decode cX10_sharing 180 = .ok (.goto 21, 3) := by decide +kernel
theorem dX10_sharing_183 : decode cX10_sharing 183 = .ok (.lload 6, 2) := by decide +kernel
theorem dX10_sharing_185 : decode cX10_sharing 185 = .ok (.aload_n 0, 1) := by decide +kernel
theorem dX10_sharing_186 : decode cX10_sharing 186 = .ok (.iconst 0, 1) := by decide +kernel
theorem dX10_sharing_187 : decode cX10_sharing 187 = .ok (.iload_n 3, 1) := by decide +kernel
theorem dX10_sharing_188 : decode cX10_sharing 188 = .ok (.iconst 0, 1) := by decide +kernel
theorem dX10_sharing_189 : decode cX10_sharing 189 = .ok (.invokevirtual 113, 3) := by decide +kernel
theorem dX10_sharing_192 : decode cX10_sharing 192 = .ok (.lsub, 1) := by decide +kernel
theorem dX10_sharing_193 : decode cX10_sharing 193 = .ok (.ldc2_w 117, 3) := by decide +kernel
theorem dX10_sharing_196 : decode cX10_sharing 196 = .ok (.lmul, 1) := by decide +kernel
theorem dX10_sharing_197 : decode cX10_sharing 197 = .ok (.lload 6, 2) := by decide +kernel
theorem dX10_sharing_199 : decode cX10_sharing 199 = .ok (.ldiv, 1) := by decide +kernel
theorem dX10_sharing_200 : decode cX10_sharing 200 = .ok (.l2i, 1) := by decide +kernel
theorem dX10_sharing_201 : decode cX10_sharing 201 = .ok (.ireturn, 1) := by decide +kernel
theorem dX10_kinOf_0 : decode cX10_kinOf 0 = .ok (.iconst 0, 1) := by decide +kernel
theorem dX10_kinOf_1 : decode cX10_kinOf 1 = .ok (.istore_n 2, 1) := by decide +kernel
theorem dX10_kinOf_2 : decode cX10_kinOf 2 = .ok (.iconst 0, 1) := by decide +kernel
theorem dX10_kinOf_3 : decode cX10_kinOf 3 = .ok (.istore_n 3, 1) := by decide +kernel
theorem dX10_kinOf_4 : decode cX10_kinOf 4 = .ok (.iload_n 3, 1) := by decide +kernel
theorem dX10_kinOf_5 : decode cX10_kinOf 5 = .ok (.aload_n 0, 1) := by decide +kernel
theorem dX10_kinOf_6 : decode cX10_kinOf 6 = .ok (.getfield 107, 3) := by decide +kernel
theorem dX10_kinOf_9 : decode cX10_kinOf 9 = .ok (.if_icmp .ge 37, 3) := by decide +kernel
theorem dX10_kinOf_12 : decode cX10_kinOf 12 = .ok (.aload_n 0, 1) := by decide +kernel
theorem dX10_kinOf_13 : decode cX10_kinOf 13 = .ok (.getfield 33, 3) := by decide +kernel
theorem dX10_kinOf_16 : decode cX10_kinOf 16 = .ok (.aload_n 0, 1) := by decide +kernel
theorem dX10_kinOf_17 : decode cX10_kinOf 17 = .ok (.getfield 24, 3) := by decide +kernel
theorem dX10_kinOf_20 : decode cX10_kinOf 20 = .ok (.iload_n 1, 1) := by decide +kernel
theorem dX10_kinOf_21 : decode cX10_kinOf 21 = .ok (.iaload, 1) := by decide +kernel
theorem dX10_kinOf_22 : decode cX10_kinOf 22 = .ok (.aload_n 0, 1) := by decide +kernel
theorem dX10_kinOf_23 : decode cX10_kinOf 23 = .ok (.getfield 24, 3) := by decide +kernel
theorem dX10_kinOf_26 : decode cX10_kinOf 26 = .ok (.iload_n 3, 1) := by decide +kernel
theorem dX10_kinOf_27 : decode cX10_kinOf 27 = .ok (.iaload, 1) := by decide +kernel
theorem dX10_kinOf_28 : decode cX10_kinOf 28 = .ok (.invokevirtual 119, 3) := by decide +kernel
theorem dX10_kinOf_31 : decode cX10_kinOf 31 = .ok (.ifCond .eq 9, 3) := by decide +kernel
theorem dX10_kinOf_34 : decode cX10_kinOf 34 = .ok (.iload_n 2, 1) := by decide +kernel
theorem dX10_kinOf_35 : decode cX10_kinOf 35 = .ok (.iconst 1, 1) := by decide +kernel
theorem dX10_kinOf_36 : decode cX10_kinOf 36 = .ok (.iload_n 3, 1) := by decide +kernel
theorem dX10_kinOf_37 : decode cX10_kinOf 37 = .ok (.ishl, 1) := by decide +kernel
theorem dX10_kinOf_38 : decode cX10_kinOf 38 = .ok (.ior, 1) := by decide +kernel
theorem dX10_kinOf_39 : decode cX10_kinOf 39 = .ok (.istore_n 2, 1) := by decide +kernel
theorem dX10_kinOf_40 : decode cX10_kinOf 40 = .ok (.iinc 3 1, 3) := by decide +kernel
theorem dX10_kinOf_43 : decode cX10_kinOf 43 = .ok (.goto (-39), 3) := by decide +kernel
theorem dX10_kinOf_46 : decode cX10_kinOf 46 = .ok (.iload_n 2, 1) := by decide +kernel
theorem dX10_kinOf_47 : decode cX10_kinOf 47 = .ok (.ireturn, 1) := by decide +kernel
theorem dX10_unlike_0 : decode cX10_unlike 0 = .ok (.iload_n 2, 1) := by decide +kernel
theorem dX10_unlike_1 : decode cX10_unlike 1 = .ok (.ifCond .gt 5, 3) := by decide +kernel
theorem dX10_unlike_4 : decode cX10_unlike 4 = .ok (.lconst 1, 1) := by decide +kernel
theorem dX10_unlike_5 : decode cX10_unlike 5 = .ok (.lreturn, 1) := by decide +kernel
theorem dX10_unlike_6 : decode cX10_unlike 6 = .ok (.lconst 0, 1) := by decide +kernel
theorem dX10_unlike_7 : decode cX10_unlike 7 = .ok (.lstore 4, 2) := by decide +kernel
theorem dX10_unlike_9 : decode cX10_unlike 9 = .ok (.iload_n 1, 1) := by decide +kernel
theorem dX10_unlike_10 : decode cX10_unlike 10 = .ok (.istore 6, 2) := by decide +kernel
theorem dX10_unlike_12 : decode cX10_unlike 12 = .ok (.iload 6, 2) := by decide +kernel
theorem dX10_unlike_14 : decode cX10_unlike 14 = .ok (.aload_n 0, 1) := by decide +kernel
theorem dX10_unlike_15 : decode cX10_unlike 15 = .ok (.getfield 107, 3) := by decide +kernel
theorem dX10_unlike_18 : decode cX10_unlike 18 = .ok (.iload_n 2, 1) := by decide +kernel
theorem dX10_unlike_19 : decode cX10_unlike 19 = .ok (.isub, 1) := by decide +kernel
theorem dX10_unlike_20 : decode cX10_unlike 20 = .ok (.if_icmp .gt 52, 3) := by decide +kernel
theorem dX10_unlike_23 : decode cX10_unlike 23 = .ok (.iload_n 3, 1) := by decide +kernel
theorem dX10_unlike_24 : decode cX10_unlike 24 = .ok (.iload 6, 2) := by decide +kernel
theorem dX10_unlike_26 : decode cX10_unlike 26 = .ok (.ishr, 1) := by decide +kernel
theorem dX10_unlike_27 : decode cX10_unlike 27 = .ok (.iconst 1, 1) := by decide +kernel
theorem dX10_unlike_28 : decode cX10_unlike 28 = .ok (.iand, 1) := by decide +kernel
theorem dX10_unlike_29 : decode cX10_unlike 29 = .ok (.ifCond .ne 37, 3) := by decide +kernel
theorem dX10_unlike_32 : decode cX10_unlike 32 = .ok (.lload 4, 2) := by decide +kernel
theorem dX10_unlike_34 : decode cX10_unlike 34 = .ok (.aload_n 0, 1) := by decide +kernel
theorem dX10_unlike_35 : decode cX10_unlike 35 = .ok (.getfield 27, 3) := by decide +kernel
theorem dX10_unlike_38 : decode cX10_unlike 38 = .ok (.iload 6, 2) := by decide +kernel
theorem dX10_unlike_40 : decode cX10_unlike 40 = .ok (.iaload, 1) := by decide +kernel
theorem dX10_unlike_41 : decode cX10_unlike 41 = .ok (.i2l, 1) := by decide +kernel
theorem dX10_unlike_42 : decode cX10_unlike 42 = .ok (.aload_n 0, 1) := by decide +kernel
theorem dX10_unlike_43 : decode cX10_unlike 43 = .ok (.iload 6, 2) := by decide +kernel
theorem dX10_unlike_45 : decode cX10_unlike 45 = .ok (.iconst 1, 1) := by decide +kernel
theorem dX10_unlike_46 : decode cX10_unlike 46 = .ok (.iadd, 1) := by decide +kernel
theorem dX10_unlike_47 : decode cX10_unlike 47 = .ok (.iload_n 2, 1) := by decide +kernel
theorem dX10_unlike_48 : decode cX10_unlike 48 = .ok (.iconst 1, 1) := by decide +kernel
theorem dX10_unlike_49 : decode cX10_unlike 49 = .ok (.isub, 1) := by decide +kernel
theorem dX10_unlike_50 : decode cX10_unlike 50 = .ok (.iload_n 3, 1) := by decide +kernel
theorem dX10_unlike_51 : decode cX10_unlike 51 = .ok (.aload_n 0, 1) := by decide +kernel
theorem dX10_unlike_52 : decode cX10_unlike 52 = .ok (.getfield 30, 3) := by decide +kernel
theorem dX10_unlike_55 : decode cX10_unlike 55 = .ok (.iload 6, 2) := by decide +kernel
theorem dX10_unlike_57 : decode cX10_unlike 57 = .ok (.iaload, 1) := by decide +kernel
theorem dX10_unlike_58 : decode cX10_unlike 58 = .ok (.ior, 1) := by decide +kernel
theorem dX10_unlike_59 : decode cX10_unlike 59 = .ok (.invokevirtual 113, 3) := by decide +kernel
theorem dX10_unlike_62 : decode cX10_unlike 62 = .ok (.lmul, 1) := by decide +kernel
theorem dX10_unlike_63 : decode cX10_unlike 63 = .ok (.ladd, 1) := by decide +kernel
theorem dX10_unlike_64 : decode cX10_unlike 64 = .ok (.lstore 4, 2) := by decide +kernel
theorem dX10_unlike_66 : decode cX10_unlike 66 = .ok (.iinc 6 1, 3) := by decide +kernel
theorem dX10_unlike_69 : decode cX10_unlike 69 = .ok (.goto (-57), 3) := by decide +kernel
theorem dX10_unlike_72 : decode cX10_unlike 72 = .ok (.lload 4, 2) := by decide +kernel
theorem dX10_unlike_74 : decode cX10_unlike 74 = .ok (.lreturn, 1) := by decide +kernel
theorem dX10_akinLastYear_0 : decode cX10_akinLastYear 0 = .ok (.aload_n 0, 1) := by decide +kernel
theorem dX10_akinLastYear_1 : decode cX10_akinLastYear 1 = .ok (.getfield 37, 3) := by decide +kernel
theorem dX10_akinLastYear_4 : decode cX10_akinLastYear 4 = .ok (.getfield 57, 3) := by decide +kernel
theorem dX10_akinLastYear_7 : decode cX10_akinLastYear 7 = .ok (.iconst 1, 1) := by decide +kernel
theorem dX10_akinLastYear_8 : decode cX10_akinLastYear 8 = .ok (.isub, 1) := by decide +kernel
theorem dX10_akinLastYear_9 : decode cX10_akinLastYear 9 = .ok (.istore_n 3, 1) := by decide +kernel
theorem dX10_akinLastYear_10 : decode cX10_akinLastYear 10 = .ok (.iconst 0, 1) := by decide +kernel
theorem dX10_akinLastYear_11 : decode cX10_akinLastYear 11 = .ok (.istore 4, 2) := by decide +kernel
theorem dX10_akinLastYear_13 : decode cX10_akinLastYear 13 = .ok (.iconst 0, 1) := by decide +kernel
theorem dX10_akinLastYear_14 : decode cX10_akinLastYear 14 = .ok (.istore 5, 2) := by decide +kernel
theorem dX10_akinLastYear_16 : decode cX10_akinLastYear 16 = .ok (.iload 5, 2) := by decide +kernel
theorem dX10_akinLastYear_18 : decode cX10_akinLastYear 18 = .ok (.aload_n 0, 1) := by decide +kernel
theorem dX10_akinLastYear_19 : decode cX10_akinLastYear 19 = .ok (.getfield 33, 3) := by decide +kernel
theorem dX10_akinLastYear_22 : decode cX10_akinLastYear 22 = .ok (.getfield 68, 3) := by decide +kernel
theorem dX10_akinLastYear_25 : decode cX10_akinLastYear 25 = .ok (.if_icmp .ge 41, 3) := by decide +kernel
theorem dX10_akinLastYear_28 : decode cX10_akinLastYear 28 = .ok (.aload_n 0, 1) := by decide +kernel
theorem dX10_akinLastYear_29 : decode cX10_akinLastYear 29 = .ok (.getfield 33, 3) := by decide +kernel
theorem dX10_akinLastYear_32 : decode cX10_akinLastYear 32 = .ok (.iload_n 2, 1) := by decide +kernel
theorem dX10_akinLastYear_33 : decode cX10_akinLastYear 33 = .ok (.iload 5, 2) := by decide +kernel
theorem dX10_akinLastYear_35 : decode cX10_akinLastYear 35 = .ok (.invokevirtual 119, 3) := by decide +kernel
theorem dX10_akinLastYear_38 : decode cX10_akinLastYear 38 = .ok (.ifCond .eq 22, 3) := by decide +kernel
theorem dX10_akinLastYear_41 : decode cX10_akinLastYear 41 = .ok (.iload 4, 2) := by decide +kernel
theorem dX10_akinLastYear_43 : decode cX10_akinLastYear 43 = .ok (.aload_n 0, 1) := by decide +kernel
theorem dX10_akinLastYear_44 : decode cX10_akinLastYear 44 = .ok (.getfield 41, 3) := by decide +kernel
theorem dX10_akinLastYear_47 : decode cX10_akinLastYear 47 = .ok (.iconst 0, 1) := by decide +kernel
theorem dX10_akinLastYear_48 : decode cX10_akinLastYear 48 = .ok (.iload_n 1, 1) := by decide +kernel
theorem dX10_akinLastYear_49 : decode cX10_akinLastYear 49 = .ok (.iadd, 1) := by decide +kernel
theorem dX10_akinLastYear_50 : decode cX10_akinLastYear 50 = .ok (.iload 5, 2) := by decide +kernel
theorem dX10_akinLastYear_52 : decode cX10_akinLastYear 52 = .ok (.iload_n 3, 1) := by decide +kernel
theorem dX10_akinLastYear_53 : decode cX10_akinLastYear 53 = .ok (.iload_n 3, 1) := by decide +kernel
theorem dX10_akinLastYear_54 : decode cX10_akinLastYear 54 = .ok (.invokevirtual 45, 3) := by decide +kernel
theorem dX10_akinLastYear_57 : decode cX10_akinLastYear 57 = .ok (.iadd, 1) := by decide +kernel
theorem dX10_akinLastYear_58 : decode cX10_akinLastYear 58 = .ok (.istore 4, 2) := by decide +kernel
theorem dX10_akinLastYear_60 : decode cX10_akinLastYear 60 = .ok (.iinc 5 1, 3) := by decide +kernel
theorem dX10_akinLastYear_63 : decode cX10_akinLastYear 63 = .ok (.goto (-47), 3) := by decide +kernel
theorem dX10_akinLastYear_66 : decode cX10_akinLastYear 66 = .ok (.iload 4, 2) := by decide +kernel
theorem dX10_akinLastYear_68 : decode cX10_akinLastYear 68 = .ok (.ireturn, 1) := by decide +kernel
theorem dX10_firstLiving_0 : decode cX10_firstLiving 0 = .ok (.aload_n 0, 1) := by decide +kernel
theorem dX10_firstLiving_1 : decode cX10_firstLiving 1 = .ok (.getfield 37, 3) := by decide +kernel
theorem dX10_firstLiving_4 : decode cX10_firstLiving 4 = .ok (.getfield 57, 3) := by decide +kernel
theorem dX10_firstLiving_7 : decode cX10_firstLiving 7 = .ok (.aload_n 0, 1) := by decide +kernel
theorem dX10_firstLiving_8 : decode cX10_firstLiving 8 = .ok (.getfield 37, 3) := by decide +kernel
theorem dX10_firstLiving_11 : decode cX10_firstLiving 11 = .ok (.getfield 51, 3) := by decide +kernel
theorem dX10_firstLiving_14 : decode cX10_firstLiving 14 = .ok (.isub, 1) := by decide +kernel
theorem dX10_firstLiving_15 : decode cX10_firstLiving 15 = .ok (.bipush (-40), 2) := by decide +kernel
theorem dX10_firstLiving_17 : decode cX10_firstLiving 17 = .ok (.invokestatic 122, 3) := by decide +kernel
theorem dX10_firstLiving_20 : decode cX10_firstLiving 20 = .ok (.ireturn, 1) := by decide +kernel
theorem dX10_halfBorn_0 : decode cX10_halfBorn 0 = .ok (.aload_n 0, 1) := by decide +kernel
theorem dX10_halfBorn_1 : decode cX10_halfBorn 1 = .ok (.invokevirtual 125, 3) := by decide +kernel
theorem dX10_halfBorn_4 : decode cX10_halfBorn 4 = .ok (.istore_n 2, 1) := by decide +kernel
theorem dX10_halfBorn_5 : decode cX10_halfBorn 5 = .ok (.aload_n 0, 1) := by decide +kernel
theorem dX10_halfBorn_6 : decode cX10_halfBorn 6 = .ok (.getfield 37, 3) := by decide +kernel
theorem dX10_halfBorn_9 : decode cX10_halfBorn 9 = .ok (.getfield 57, 3) := by decide +kernel
theorem dX10_halfBorn_12 : decode cX10_halfBorn 12 = .ok (.iconst 1, 1) := by decide +kernel
theorem dX10_halfBorn_13 : decode cX10_halfBorn 13 = .ok (.isub, 1) := by decide +kernel
theorem dX10_halfBorn_14 : decode cX10_halfBorn 14 = .ok (.istore_n 3, 1) := by decide +kernel
theorem dX10_halfBorn_15 : decode cX10_halfBorn 15 = .ok (.aload_n 0, 1) := by decide +kernel
theorem dX10_halfBorn_16 : decode cX10_halfBorn 16 = .ok (.getfield 41, 3) := by decide +kernel
theorem dX10_halfBorn_19 : decode cX10_halfBorn 19 = .ok (.bipush 6, 2) := by decide +kernel
theorem dX10_halfBorn_21 : decode cX10_halfBorn 21 = .ok (.iload_n 1, 1) := by decide +kernel
theorem dX10_halfBorn_22 : decode cX10_halfBorn 22 = .ok (.iload_n 2, 1) := by decide +kernel
theorem dX10_halfBorn_23 : decode cX10_halfBorn 23 = .ok (.iload_n 3, 1) := by decide +kernel
theorem dX10_halfBorn_24 : decode cX10_halfBorn 24 = .ok (.invokevirtual 45, 3) := by decide +kernel
theorem dX10_halfBorn_27 : decode cX10_halfBorn 27 = .ok (.istore 4, 2) := by decide +kernel
theorem dX10_halfBorn_29 : decode cX10_halfBorn 29 = .ok (.iload_n 2, 1) := by decide +kernel
theorem dX10_halfBorn_30 : decode cX10_halfBorn 30 = .ok (.istore 5, 2) := by decide +kernel
theorem dX10_halfBorn_32 : decode cX10_halfBorn 32 = .ok (.iload 5, 2) := by decide +kernel
theorem dX10_halfBorn_34 : decode cX10_halfBorn 34 = .ok (.iload_n 3, 1) := by decide +kernel
theorem dX10_halfBorn_35 : decode cX10_halfBorn 35 = .ok (.if_icmp .ge 32, 3) := by decide +kernel
theorem dX10_halfBorn_38 : decode cX10_halfBorn 38 = .ok (.iconst 2, 1) := by decide +kernel
theorem dX10_halfBorn_39 : decode cX10_halfBorn 39 = .ok (.aload_n 0, 1) := by decide +kernel
theorem dX10_halfBorn_40 : decode cX10_halfBorn 40 = .ok (.getfield 41, 3) := by decide +kernel
theorem dX10_halfBorn_43 : decode cX10_halfBorn 43 = .ok (.bipush 6, 2) := by decide +kernel
theorem dX10_halfBorn_45 : decode cX10_halfBorn 45 = .ok (.iload_n 1, 1) := by decide +kernel
theorem dX10_halfBorn_46 : decode cX10_halfBorn 46 = .ok (.iload_n 2, 1) := by decide +kernel
theorem dX10_halfBorn_47 : decode cX10_halfBorn 47 = .ok (.iload 5, 2) := by decide +kernel
theorem dX10_halfBorn_49 : decode cX10_halfBorn 49 = .ok (.invokevirtual 45, 3) := by decide +kernel
theorem dX10_halfBorn_52 : decode cX10_halfBorn 52 = .ok (.imul, 1) := by decide +kernel
theorem dX10_halfBorn_53 : decode cX10_halfBorn 53 = .ok (.iload 4, 2) := by decide +kernel
theorem dX10_halfBorn_55 : decode cX10_halfBorn 55 = .ok (.if_icmp .lt 6, 3) := by decide +kernel
theorem dX10_halfBorn_58 : decode cX10_halfBorn 58 = .ok (.iload 5, 2) := by decide +kernel
theorem dX10_halfBorn_60 : decode cX10_halfBorn 60 = .ok (.ireturn, 1) := by decide +kernel
theorem dX10_halfBorn_61 : decode cX10_halfBorn 61 = .ok (.iinc 5 1, 3) := by decide +kernel
theorem dX10_halfBorn_64 : decode cX10_halfBorn 64 = .ok (.goto (-32), 3) := by decide +kernel
theorem dX10_halfBorn_67 : decode cX10_halfBorn 67 = .ok (.iload_n 3, 1) := by decide +kernel
theorem dX10_halfBorn_68 : decode cX10_halfBorn 68 = .ok (.ireturn, 1) := by decide +kernel
theorem dX10_shortestSpan_0 : decode cX10_shortestSpan 0 = .ok (.aload_n 0, 1) := by decide +kernel
theorem dX10_shortestSpan_1 : decode cX10_shortestSpan 1 = .ok (.getfield 37, 3) := by decide +kernel
theorem dX10_shortestSpan_4 : decode cX10_shortestSpan 4 = .ok (.getfield 57, 3) := by decide +kernel
theorem dX10_shortestSpan_7 : decode cX10_shortestSpan 7 = .ok (.aload_n 0, 1) := by decide +kernel
theorem dX10_shortestSpan_8 : decode cX10_shortestSpan 8 = .ok (.invokevirtual 125, 3) := by decide +kernel
theorem dX10_shortestSpan_11 : decode cX10_shortestSpan 11 = .ok (.isub, 1) := by decide +kernel
theorem dX10_shortestSpan_12 : decode cX10_shortestSpan 12 = .ok (.istore_n 3, 1) := by decide +kernel
theorem dX10_shortestSpan_13 : decode cX10_shortestSpan 13 = .ok (.iconst 1, 1) := by decide +kernel
theorem dX10_shortestSpan_14 : decode cX10_shortestSpan 14 = .ok (.istore 4, 2) := by decide +kernel
theorem dX10_shortestSpan_16 : decode cX10_shortestSpan 16 = .ok (.iload 4, 2) := by decide +kernel
theorem dX10_shortestSpan_18 : decode cX10_shortestSpan 18 = .ok (.iload_n 3, 1) := by decide +kernel
theorem dX10_shortestSpan_19 : decode cX10_shortestSpan 19 = .ok (.if_icmp .ge 26, 3) := by decide +kernel
theorem dX10_shortestSpan_22 : decode cX10_shortestSpan 22 = .ok (.aload_n 0, 1) := by decide +kernel
theorem dX10_shortestSpan_23 : decode cX10_shortestSpan 23 = .ok (.iload_n 1, 1) := by decide +kernel
theorem dX10_shortestSpan_24 : decode cX10_shortestSpan 24 = .ok (.iload_n 2, 1) := by decide +kernel
theorem dX10_shortestSpan_25 : decode cX10_shortestSpan 25 = .ok (.iload 4, 2) := by decide +kernel
theorem dX10_shortestSpan_27 : decode cX10_shortestSpan 27 = .ok (.invokevirtual 129, 3) := by decide +kernel
theorem dX10_shortestSpan_30 : decode cX10_shortestSpan 30 = .ok (.sipush (-1000), 3) := by decide +kernel
theorem dX10_shortestSpan_33 : decode cX10_shortestSpan 33 = .ok (.if_icmp .eq 6, 3) := by decide +kernel
theorem dX10_shortestSpan_36 : decode cX10_shortestSpan 36 = .ok (.iload 4, 2) := by decide +kernel
theorem dX10_shortestSpan_38 : decode cX10_shortestSpan 38 = .ok (.ireturn, 1) := by decide +kernel
theorem dX10_shortestSpan_39 : decode cX10_shortestSpan 39 = .ok (.iinc 4 1, 3) := by decide +kernel
theorem dX10_shortestSpan_42 : decode cX10_shortestSpan 42 = .ok (.goto (-26), 3) := by decide +kernel
theorem dX10_shortestSpan_45 : decode cX10_shortestSpan 45 = .ok (.iload_n 3, 1) := by decide +kernel
theorem dX10_shortestSpan_46 : decode cX10_shortestSpan 46 = .ok (.ireturn, 1) := by decide +kernel
theorem dX10_spanStart_0 : decode cX10_spanStart 0 = .ok (.aload_n 0, 1) := by decide +kernel
theorem dX10_spanStart_1 : decode cX10_spanStart 1 = .ok (.invokevirtual 125, 3) := by decide +kernel
theorem dX10_spanStart_4 : decode cX10_spanStart 4 = .ok (.istore 4, 2) := by decide +kernel
theorem dX10_spanStart_6 : decode cX10_spanStart 6 = .ok (.aload_n 0, 1) := by decide +kernel
theorem dX10_spanStart_7 : decode cX10_spanStart 7 = .ok (.getfield 41, 3) := by decide +kernel
theorem dX10_spanStart_10 : decode cX10_spanStart 10 = .ok (.bipush 6, 2) := by decide +kernel
theorem dX10_spanStart_12 : decode cX10_spanStart 12 = .ok (.iload_n 1, 1) := by decide +kernel
theorem dX10_spanStart_13 : decode cX10_spanStart 13 = .ok (.iload 4, 2) := by decide +kernel
theorem dX10_spanStart_15 : decode cX10_spanStart 15 = .ok (.aload_n 0, 1) := by decide +kernel
theorem dX10_spanStart_16 : decode cX10_spanStart 16 = .ok (.getfield 37, 3) := by decide +kernel
theorem dX10_spanStart_19 : decode cX10_spanStart 19 = .ok (.getfield 57, 3) := by decide +kernel
theorem dX10_spanStart_22 : decode cX10_spanStart 22 = .ok (.iconst 1, 1) := by decide +kernel
theorem dX10_spanStart_23 : decode cX10_spanStart 23 = .ok (.isub, 1) := by decide +kernel
theorem dX10_spanStart_24 : decode cX10_spanStart 24 = .ok (.invokevirtual 45, 3) := by decide +kernel
theorem dX10_spanStart_27 : decode cX10_spanStart 27 = .ok (.i2l, 1) := by decide +kernel
theorem dX10_spanStart_28 : decode cX10_spanStart 28 = .ok (.lstore 5, 2) := by decide +kernel
theorem dX10_spanStart_30 : decode cX10_spanStart 30 = .ok (.iload 4, 2) := by decide +kernel
theorem dX10_spanStart_32 : decode cX10_spanStart 32 = .ok (.istore 7, 2) := by decide +kernel
theorem dX10_spanStart_34 : decode cX10_spanStart 34 = .ok (.iload 7, 2) := by decide +kernel
theorem dX10_spanStart_36 : decode cX10_spanStart 36 = .ok (.iload_n 3, 1) := by decide +kernel
theorem dX10_spanStart_37 : decode cX10_spanStart 37 = .ok (.iadd, 1) := by decide +kernel
theorem dX10_spanStart_38 : decode cX10_spanStart 38 = .ok (.aload_n 0, 1) := by decide +kernel
theorem dX10_spanStart_39 : decode cX10_spanStart 39 = .ok (.getfield 37, 3) := by decide +kernel
theorem dX10_spanStart_42 : decode cX10_spanStart 42 = .ok (.getfield 57, 3) := by decide +kernel
theorem dX10_spanStart_45 : decode cX10_spanStart 45 = .ok (.if_icmp .gt 44, 3) := by decide +kernel
theorem dX10_spanStart_48 : decode cX10_spanStart 48 = .ok (.aload_n 0, 1) := by decide +kernel
theorem dX10_spanStart_49 : decode cX10_spanStart 49 = .ok (.getfield 41, 3) := by decide +kernel
theorem dX10_spanStart_52 : decode cX10_spanStart 52 = .ok (.bipush 6, 2) := by decide +kernel
theorem dX10_spanStart_54 : decode cX10_spanStart 54 = .ok (.iload_n 1, 1) := by decide +kernel
theorem dX10_spanStart_55 : decode cX10_spanStart 55 = .ok (.iload 7, 2) := by decide +kernel
theorem dX10_spanStart_57 : decode cX10_spanStart 57 = .ok (.iload 7, 2) := by decide +kernel
theorem dX10_spanStart_59 : decode cX10_spanStart 59 = .ok (.iload_n 3, 1) := by decide +kernel
theorem dX10_spanStart_60 : decode cX10_spanStart 60 = .ok (.iadd, 1) := by decide +kernel
theorem dX10_spanStart_61 : decode cX10_spanStart 61 = .ok (.iconst 1, 1) := by decide +kernel
theorem dX10_spanStart_62 : decode cX10_spanStart 62 = .ok (.isub, 1) := by decide +kernel
theorem dX10_spanStart_63 : decode cX10_spanStart 63 = .ok (.invokevirtual 45, 3) := by decide +kernel
theorem dX10_spanStart_66 : decode cX10_spanStart 66 = .ok (.i2l, 1) := by decide +kernel
theorem dX10_spanStart_67 : decode cX10_spanStart 67 = .ok (.ldc2_w 132, 3) := by decide +kernel
theorem dX10_spanStart_70 : decode cX10_spanStart 70 = .ok (.lmul, 1) := by decide +kernel
theorem dX10_spanStart_71 : decode cX10_spanStart 71 = .ok (.iload_n 2, 1) := by decide +kernel
theorem dX10_spanStart_72 : decode cX10_spanStart 72 = .ok (.i2l, 1) := by decide +kernel
theorem dX10_spanStart_73 : decode cX10_spanStart 73 = .ok (.lload 5, 2) := by decide +kernel
theorem dX10_spanStart_75 : decode cX10_spanStart 75 = .ok (.lmul, 1) := by decide +kernel
theorem dX10_spanStart_76 : decode cX10_spanStart 76 = .ok (.lcmp, 1) := by decide +kernel
theorem dX10_spanStart_77 : decode cX10_spanStart 77 = .ok (.ifCond .lt 6, 3) := by decide +kernel
theorem dX10_spanStart_80 : decode cX10_spanStart 80 = .ok (.iload 7, 2) := by decide +kernel
theorem dX10_spanStart_82 : decode cX10_spanStart 82 = .ok (.ireturn, 1) := by decide +kernel
theorem dX10_spanStart_83 : decode cX10_spanStart 83 = .ok (.iinc 7 1, 3) := by decide +kernel
theorem dX10_spanStart_86 : decode cX10_spanStart 86 = .ok (.goto (-52), 3) := by decide +kernel
theorem dX10_spanStart_89 : decode cX10_spanStart 89 = .ok (.sipush (-1000), 3) := by decide +kernel
theorem dX10_spanStart_92 : decode cX10_spanStart 92 = .ok (.ireturn, 1) := by decide +kernel
theorem dX10_likeliestPlace_0 : decode cX10_likeliestPlace 0 = .ok (.aload_n 0, 1) := by decide +kernel
theorem dX10_likeliestPlace_1 : decode cX10_likeliestPlace 1 = .ok (.invokevirtual 125, 3) := by decide +kernel
theorem dX10_likeliestPlace_4 : decode cX10_likeliestPlace 4 = .ok (.istore_n 2, 1) := by decide +kernel
theorem dX10_likeliestPlace_5 : decode cX10_likeliestPlace 5 = .ok (.aload_n 0, 1) := by decide +kernel
theorem dX10_likeliestPlace_6 : decode cX10_likeliestPlace 6 = .ok (.getfield 37, 3) := by decide +kernel
theorem dX10_likeliestPlace_9 : decode cX10_likeliestPlace 9 = .ok (.getfield 57, 3) := by decide +kernel
theorem dX10_likeliestPlace_12 : decode cX10_likeliestPlace 12 = .ok (.iconst 1, 1) := by decide +kernel
theorem dX10_likeliestPlace_13 : decode cX10_likeliestPlace 13 = .ok (.isub, 1) := by decide +kernel
theorem dX10_likeliestPlace_14 : decode cX10_likeliestPlace 14 = .ok (.istore_n 3, 1) := by decide +kernel
theorem dX10_likeliestPlace_15 : decode cX10_likeliestPlace 15 = .ok (.iconst (-1), 1) := by decide +kernel
theorem dX10_likeliestPlace_16 : decode cX10_likeliestPlace 16 = .ok (.istore 4, 2) := by decide +kernel
theorem dX10_likeliestPlace_18 : decode cX10_likeliestPlace 18 = .ok (.lconst 0, 1) := by decide +kernel
theorem dX10_likeliestPlace_19 : decode cX10_likeliestPlace 19 = .ok (.lstore 5, 2) := by decide +kernel
theorem dX10_likeliestPlace_21 : decode cX10_likeliestPlace 21 = .ok (.lconst 1, 1) := by decide +kernel
theorem dX10_likeliestPlace_22 : decode cX10_likeliestPlace 22 = .ok (.lstore 7, 2) := by decide +kernel
theorem dX10_likeliestPlace_24 : decode cX10_likeliestPlace 24 = .ok (.iconst 0, 1) := by decide +kernel
theorem dX10_likeliestPlace_25 : decode cX10_likeliestPlace 25 = .ok (.istore 9, 2) := by decide +kernel
theorem dX10_likeliestPlace_27 : decode cX10_likeliestPlace 27 = .ok (.iload 9, 2) := by decide +kernel
theorem dX10_likeliestPlace_29 : decode cX10_likeliestPlace 29 = .ok (.iconst 3, 1) := by decide +kernel
theorem dX10_likeliestPlace_30 : decode cX10_likeliestPlace 30 = .ok (.if_icmp .ge 68, 3) := by decide +kernel
theorem dX10_likeliestPlace_33 : decode cX10_likeliestPlace 33 = .ok (.aload_n 0, 1) := by decide +kernel
theorem dX10_likeliestPlace_34 : decode cX10_likeliestPlace 34 = .ok (.getfield 41, 3) := by decide +kernel
theorem dX10_likeliestPlace_37 : decode cX10_likeliestPlace 37 = .ok (.iconst 0, 1) := by decide +kernel
theorem dX10_likeliestPlace_38 : decode cX10_likeliestPlace 38 = .ok (.iload 9, 2) := by decide +kernel
theorem dX10_likeliestPlace_40 : decode cX10_likeliestPlace 40 = .ok (.iadd, 1) := by decide +kernel
theorem dX10_likeliestPlace_41 : decode cX10_likeliestPlace 41 = .ok (.iload_n 1, 1) := by decide +kernel
theorem dX10_likeliestPlace_42 : decode cX10_likeliestPlace 42 = .ok (.iload_n 2, 1) := by decide +kernel
theorem dX10_likeliestPlace_43 : decode cX10_likeliestPlace 43 = .ok (.iload_n 3, 1) := by decide +kernel
theorem dX10_likeliestPlace_44 : decode cX10_likeliestPlace 44 = .ok (.invokevirtual 45, 3) := by decide +kernel
theorem dX10_likeliestPlace_47 : decode cX10_likeliestPlace 47 = .ok (.i2l, 1) := by decide +kernel
theorem dX10_likeliestPlace_48 : decode cX10_likeliestPlace 48 = .ok (.lstore 10, 2) := by decide +kernel
theorem dX10_likeliestPlace_50 : decode cX10_likeliestPlace 50 = .ok (.aload_n 0, 1) := by decide +kernel
theorem dX10_likeliestPlace_51 : decode cX10_likeliestPlace 51 = .ok (.getfield 41, 3) := by decide +kernel
theorem dX10_likeliestPlace_54 : decode cX10_likeliestPlace 54 = .ok (.iconst 0, 1) := by decide +kernel
theorem dX10_likeliestPlace_55 : decode cX10_likeliestPlace 55 = .ok (.iload 9, 2) := by decide +kernel
theorem dX10_likeliestPlace_57 : decode cX10_likeliestPlace 57 = .ok (.iadd, 1) := by decide +kernel
theorem dX10_likeliestPlace_58 : decode cX10_likeliestPlace 58 = .ok (.iload_n 2, 1) := by decide +kernel
theorem dX10_likeliestPlace_59 : decode cX10_likeliestPlace 59 = .ok (.iload_n 3, 1) := by decide +kernel
theorem dX10_likeliestPlace_60 : decode cX10_likeliestPlace 60 = .ok (.invokevirtual 86, 3) := by decide +kernel
theorem dX10_likeliestPlace_63 : decode cX10_likeliestPlace 63 = .ok (.i2l, 1) := by decide +kernel
theorem dX10_likeliestPlace_64 : decode cX10_likeliestPlace 64 = .ok (.lstore 12, 2) := by decide +kernel
theorem dX10_likeliestPlace_66 : decode cX10_likeliestPlace 66 = .ok (.lload 10, 2) := by decide +kernel
theorem dX10_likeliestPlace_68 : decode cX10_likeliestPlace 68 = .ok (.lload 7, 2) := by decide +kernel
theorem dX10_likeliestPlace_70 : decode cX10_likeliestPlace 70 = .ok (.lmul, 1) := by decide +kernel
theorem dX10_likeliestPlace_71 : decode cX10_likeliestPlace 71 = .ok (.lload 5, 2) := by decide +kernel
theorem dX10_likeliestPlace_73 : decode cX10_likeliestPlace 73 = .ok (.lload 12, 2) := by decide +kernel
theorem dX10_likeliestPlace_75 : decode cX10_likeliestPlace 75 = .ok (.lmul, 1) := by decide +kernel
theorem dX10_likeliestPlace_76 : decode cX10_likeliestPlace 76 = .ok (.lcmp, 1) := by decide +kernel
theorem dX10_likeliestPlace_77 : decode cX10_likeliestPlace 77 = .ok (.ifCond .le 15, 3) := by decide +kernel
theorem dX10_likeliestPlace_80 : decode cX10_likeliestPlace 80 = .ok (.iload 9, 2) := by decide +kernel
theorem dX10_likeliestPlace_82 : decode cX10_likeliestPlace 82 = .ok (.istore 4, 2) := by decide +kernel
theorem dX10_likeliestPlace_84 : decode cX10_likeliestPlace 84 = .ok (.lload 10, 2) := by decide +kernel
theorem dX10_likeliestPlace_86 : decode cX10_likeliestPlace 86 = .ok (.lstore 5, 2) := by decide +kernel
theorem dX10_likeliestPlace_88 : decode cX10_likeliestPlace 88 = .ok (.lload 12, 2) := by decide +kernel
theorem dX10_likeliestPlace_90 : decode cX10_likeliestPlace 90 = .ok (.lstore 7, 2) := by decide +kernel
theorem dX10_likeliestPlace_92 : decode cX10_likeliestPlace 92 = .ok (.iinc 9 1, 3) := by decide +kernel
theorem dX10_likeliestPlace_95 : decode cX10_likeliestPlace 95 = .ok (.goto (-68), 3) := by decide +kernel
theorem dX10_likeliestPlace_98 : decode cX10_likeliestPlace 98 = .ok (.iload 4, 2) := by decide +kernel
theorem dX10_likeliestPlace_100 : decode cX10_likeliestPlace 100 = .ok (.ireturn, 1) := by decide +kernel
theorem dX10_foremost_0 : decode cX10_foremost 0 = .ok (.iconst 0, 1) := by decide +kernel
theorem dX10_foremost_1 : decode cX10_foremost 1 = .ok (.istore_n 3, 1) := by decide +kernel
theorem dX10_foremost_2 : decode cX10_foremost 2 = .ok (.iconst 0, 1) := by decide +kernel
theorem dX10_foremost_3 : decode cX10_foremost 3 = .ok (.istore 4, 2) := by decide +kernel
theorem dX10_foremost_5 : decode cX10_foremost 5 = .ok (.iload 4, 2) := by decide +kernel
theorem dX10_foremost_7 : decode cX10_foremost 7 = .ok (.iload_n 2, 1) := by decide +kernel
theorem dX10_foremost_8 : decode cX10_foremost 8 = .ok (.if_icmp .ge 84, 3) := by decide +kernel
theorem dX10_foremost_11 : decode cX10_foremost 11 = .ok (.iconst (-1), 1) := by decide +kernel
theorem dX10_foremost_12 : decode cX10_foremost 12 = .ok (.istore 5, 2) := by decide +kernel
theorem dX10_foremost_14 : decode cX10_foremost 14 = .ok (.iconst 0, 1) := by decide +kernel
theorem dX10_foremost_15 : decode cX10_foremost 15 = .ok (.istore 6, 2) := by decide +kernel
theorem dX10_foremost_17 : decode cX10_foremost 17 = .ok (.iconst 0, 1) := by decide +kernel
theorem dX10_foremost_18 : decode cX10_foremost 18 = .ok (.istore 7, 2) := by decide +kernel
theorem dX10_foremost_20 : decode cX10_foremost 20 = .ok (.iload 7, 2) := by decide +kernel
theorem dX10_foremost_22 : decode cX10_foremost 22 = .ok (.aload_n 0, 1) := by decide +kernel
theorem dX10_foremost_23 : decode cX10_foremost 23 = .ok (.getfield 33, 3) := by decide +kernel
theorem dX10_foremost_26 : decode cX10_foremost 26 = .ok (.getfield 68, 3) := by decide +kernel
theorem dX10_foremost_29 : decode cX10_foremost 29 = .ok (.if_icmp .ge 42, 3) := by decide +kernel
theorem dX10_foremost_32 : decode cX10_foremost 32 = .ok (.aload_n 0, 1) := by decide +kernel
theorem dX10_foremost_33 : decode cX10_foremost 33 = .ok (.iload 7, 2) := by decide +kernel
theorem dX10_foremost_35 : decode cX10_foremost 35 = .ok (.iload_n 1, 1) := by decide +kernel
theorem dX10_foremost_36 : decode cX10_foremost 36 = .ok (.invokevirtual 60, 3) := by decide +kernel
theorem dX10_foremost_39 : decode cX10_foremost 39 = .ok (.istore 8, 2) := by decide +kernel
theorem dX10_foremost_41 : decode cX10_foremost 41 = .ok (.iload_n 3, 1) := by decide +kernel
theorem dX10_foremost_42 : decode cX10_foremost 42 = .ok (.iload 7, 2) := by decide +kernel
theorem dX10_foremost_44 : decode cX10_foremost 44 = .ok (.ishr, 1) := by decide +kernel
theorem dX10_foremost_45 : decode cX10_foremost 45 = .ok (.iconst 1, 1) := by decide +kernel
theorem dX10_foremost_46 : decode cX10_foremost 46 = .ok (.iand, 1) := by decide +kernel
theorem dX10_foremost_47 : decode cX10_foremost 47 = .ok (.ifCond .ne 18, 3) := by decide +kernel
theorem dX10_foremost_50 : decode cX10_foremost 50 = .ok (.iload 8, 2) := by decide +kernel
theorem dX10_foremost_52 : decode cX10_foremost 52 = .ok (.iload 6, 2) := by decide +kernel
theorem dX10_foremost_54 : decode cX10_foremost 54 = .ok (.if_icmp .le 11, 3) := by decide +kernel
theorem dX10_foremost_57 : decode cX10_foremost 57 = .ok (.iload 7, 2) := by decide +kernel
theorem dX10_foremost_59 : decode cX10_foremost 59 = .ok (.istore 5, 2) := by decide +kernel
theorem dX10_foremost_61 : decode cX10_foremost 61 = .ok (.iload 8, 2) := by decide +kernel
theorem dX10_foremost_63 : decode cX10_foremost 63 = .ok (.istore 6, 2) := by decide +kernel
theorem dX10_foremost_65 : decode cX10_foremost 65 = .ok (.iinc 7 1, 3) := by decide +kernel
theorem dX10_foremost_68 : decode cX10_foremost 68 = .ok (.goto (-48), 3) := by decide +kernel
theorem dX10_foremost_71 : decode cX10_foremost 71 = .ok (.iload 5, 2) := by decide +kernel
theorem dX10_foremost_73 : decode cX10_foremost 73 = .ok (.iconst (-1), 1) := by decide +kernel
theorem dX10_foremost_74 : decode cX10_foremost 74 = .ok (.if_icmp .ne 5, 3) := by decide +kernel
theorem dX10_foremost_77 : decode cX10_foremost 77 = .ok (.iload_n 3, 1) := by decide +kernel
theorem dX10_foremost_78 : decode cX10_foremost 78 = .ok (.ireturn, 1) := by decide +kernel
theorem dX10_foremost_79 : decode cX10_foremost 79 = .ok (.iload_n 3, 1) := by decide +kernel
theorem dX10_foremost_80 : decode cX10_foremost 80 = .ok (.iconst 1, 1) := by decide +kernel
theorem dX10_foremost_81 : decode cX10_foremost 81 = .ok (.iload 5, 2) := by decide +kernel
theorem dX10_foremost_83 : decode cX10_foremost 83 = .ok (.ishl, 1) := by decide +kernel
theorem dX10_foremost_84 : decode cX10_foremost 84 = .ok (.ior, 1) := by decide +kernel
theorem dX10_foremost_85 : decode cX10_foremost 85 = .ok (.istore_n 3, 1) := by decide +kernel
theorem dX10_foremost_86 : decode cX10_foremost 86 = .ok (.iinc 4 1, 3) := by decide +kernel
theorem dX10_foremost_89 : decode cX10_foremost 89 = .ok (.goto (-84), 3) := by decide +kernel
theorem dX10_foremost_92 : decode cX10_foremost 92 = .ok (.iload_n 3, 1) := by decide +kernel
theorem dX10_foremost_93 : decode cX10_foremost 93 = .ok (.ireturn, 1) := by decide +kernel
theorem dX11_init_0 : decode cX11_init 0 = .ok (.aload_n 0, 1) := by decide +kernel
theorem dX11_init_1 : decode cX11_init 1 = .ok (.invokespecial 1, 3) := by decide +kernel
theorem dX11_init_4 : decode cX11_init 4 = .ok (.aload_n 0, 1) := by decide +kernel
theorem dX11_init_5 : decode cX11_init 5 = .ok (.new 7, 3) := by decide +kernel
theorem dX11_init_8 : decode cX11_init 8 = .ok (.dup, 1) := by decide +kernel
theorem dX11_init_9 : decode cX11_init 9 = .ok (.invokespecial 9, 3) := by decide +kernel
theorem dX11_init_12 : decode cX11_init 12 = .ok (.putfield 10, 3) := by decide +kernel
theorem dX11_init_15 : decode cX11_init 15 = .ok (.aload_n 0, 1) := by decide +kernel
theorem dX11_init_16 : decode cX11_init 16 = .ok (.new 16, 3) := by decide +kernel
theorem dX11_init_19 : decode cX11_init 19 = .ok (.dup, 1) := by decide +kernel
theorem dX11_init_20 : decode cX11_init 20 = .ok (.invokespecial 18, 3) := by decide +kernel
theorem dX11_init_23 : decode cX11_init 23 = .ok (.putfield 19, 3) := by decide +kernel
theorem dX11_init_26 : decode cX11_init 26 = .ok (.aload_n 0, 1) := by decide +kernel
theorem dX11_init_27 : decode cX11_init 27 = .ok (.new 23, 3) := by decide +kernel
theorem dX11_init_30 : decode cX11_init 30 = .ok (.dup, 1) := by decide +kernel
theorem dX11_init_31 : decode cX11_init 31 = .ok (.invokespecial 25, 3) := by decide +kernel
theorem dX11_init_34 : decode cX11_init 34 = .ok (.putfield 26, 3) := by decide +kernel
theorem dX11_init_37 : decode cX11_init 37 = .ok (.aload_n 0, 1) := by decide +kernel
theorem dX11_init_38 : decode cX11_init 38 = .ok (.new 23, 3) := by decide +kernel
theorem dX11_init_41 : decode cX11_init 41 = .ok (.dup, 1) := by decide +kernel
theorem dX11_init_42 : decode cX11_init 42 = .ok (.invokespecial 25, 3) := by decide +kernel
theorem dX11_init_45 : decode cX11_init 45 = .ok (.putfield 30, 3) := by decide +kernel
theorem dX11_init_48 : decode cX11_init 48 = .ok (.aload_n 0, 1) := by decide +kernel
theorem dX11_init_49 : decode cX11_init 49 = .ok (.bipush 6, 2) := by decide +kernel
theorem dX11_init_51 : decode cX11_init 51 = .ok (.anewarray 33, 3) := by decide +kernel
theorem dX11_init_54 : decode cX11_init 54 = .ok (.putfield 35, 3) := by decide +kernel
theorem dX11_init_57 : decode cX11_init 57 = .ok (.iconst 0, 1) := by decide +kernel
theorem dX11_init_58 : decode cX11_init 58 = .ok (.istore_n 1, 1) := by decide +kernel
theorem dX11_init_59 : decode cX11_init 59 = .ok (.iload_n 1, 1) := by decide +kernel
theorem dX11_init_60 : decode cX11_init 60 = .ok (.bipush 6, 2) := by decide +kernel
theorem dX11_init_62 : decode cX11_init 62 = .ok (.if_icmp .ge 22, 3) := by decide +kernel
theorem dX11_init_65 : decode cX11_init 65 = .ok (.aload_n 0, 1) := by decide +kernel
theorem dX11_init_66 : decode cX11_init 66 = .ok (.getfield 35, 3) := by decide +kernel
theorem dX11_init_69 : decode cX11_init 69 = .ok (.iload_n 1, 1) := by decide +kernel
theorem dX11_init_70 : decode cX11_init 70 = .ok (.new 33, 3) := by decide +kernel
theorem dX11_init_73 : decode cX11_init 73 = .ok (.dup, 1) := by decide +kernel
theorem dX11_init_74 : decode cX11_init 74 = .ok (.invokespecial 39, 3) := by decide +kernel
theorem dX11_init_77 : decode cX11_init 77 = .ok (.aastore, 1) := by decide +kernel
theorem dX11_init_78 : decode cX11_init 78 = .ok (.iinc 1 1, 3) := by decide +kernel
theorem dX11_init_81 : decode cX11_init 81 = .ok (.goto (-22), 3) := by decide +kernel
theorem dX11_init_84 : decode cX11_init 84 = .ok (.aload_n 0, 1) := by decide +kernel
theorem dX11_init_85 : decode cX11_init 85 = .ok (.new 40, 3) := by decide +kernel
theorem dX11_init_88 : decode cX11_init 88 = .ok (.dup, 1) := by decide +kernel
theorem dX11_init_89 : decode cX11_init 89 = .ok (.aload_n 0, 1) := by decide +kernel
theorem dX11_init_90 : decode cX11_init 90 = .ok (.getfield 35, 3) := by decide +kernel
theorem dX11_init_93 : decode cX11_init 93 = .ok (.iconst 0, 1) := by decide +kernel
theorem dX11_init_94 : decode cX11_init 94 = .ok (.aaload, 1) := by decide +kernel
theorem dX11_init_95 : decode cX11_init 95 = .ok (.invokespecial 42, 3) := by decide +kernel
theorem dX11_init_98 : decode cX11_init 98 = .ok (.putfield 45, 3) := by decide +kernel
theorem dX11_init_101 : decode cX11_init 101 = .ok (.aload_n 0, 1) := by decide +kernel
theorem dX11_init_102 : decode cX11_init 102 = .ok (.new 49, 3) := by decide +kernel
theorem dX11_init_105 : decode cX11_init 105 = .ok (.dup, 1) := by decide +kernel
theorem dX11_init_106 : decode cX11_init 106 = .ok (.aload_n 0, 1) := by decide +kernel
theorem dX11_init_107 : decode cX11_init 107 = .ok (.getfield 10, 3) := by decide +kernel
theorem dX11_init_110 : decode cX11_init 110 = .ok (.aload_n 0, 1) := by decide +kernel
theorem dX11_init_111 : decode cX11_init 111 = .ok (.getfield 19, 3) := by decide +kernel
theorem dX11_init_114 : decode cX11_init 114 = .ok (.aload_n 0, 1) := by decide +kernel
theorem dX11_init_115 : decode cX11_init 115 = .ok (.getfield 26, 3) := by decide +kernel
theorem dX11_init_118 : decode cX11_init 118 = .ok (.aload_n 0, 1) := by decide +kernel
theorem dX11_init_119 : decode cX11_init 119 = .ok (.getfield 35, 3) := by decide +kernel
theorem dX11_init_122 : decode cX11_init 122 = .ok (.iconst 0, 1) := by decide +kernel
theorem dX11_init_123 : decode cX11_init 123 = .ok (.aaload, 1) := by decide +kernel
theorem dX11_init_124 : decode cX11_init 124 = .ok (.invokespecial 51, 3) := by decide +kernel
theorem dX11_init_127 : decode cX11_init 127 = .ok (.putfield 54, 3) := by decide +kernel
theorem dX11_init_130 : decode cX11_init 130 = .ok (.aload_n 0, 1) := by decide +kernel
theorem dX11_init_131 : decode cX11_init 131 = .ok (.new 58, 3) := by decide +kernel
theorem dX11_init_134 : decode cX11_init 134 = .ok (.dup, 1) := by decide +kernel
theorem dX11_init_135 : decode cX11_init 135 = .ok (.aload_n 0, 1) := by decide +kernel
theorem dX11_init_136 : decode cX11_init 136 = .ok (.getfield 10, 3) := by decide +kernel
theorem dX11_init_139 : decode cX11_init 139 = .ok (.aload_n 0, 1) := by decide +kernel
theorem dX11_init_140 : decode cX11_init 140 = .ok (.getfield 19, 3) := by decide +kernel
theorem dX11_init_143 : decode cX11_init 143 = .ok (.aload_n 0, 1) := by decide +kernel
theorem dX11_init_144 : decode cX11_init 144 = .ok (.getfield 35, 3) := by decide +kernel
theorem dX11_init_147 : decode cX11_init 147 = .ok (.aload_n 0, 1) := by decide +kernel
theorem dX11_init_148 : decode cX11_init 148 = .ok (.getfield 54, 3) := by decide +kernel
theorem dX11_init_151 : decode cX11_init 151 = .ok (.invokespecial 60, 3) := by decide +kernel
theorem dX11_init_154 : decode cX11_init 154 = .ok (.putfield 63, 3) := by decide +kernel
theorem dX11_init_157 : decode cX11_init 157 = .ok (.aload_n 0, 1) := by decide +kernel
theorem dX11_init_158 : decode cX11_init 158 = .ok (.new 67, 3) := by decide +kernel
theorem dX11_init_161 : decode cX11_init 161 = .ok (.dup, 1) := by decide +kernel
theorem dX11_init_162 : decode cX11_init 162 = .ok (.aload_n 0, 1) := by decide +kernel
theorem dX11_init_163 : decode cX11_init 163 = .ok (.getfield 10, 3) := by decide +kernel
theorem dX11_init_166 : decode cX11_init 166 = .ok (.aload_n 0, 1) := by decide +kernel
theorem dX11_init_167 : decode cX11_init 167 = .ok (.getfield 19, 3) := by decide +kernel
theorem dX11_init_170 : decode cX11_init 170 = .ok (.aload_n 0, 1) := by decide +kernel
theorem dX11_init_171 : decode cX11_init 171 = .ok (.getfield 26, 3) := by decide +kernel
theorem dX11_init_174 : decode cX11_init 174 = .ok (.invokespecial 69, 3) := by decide +kernel
theorem dX11_init_177 : decode cX11_init 177 = .ok (.putfield 72, 3) := by decide +kernel
theorem dX11_init_180 : decode cX11_init 180 = .ok (.aload_n 0, 1) := by decide +kernel
theorem dX11_init_181 : decode cX11_init 181 = .ok (.new 76, 3) := by decide +kernel
theorem dX11_init_184 : decode cX11_init 184 = .ok (.dup, 1) := by decide +kernel
theorem dX11_init_185 : decode cX11_init 185 = .ok (.invokespecial 78, 3) := by decide +kernel
theorem dX11_init_188 : decode cX11_init 188 = .ok (.putfield 79, 3) := by decide +kernel
theorem dX11_init_191 : decode cX11_init 191 = .ok (.aload_n 0, 1) := by decide +kernel
theorem dX11_init_192 : decode cX11_init 192 = .ok (.new 83, 3) := by decide +kernel
theorem dX11_init_195 : decode cX11_init 195 = .ok (.dup, 1) := by decide +kernel
theorem dX11_init_196 : decode cX11_init 196 = .ok (.invokespecial 85, 3) := by decide +kernel
theorem dX11_init_199 : decode cX11_init 199 = .ok (.putfield 86, 3) := by decide +kernel
theorem dX11_init_202 : decode cX11_init 202 = .ok (.aload_n 0, 1) := by decide +kernel
theorem dX11_init_203 : decode cX11_init 203 = .ok (.new 90, 3) := by decide +kernel
theorem dX11_init_206 : decode cX11_init 206 = .ok (.dup, 1) := by decide +kernel
theorem dX11_init_207 : decode cX11_init 207 = .ok (.invokespecial 92, 3) := by decide +kernel
theorem dX11_init_210 : decode cX11_init 210 = .ok (.putfield 93, 3) := by decide +kernel
theorem dX11_init_213 : decode cX11_init 213 = .ok (.aload_n 0, 1) := by decide +kernel
theorem dX11_init_214 : decode cX11_init 214 = .ok (.getfield 93, 3) := by decide +kernel
theorem dX11_init_217 : decode cX11_init 217 = .ok (.aload_n 0, 1) := by decide +kernel
theorem dX11_init_218 : decode cX11_init 218 = .ok (.getfield 19, 3) := by decide +kernel
theorem dX11_init_221 : decode cX11_init 221 = .ok (.aload_n 0, 1) := by decide +kernel
theorem dX11_init_222 : decode cX11_init 222 = .ok (.getfield 26, 3) := by decide +kernel
theorem dX11_init_225 : decode cX11_init 225 = .ok (.invokevirtual 97, 3) := by decide +kernel
theorem dX11_init_228 : decode cX11_init 228 = .ok (.return_, 1) := by decide +kernel
theorem dX11_name_0 : decode cX11_name 0 = .ok (.lload_n 1, 1) := by decide +kernel
theorem dX11_name_1 : decode cX11_name 1 = .ok (.invokestatic 101, 3) := by decide +kernel
theorem dX11_name_4 : decode cX11_name 4 = .ok (.istore 4, 2) := by decide +kernel
theorem dX11_name_6 : decode cX11_name 6 = .ok (.iload 4, 2) := by decide +kernel
theorem dX11_name_8 : decode cX11_name 8 = .ok (.ifCond .eq 35, 3) := by decide +kernel
theorem dX11_name_11 : decode cX11_name 11 = .ok (.iload_n 3, 1) := by decide +kernel
theorem dX11_name_12 : decode cX11_name 12 = .ok (.iconst 1, 1) := by decide +kernel
theorem dX11_name_13 : decode cX11_name 13 = .ok (.iconst 3, 1) := by decide +kernel
theorem dX11_name_14 : decode cX11_name 14 = .ok (.invokestatic 105, 3) := by decide +kernel
theorem dX11_name_17 : decode cX11_name 17 = .ok (.ifCond .eq 26, 3) := by decide +kernel
theorem dX11_name_20 : decode cX11_name 20 = .ok (.aload_n 0, 1) := by decide +kernel
theorem dX11_name_21 : decode cX11_name 21 = .ok (.getfield 10, 3) := by decide +kernel
theorem dX11_name_24 : decode cX11_name 24 = .ok (.getfield 109, 3) := by decide +kernel
theorem dX11_name_27 : decode cX11_name 27 = .ok (.bipush 16, 2) := by decide +kernel
theorem dX11_name_29 : decode cX11_name 29 = .ok (.if_icmp .ge 14, 3) := by decide +kernel
theorem dX11_name_32 : decode cX11_name 32 = .ok (.aload_n 0, 1) := by decide +kernel
theorem dX11_name_33 : decode cX11_name 33 = .ok (.getfield 10, 3) := by decide +kernel
theorem dX11_name_36 : decode cX11_name 36 = .ok (.lload_n 1, 1) := by decide +kernel
theorem dX11_name_37 : decode cX11_name 37 = .ok (.invokevirtual 113, 3) := by decide +kernel
theorem dX11_name_40 : decode cX11_name 40 = .ok (.ifCond .eq 5, 3) := by decide +kernel
theorem dX11_name_43 : decode cX11_name 43 = .ok (.iconst (-1), 1) := by decide +kernel
theorem dX11_name_44 : decode cX11_name 44 = .ok (.ireturn, 1) := by decide +kernel
theorem dX11_name_45 : decode cX11_name 45 = .ok (.aload_n 0, 1) := by decide +kernel
theorem dX11_name_46 : decode cX11_name 46 = .ok (.getfield 86, 3) := by decide +kernel
theorem dX11_name_49 : decode cX11_name 49 = .ok (.invokevirtual 117, 3) := by decide +kernel
theorem dX11_name_52 : decode cX11_name 52 = .ok (.aload_n 0, 1) := by decide +kernel
theorem dX11_name_53 : decode cX11_name 53 = .ok (.getfield 10, 3) := by decide +kernel
theorem dX11_name_56 : decode cX11_name 56 = .ok (.lload_n 1, 1) := by decide +kernel
theorem dX11_name_57 : decode cX11_name 57 = .ok (.iload 4, 2) := by decide +kernel
theorem dX11_name_59 : decode cX11_name 59 = .ok (.iload_n 3, 1) := by decide +kernel
theorem dX11_name_60 : decode cX11_name 60 = .ok (.aload_n 0, 1) := by decide +kernel
theorem dX11_name_61 : decode cX11_name 61 = .ok (.getfield 19, 3) := by decide +kernel
theorem dX11_name_64 : decode cX11_name 64 = .ok (.getfield 120, 3) := by decide +kernel
theorem dX11_name_67 : decode cX11_name 67 = .ok (.invokevirtual 123, 3) := by decide +kernel
theorem dX11_name_70 : decode cX11_name 70 = .ok (.ireturn, 1) := by decide +kernel
theorem dX11_of_0 : decode cX11_of 0 = .ok (.aload_n 0, 1) := by decide +kernel
theorem dX11_of_1 : decode cX11_of 1 = .ok (.getfield 10, 3) := by decide +kernel
theorem dX11_of_4 : decode cX11_of 4 = .ok (.iload_n 1, 1) := by decide +kernel
theorem dX11_of_5 : decode cX11_of 5 = .ok (.invokevirtual 127, 3) := by decide +kernel
theorem dX11_of_8 : decode cX11_of 8 = .ok (.ifCond .ne 5, 3) := by decide +kernel
theorem dX11_of_11 : decode cX11_of 11 = .ok (.iconst (-1), 1) := by decide +kernel
theorem dX11_of_12 : decode cX11_of 12 = .ok (.ireturn, 1) := by decide +kernel
theorem dX11_of_13 : decode cX11_of 13 = .ok (.iload_n 2, 1) := by decide +kernel
theorem dX11_of_14 : decode cX11_of 14 = .ok (.tableswitch 91 0 4 #[34, 44, 54, 63, 73], 34) := by decide +kernel
theorem dX11_of_48 : decode cX11_of 48 = .ok (.aload_n 0, 1) := by decide +kernel
theorem dX11_of_49 : decode cX11_of 49 = .ok (.getfield 10, 3) := by decide +kernel
theorem dX11_of_52 : decode cX11_of 52 = .ok (.getfield 131, 3) := by decide +kernel
theorem dX11_of_55 : decode cX11_of 55 = .ok (.iload_n 1, 1) := by decide +kernel
theorem dX11_of_56 : decode cX11_of 56 = .ok (.iaload, 1) := by decide +kernel
theorem dX11_of_57 : decode cX11_of 57 = .ok (.ireturn, 1) := by decide +kernel
theorem dX11_of_58 : decode cX11_of 58 = .ok (.aload_n 0, 1) := by decide +kernel
theorem dX11_of_59 : decode cX11_of 59 = .ok (.getfield 10, 3) := by decide +kernel
theorem dX11_of_62 : decode cX11_of 62 = .ok (.getfield 135, 3) := by decide +kernel
theorem dX11_of_65 : decode cX11_of 65 = .ok (.iload_n 1, 1) := by decide +kernel
theorem dX11_of_66 : decode cX11_of 66 = .ok (.iaload, 1) := by decide +kernel
theorem dX11_of_67 : decode cX11_of 67 = .ok (.ireturn, 1) := by decide +kernel
theorem dX11_of_68 : decode cX11_of 68 = .ok (.aload_n 0, 1) := by decide +kernel
theorem dX11_of_69 : decode cX11_of 69 = .ok (.getfield 10, 3) := by decide +kernel
theorem dX11_of_72 : decode cX11_of 72 = .ok (.iload_n 1, 1) := by decide +kernel
theorem dX11_of_73 : decode cX11_of 73 = .ok (.invokevirtual 138, 3) := by decide +kernel
theorem dX11_of_76 : decode cX11_of 76 = .ok (.ireturn, 1) := by decide +kernel
theorem dX11_of_77 : decode cX11_of 77 = .ok (.aload_n 0, 1) := by decide +kernel
theorem dX11_of_78 : decode cX11_of 78 = .ok (.getfield 10, 3) := by decide +kernel
theorem dX11_of_81 : decode cX11_of 81 = .ok (.getfield 142, 3) := by decide +kernel
theorem dX11_of_84 : decode cX11_of 84 = .ok (.iload_n 1, 1) := by decide +kernel
theorem dX11_of_85 : decode cX11_of 85 = .ok (.iaload, 1) := by decide +kernel
theorem dX11_of_86 : decode cX11_of 86 = .ok (.ireturn, 1) := by decide +kernel
theorem dX11_of_87 : decode cX11_of 87 = .ok (.aload_n 0, 1) := by decide +kernel
theorem dX11_of_88 : decode cX11_of 88 = .ok (.getfield 72, 3) := by decide +kernel
theorem dX11_of_91 : decode cX11_of 91 = .ok (.iload_n 1, 1) := by decide +kernel
theorem dX11_of_92 : decode cX11_of 92 = .ok (.aload_n 0, 1) := by decide +kernel
theorem dX11_of_93 : decode cX11_of 93 = .ok (.getfield 19, 3) := by decide +kernel
theorem dX11_of_96 : decode cX11_of 96 = .ok (.getfield 120, 3) := by decide +kernel
theorem dX11_of_99 : decode cX11_of 99 = .ok (.iconst 1, 1) := by decide +kernel
theorem dX11_of_100 : decode cX11_of 100 = .ok (.isub, 1) := by decide +kernel
theorem dX11_of_101 : decode cX11_of 101 = .ok (.invokevirtual 145, 3) := by decide +kernel
theorem dX11_of_104 : decode cX11_of 104 = .ok (.ireturn, 1) := by decide +kernel
theorem dX11_of_105 : decode cX11_of 105 = .ok (.iconst (-1), 1) := by decide +kernel
theorem dX11_of_106 : decode cX11_of 106 = .ok (.ireturn, 1) := by decide +kernel
theorem dX11_alike_0 : decode cX11_alike 0 = .ok (.aload_n 0, 1) := by decide +kernel
theorem dX11_alike_1 : decode cX11_alike 1 = .ok (.getfield 10, 3) := by decide +kernel
theorem dX11_alike_4 : decode cX11_alike 4 = .ok (.iload_n 1, 1) := by decide +kernel
theorem dX11_alike_5 : decode cX11_alike 5 = .ok (.invokevirtual 127, 3) := by decide +kernel
theorem dX11_alike_8 : decode cX11_alike 8 = .ok (.ifCond .eq 14, 3) := by decide +kernel
theorem dX11_alike_11 : decode cX11_alike 11 = .ok (.aload_n 0, 1) := by decide +kernel
theorem dX11_alike_12 : decode cX11_alike 12 = .ok (.getfield 10, 3) := by decide +kernel
theorem dX11_alike_15 : decode cX11_alike 15 = .ok (.iload_n 2, 1) := by decide +kernel
theorem dX11_alike_16 : decode cX11_alike 16 = .ok (.invokevirtual 127, 3) := by decide +kernel
theorem dX11_alike_19 : decode cX11_alike 19 = .ok (.ifCond .ne 5, 3) := by decide +kernel
theorem dX11_alike_22 : decode cX11_alike 22 = .ok (.iconst (-1), 1) := by decide +kernel
theorem dX11_alike_23 : decode cX11_alike 23 = .ok (.ireturn, 1) := by decide +kernel
theorem dX11_alike_24 : decode cX11_alike 24 = .ok (.aload_n 0, 1) := by decide +kernel
theorem dX11_alike_25 : decode cX11_alike 25 = .ok (.getfield 10, 3) := by decide +kernel
theorem dX11_alike_28 : decode cX11_alike 28 = .ok (.iload_n 1, 1) := by decide +kernel
theorem dX11_alike_29 : decode cX11_alike 29 = .ok (.iload_n 2, 1) := by decide +kernel
theorem dX11_alike_30 : decode cX11_alike 30 = .ok (.invokevirtual 149, 3) := by decide +kernel
theorem dX11_alike_33 : decode cX11_alike 33 = .ok (.ifCond .eq 7, 3) := by decide +kernel
theorem dX11_alike_36 : decode cX11_alike 36 = .ok (.iconst 1, 1) := by decide +kernel
theorem dX11_alike_37 : decode cX11_alike 37 = .ok (.goto 4, 3) := by decide +kernel
theorem dX11_alike_40 : decode cX11_alike 40 = .ok (.iconst 0, 1) := by decide +kernel
theorem dX11_alike_41 : decode cX11_alike 41 = .ok (.ireturn, 1) := by decide +kernel
theorem dX11_born_0 : decode cX11_born 0 = .ok (.aload_n 0, 1) := by decide +kernel
theorem dX11_born_1 : decode cX11_born 1 = .ok (.getfield 19, 3) := by decide +kernel
theorem dX11_born_4 : decode cX11_born 4 = .ok (.getfield 120, 3) := by decide +kernel
theorem dX11_born_7 : decode cX11_born 7 = .ok (.ifCond .ne 24, 3) := by decide +kernel
theorem dX11_born_10 : decode cX11_born 10 = .ok (.aload_n 0, 1) := by decide +kernel
theorem dX11_born_11 : decode cX11_born 11 = .ok (.getfield 10, 3) := by decide +kernel
theorem dX11_born_14 : decode cX11_born 14 = .ok (.iload_n 1, 1) := by decide +kernel
theorem dX11_born_15 : decode cX11_born 15 = .ok (.invokevirtual 127, 3) := by decide +kernel
theorem dX11_born_18 : decode cX11_born 18 = .ok (.ifCond .eq 13, 3) := by decide +kernel
theorem dX11_born_21 : decode cX11_born 21 = .ok (.iload_n 2, 1) := by decide +kernel
theorem dX11_born_22 : decode cX11_born 22 = .ok (.iload_n 3, 1) := by decide +kernel
theorem dX11_born_23 : decode cX11_born 23 = .ok (.iload 4, 2) := by decide +kernel
theorem dX11_born_25 : decode cX11_born 25 = .ok (.invokestatic 153, 3) := by decide +kernel
