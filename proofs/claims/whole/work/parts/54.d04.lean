theorem dX12_life_31 : decode cX12_life 31 = .ok (.ireturn, 1) := by decide +kernel
theorem dX12_cradles_0 : decode cX12_cradles 0 = .ok (.iload_n 1, 1) := by decide +kernel
theorem dX12_cradles_1 : decode cX12_cradles 1 = .ok (.iload_n 2, 1) := by decide +kernel
theorem dX12_cradles_2 : decode cX12_cradles 2 = .ok (.iload_n 3, 1) := by decide +kernel
theorem dX12_cradles_3 : decode cX12_cradles 3 = .ok (.invokestatic 203, 3) := by decide +kernel
theorem dX12_cradles_6 : decode cX12_cradles 6 = .ok (.ifCond .eq 14, 3) := by decide +kernel
theorem dX12_cradles_9 : decode cX12_cradles 9 = .ok (.iload 4, 2) := by decide +kernel
theorem dX12_cradles_11 : decode cX12_cradles 11 = .ok (.iconst 0, 1) := by decide +kernel
theorem dX12_cradles_12 : decode cX12_cradles 12 = .ok (.bipush 6, 2) := by decide +kernel
theorem dX12_cradles_14 : decode cX12_cradles 14 = .ok (.invokestatic 152, 3) := by decide +kernel
theorem dX12_cradles_17 : decode cX12_cradles 17 = .ok (.ifCond .ne 5, 3) := by decide +kernel
theorem dX12_cradles_20 : decode cX12_cradles 20 = .ok (.iconst 0, 1) := by decide +kernel
theorem dX12_cradles_21 : decode cX12_cradles 21 = .ok (.ireturn, 1) := by decide +kernel
theorem dX12_cradles_22 : decode cX12_cradles 22 = .ok (.aload_n 0, 1) := by decide +kernel
theorem dX12_cradles_23 : decode cX12_cradles 23 = .ok (.getfield 7, 3) := by decide +kernel
theorem dX12_cradles_26 : decode cX12_cradles 26 = .ok (.bipush 10, 2) := by decide +kernel
theorem dX12_cradles_28 : decode cX12_cradles 28 = .ok (.iload_n 1, 1) := by decide +kernel
theorem dX12_cradles_29 : decode cX12_cradles 29 = .ok (.iload_n 2, 1) := by decide +kernel
theorem dX12_cradles_30 : decode cX12_cradles 30 = .ok (.iload_n 3, 1) := by decide +kernel
theorem dX12_cradles_31 : decode cX12_cradles 31 = .ok (.invokestatic 206, 3) := by decide +kernel
theorem dX12_cradles_34 : decode cX12_cradles 34 = .ok (.iadd, 1) := by decide +kernel
theorem dX12_cradles_35 : decode cX12_cradles 35 = .ok (.iload 4, 2) := by decide +kernel
theorem dX12_cradles_37 : decode cX12_cradles 37 = .ok (.iastore, 1) := by decide +kernel
theorem dX12_cradles_38 : decode cX12_cradles 38 = .ok (.iconst 1, 1) := by decide +kernel
theorem dX12_cradles_39 : decode cX12_cradles 39 = .ok (.ireturn, 1) := by decide +kernel
theorem dX12_list_0 : decode cX12_list 0 = .ok (.iload_n 1, 1) := by decide +kernel
theorem dX12_list_1 : decode cX12_list 1 = .ok (.aload_n 0, 1) := by decide +kernel
theorem dX12_list_2 : decode cX12_list 2 = .ok (.getfield 7, 3) := by decide +kernel
theorem dX12_list_5 : decode cX12_list 5 = .ok (.iconst 0, 1) := by decide +kernel
theorem dX12_list_6 : decode cX12_list 6 = .ok (.iaload, 1) := by decide +kernel
theorem dX12_list_7 : decode cX12_list 7 = .ok (.bipush 60, 2) := by decide +kernel
theorem dX12_list_9 : decode cX12_list 9 = .ok (.invokestatic 152, 3) := by decide +kernel
theorem dX12_list_12 : decode cX12_list 12 = .ok (.ifCond .eq 14, 3) := by decide +kernel
theorem dX12_list_15 : decode cX12_list 15 = .ok (.aload_n 0, 1) := by decide +kernel
theorem dX12_list_16 : decode cX12_list 16 = .ok (.getfield 7, 3) := by decide +kernel
theorem dX12_list_19 : decode cX12_list 19 = .ok (.iconst 2, 1) := by decide +kernel
theorem dX12_list_20 : decode cX12_list 20 = .ok (.iaload, 1) := by decide +kernel
theorem dX12_list_21 : decode cX12_list 21 = .ok (.bipush 8, 2) := by decide +kernel
theorem dX12_list_23 : decode cX12_list 23 = .ok (.if_icmp .ne 5, 3) := by decide +kernel
theorem dX12_list_26 : decode cX12_list 26 = .ok (.iconst (-1), 1) := by decide +kernel
theorem dX12_list_27 : decode cX12_list 27 = .ok (.ireturn, 1) := by decide +kernel
theorem dX12_list_28 : decode cX12_list 28 = .ok (.aload_n 0, 1) := by decide +kernel
theorem dX12_list_29 : decode cX12_list 29 = .ok (.getfield 7, 3) := by decide +kernel
theorem dX12_list_32 : decode cX12_list 32 = .ok (.bipush 50, 2) := by decide +kernel
theorem dX12_list_34 : decode cX12_list 34 = .ok (.iconst 2, 1) := by decide +kernel
theorem dX12_list_35 : decode cX12_list 35 = .ok (.aload_n 0, 1) := by decide +kernel
theorem dX12_list_36 : decode cX12_list 36 = .ok (.getfield 7, 3) := by decide +kernel
theorem dX12_list_39 : decode cX12_list 39 = .ok (.iconst 2, 1) := by decide +kernel
theorem dX12_list_40 : decode cX12_list 40 = .ok (.iaload, 1) := by decide +kernel
theorem dX12_list_41 : decode cX12_list 41 = .ok (.imul, 1) := by decide +kernel
theorem dX12_list_42 : decode cX12_list 42 = .ok (.iadd, 1) := by decide +kernel
theorem dX12_list_43 : decode cX12_list 43 = .ok (.iload_n 1, 1) := by decide +kernel
theorem dX12_list_44 : decode cX12_list 44 = .ok (.iastore, 1) := by decide +kernel
theorem dX12_list_45 : decode cX12_list 45 = .ok (.aload_n 0, 1) := by decide +kernel
theorem dX12_list_46 : decode cX12_list 46 = .ok (.getfield 7, 3) := by decide +kernel
theorem dX12_list_49 : decode cX12_list 49 = .ok (.bipush 50, 2) := by decide +kernel
theorem dX12_list_51 : decode cX12_list 51 = .ok (.iconst 2, 1) := by decide +kernel
theorem dX12_list_52 : decode cX12_list 52 = .ok (.aload_n 0, 1) := by decide +kernel
theorem dX12_list_53 : decode cX12_list 53 = .ok (.getfield 7, 3) := by decide +kernel
theorem dX12_list_56 : decode cX12_list 56 = .ok (.iconst 2, 1) := by decide +kernel
theorem dX12_list_57 : decode cX12_list 57 = .ok (.iaload, 1) := by decide +kernel
theorem dX12_list_58 : decode cX12_list 58 = .ok (.imul, 1) := by decide +kernel
theorem dX12_list_59 : decode cX12_list 59 = .ok (.iadd, 1) := by decide +kernel
theorem dX12_list_60 : decode cX12_list 60 = .ok (.iconst 1, 1) := by decide +kernel
theorem dX12_list_61 : decode cX12_list 61 = .ok (.iadd, 1) := by decide +kernel
theorem dX12_list_62 : decode cX12_list 62 = .ok (.iload_n 2, 1) := by decide +kernel
theorem dX12_list_63 : decode cX12_list 63 = .ok (.iconst 1, 1) := by decide +kernel
theorem dX12_list_64 : decode cX12_list 64 = .ok (.aload_n 0, 1) := by decide +kernel
theorem dX12_list_65 : decode cX12_list 65 = .ok (.getfield 7, 3) := by decide +kernel
theorem dX12_list_68 : decode cX12_list 68 = .ok (.iconst 1, 1) := by decide +kernel
theorem dX12_list_69 : decode cX12_list 69 = .ok (.iaload, 1) := by decide +kernel
theorem dX12_list_70 : decode cX12_list 70 = .ok (.ishl, 1) := by decide +kernel
theorem dX12_list_71 : decode cX12_list 71 = .ok (.iconst 1, 1) := by decide +kernel
theorem dX12_list_72 : decode cX12_list 72 = .ok (.isub, 1) := by decide +kernel
theorem dX12_list_73 : decode cX12_list 73 = .ok (.iand, 1) := by decide +kernel
theorem dX12_list_74 : decode cX12_list 74 = .ok (.iastore, 1) := by decide +kernel
theorem dX12_list_75 : decode cX12_list 75 = .ok (.aload_n 0, 1) := by decide +kernel
theorem dX12_list_76 : decode cX12_list 76 = .ok (.getfield 7, 3) := by decide +kernel
theorem dX12_list_79 : decode cX12_list 79 = .ok (.iconst 2, 1) := by decide +kernel
theorem dX12_list_80 : decode cX12_list 80 = .ok (.dup2, 1) := by decide +kernel
theorem dX12_list_81 : decode cX12_list 81 = .ok (.iaload, 1) := by decide +kernel
theorem dX12_list_82 : decode cX12_list 82 = .ok (.iconst 1, 1) := by decide +kernel
theorem dX12_list_83 : decode cX12_list 83 = .ok (.iadd, 1) := by decide +kernel
theorem dX12_list_84 : decode cX12_list 84 = .ok (.iastore, 1) := by decide +kernel
theorem dX12_list_85 : decode cX12_list 85 = .ok (.aload_n 0, 1) := by decide +kernel
theorem dX12_list_86 : decode cX12_list 86 = .ok (.getfield 7, 3) := by decide +kernel
theorem dX12_list_89 : decode cX12_list 89 = .ok (.iconst 2, 1) := by decide +kernel
theorem dX12_list_90 : decode cX12_list 90 = .ok (.iaload, 1) := by decide +kernel
theorem dX12_list_91 : decode cX12_list 91 = .ok (.ireturn, 1) := by decide +kernel
theorem dX12_film_0 : decode cX12_film 0 = .ok (.aload_n 0, 1) := by decide +kernel
theorem dX12_film_1 : decode cX12_film 1 = .ok (.iload_n 1, 1) := by decide +kernel
theorem dX12_film_2 : decode cX12_film 2 = .ok (.invokevirtual 182, 3) := by decide +kernel
theorem dX12_film_5 : decode cX12_film 5 = .ok (.ifCond .eq 40, 3) := by decide +kernel
theorem dX12_film_8 : decode cX12_film 8 = .ok (.iload_n 2, 1) := by decide +kernel
theorem dX12_film_9 : decode cX12_film 9 = .ok (.aload_n 0, 1) := by decide +kernel
theorem dX12_film_10 : decode cX12_film 10 = .ok (.getfield 7, 3) := by decide +kernel
theorem dX12_film_13 : decode cX12_film 13 = .ok (.iconst 0, 1) := by decide +kernel
theorem dX12_film_14 : decode cX12_film 14 = .ok (.iaload, 1) := by decide +kernel
theorem dX12_film_15 : decode cX12_film 15 = .ok (.bipush 60, 2) := by decide +kernel
theorem dX12_film_17 : decode cX12_film 17 = .ok (.invokestatic 152, 3) := by decide +kernel
theorem dX12_film_20 : decode cX12_film 20 = .ok (.ifCond .eq 25, 3) := by decide +kernel
theorem dX12_film_23 : decode cX12_film 23 = .ok (.iload_n 3, 1) := by decide +kernel
theorem dX12_film_24 : decode cX12_film 24 = .ok (.iconst 1, 1) := by decide +kernel
theorem dX12_film_25 : decode cX12_film 25 = .ok (.sipush 999, 3) := by decide +kernel
theorem dX12_film_28 : decode cX12_film 28 = .ok (.invokestatic 152, 3) := by decide +kernel
theorem dX12_film_31 : decode cX12_film 31 = .ok (.ifCond .eq 14, 3) := by decide +kernel
theorem dX12_film_34 : decode cX12_film 34 = .ok (.aload_n 0, 1) := by decide +kernel
theorem dX12_film_35 : decode cX12_film 35 = .ok (.getfield 7, 3) := by decide +kernel
theorem dX12_film_38 : decode cX12_film 38 = .ok (.iconst 3, 1) := by decide +kernel
theorem dX12_film_39 : decode cX12_film 39 = .ok (.iaload, 1) := by decide +kernel
theorem dX12_film_40 : decode cX12_film 40 = .ok (.bipush 8, 2) := by decide +kernel
theorem dX12_film_42 : decode cX12_film 42 = .ok (.if_icmp .ne 5, 3) := by decide +kernel
theorem dX12_film_45 : decode cX12_film 45 = .ok (.iconst (-1), 1) := by decide +kernel
theorem dX12_film_46 : decode cX12_film 46 = .ok (.ireturn, 1) := by decide +kernel
theorem dX12_film_47 : decode cX12_film 47 = .ok (.bipush 70, 2) := by decide +kernel
theorem dX12_film_49 : decode cX12_film 49 = .ok (.iconst 3, 1) := by decide +kernel
theorem dX12_film_50 : decode cX12_film 50 = .ok (.aload_n 0, 1) := by decide +kernel
theorem dX12_film_51 : decode cX12_film 51 = .ok (.getfield 7, 3) := by decide +kernel
theorem dX12_film_54 : decode cX12_film 54 = .ok (.iconst 3, 1) := by decide +kernel
theorem dX12_film_55 : decode cX12_film 55 = .ok (.iaload, 1) := by decide +kernel
theorem dX12_film_56 : decode cX12_film 56 = .ok (.imul, 1) := by decide +kernel
theorem dX12_film_57 : decode cX12_film 57 = .ok (.iadd, 1) := by decide +kernel
theorem dX12_film_58 : decode cX12_film 58 = .ok (.istore 4, 2) := by decide +kernel
theorem dX12_film_60 : decode cX12_film 60 = .ok (.aload_n 0, 1) := by decide +kernel
theorem dX12_film_61 : decode cX12_film 61 = .ok (.getfield 7, 3) := by decide +kernel
theorem dX12_film_64 : decode cX12_film 64 = .ok (.iload 4, 2) := by decide +kernel
theorem dX12_film_66 : decode cX12_film 66 = .ok (.iload_n 1, 1) := by decide +kernel
theorem dX12_film_67 : decode cX12_film 67 = .ok (.iastore, 1) := by decide +kernel
theorem dX12_film_68 : decode cX12_film 68 = .ok (.aload_n 0, 1) := by decide +kernel
theorem dX12_film_69 : decode cX12_film 69 = .ok (.getfield 7, 3) := by decide +kernel
theorem dX12_film_72 : decode cX12_film 72 = .ok (.iload 4, 2) := by decide +kernel
theorem dX12_film_74 : decode cX12_film 74 = .ok (.iconst 1, 1) := by decide +kernel
theorem dX12_film_75 : decode cX12_film 75 = .ok (.iadd, 1) := by decide +kernel
theorem dX12_film_76 : decode cX12_film 76 = .ok (.iload_n 2, 1) := by decide +kernel
theorem dX12_film_77 : decode cX12_film 77 = .ok (.iastore, 1) := by decide +kernel
theorem dX12_film_78 : decode cX12_film 78 = .ok (.aload_n 0, 1) := by decide +kernel
theorem dX12_film_79 : decode cX12_film 79 = .ok (.getfield 7, 3) := by decide +kernel
theorem dX12_film_82 : decode cX12_film 82 = .ok (.iload 4, 2) := by decide +kernel
theorem dX12_film_84 : decode cX12_film 84 = .ok (.iconst 2, 1) := by decide +kernel
theorem dX12_film_85 : decode cX12_film 85 = .ok (.iadd, 1) := by decide +kernel
theorem dX12_film_86 : decode cX12_film 86 = .ok (.iload_n 3, 1) := by decide +kernel
theorem dX12_film_87 : decode cX12_film 87 = .ok (.iastore, 1) := by decide +kernel
theorem dX12_film_88 : decode cX12_film 88 = .ok (.aload_n 0, 1) := by decide +kernel
theorem dX12_film_89 : decode cX12_film 89 = .ok (.getfield 7, 3) := by decide +kernel
theorem dX12_film_92 : decode cX12_film 92 = .ok (.iconst 3, 1) := by decide +kernel
theorem dX12_film_93 : decode cX12_film 93 = .ok (.dup2, 1) := by decide +kernel
theorem dX12_film_94 : decode cX12_film 94 = .ok (.iaload, 1) := by decide +kernel
theorem dX12_film_95 : decode cX12_film 95 = .ok (.iconst 1, 1) := by decide +kernel
theorem dX12_film_96 : decode cX12_film 96 = .ok (.iadd, 1) := by decide +kernel
theorem dX12_film_97 : decode cX12_film 97 = .ok (.iastore, 1) := by decide +kernel
theorem dX12_film_98 : decode cX12_film 98 = .ok (.aload_n 0, 1) := by decide +kernel
theorem dX12_film_99 : decode cX12_film 99 = .ok (.getfield 7, 3) := by decide +kernel
theorem dX12_film_102 : decode cX12_film 102 = .ok (.iconst 3, 1) := by decide +kernel
theorem dX12_film_103 : decode cX12_film 103 = .ok (.iaload, 1) := by decide +kernel
theorem dX12_film_104 : decode cX12_film 104 = .ok (.iconst 1, 1) := by decide +kernel
theorem dX12_film_105 : decode cX12_film 105 = .ok (.isub, 1) := by decide +kernel
theorem dX12_film_106 : decode cX12_film 106 = .ok (.ireturn, 1) := by decide +kernel
theorem dX12_put_0 : decode cX12_put 0 = .ok (.bipush 24, 2) := by decide +kernel
theorem dX12_put_2 : decode cX12_put 2 = .ok (.istore_n 2, 1) := by decide +kernel
theorem dX12_put_3 : decode cX12_put 3 = .ok (.iload_n 2, 1) := by decide +kernel
theorem dX12_put_4 : decode cX12_put 4 = .ok (.ifCond .lt 34, 3) := by decide +kernel
theorem dX12_put_7 : decode cX12_put 7 = .ok (.aload_n 0, 1) := by decide +kernel
theorem dX12_put_8 : decode cX12_put 8 = .ok (.getfield 20, 3) := by decide +kernel
theorem dX12_put_11 : decode cX12_put 11 = .ok (.aload_n 0, 1) := by decide +kernel
theorem dX12_put_12 : decode cX12_put 12 = .ok (.getfield 210, 3) := by decide +kernel
theorem dX12_put_15 : decode cX12_put 15 = .ok (.iload_n 1, 1) := by decide +kernel
theorem dX12_put_16 : decode cX12_put 16 = .ok (.iload_n 2, 1) := by decide +kernel
theorem dX12_put_17 : decode cX12_put 17 = .ok (.ishr, 1) := by decide +kernel
theorem dX12_put_18 : decode cX12_put 18 = .ok (.i2b, 1) := by decide +kernel
theorem dX12_put_19 : decode cX12_put 19 = .ok (.bastore, 1) := by decide +kernel
theorem dX12_put_20 : decode cX12_put 20 = .ok (.aload_n 0, 1) := by decide +kernel
theorem dX12_put_21 : decode cX12_put 21 = .ok (.dup, 1) := by decide +kernel
theorem dX12_put_22 : decode cX12_put 22 = .ok (.getfield 210, 3) := by decide +kernel
theorem dX12_put_25 : decode cX12_put 25 = .ok (.iconst 1, 1) := by decide +kernel
theorem dX12_put_26 : decode cX12_put 26 = .ok (.iadd, 1) := by decide +kernel
theorem dX12_put_27 : decode cX12_put 27 = .ok (.putfield 210, 3) := by decide +kernel
theorem dX12_put_30 : decode cX12_put 30 = .ok (.iload_n 2, 1) := by decide +kernel
theorem dX12_put_31 : decode cX12_put 31 = .ok (.bipush 8, 2) := by decide +kernel
theorem dX12_put_33 : decode cX12_put 33 = .ok (.isub, 1) := by decide +kernel
theorem dX12_put_34 : decode cX12_put 34 = .ok (.istore_n 2, 1) := by decide +kernel
theorem dX12_put_35 : decode cX12_put 35 = .ok (.goto (-32), 3) := by decide +kernel
theorem dX12_put_38 : decode cX12_put 38 = .ok (.return_, 1) := by decide +kernel
theorem dX12_feed_0 : decode cX12_feed 0 = .ok (.aload_n 0, 1) := by decide +kernel
theorem dX12_feed_1 : decode cX12_feed 1 = .ok (.getfield 210, 3) := by decide +kernel
theorem dX12_feed_4 : decode cX12_feed 4 = .ok (.bipush 20, 2) := by decide +kernel
theorem dX12_feed_6 : decode cX12_feed 6 = .ok (.iadd, 1) := by decide +kernel
theorem dX12_feed_7 : decode cX12_feed 7 = .ok (.sipush 300, 3) := by decide +kernel
theorem dX12_feed_10 : decode cX12_feed 10 = .ok (.if_icmp .le 5, 3) := by decide +kernel
theorem dX12_feed_13 : decode cX12_feed 13 = .ok (.iconst (-1), 1) := by decide +kernel
theorem dX12_feed_14 : decode cX12_feed 14 = .ok (.ireturn, 1) := by decide +kernel
theorem dX12_feed_15 : decode cX12_feed 15 = .ok (.aload_n 0, 1) := by decide +kernel
theorem dX12_feed_16 : decode cX12_feed 16 = .ok (.iload_n 1, 1) := by decide +kernel
theorem dX12_feed_17 : decode cX12_feed 17 = .ok (.invokevirtual 213, 3) := by decide +kernel
theorem dX12_feed_20 : decode cX12_feed 20 = .ok (.aload_n 0, 1) := by decide +kernel
theorem dX12_feed_21 : decode cX12_feed 21 = .ok (.iload_n 2, 1) := by decide +kernel
theorem dX12_feed_22 : decode cX12_feed 22 = .ok (.invokevirtual 213, 3) := by decide +kernel
theorem dX12_feed_25 : decode cX12_feed 25 = .ok (.aload_n 0, 1) := by decide +kernel
theorem dX12_feed_26 : decode cX12_feed 26 = .ok (.iload_n 3, 1) := by decide +kernel
theorem dX12_feed_27 : decode cX12_feed 27 = .ok (.invokevirtual 213, 3) := by decide +kernel
theorem dX12_feed_30 : decode cX12_feed 30 = .ok (.aload_n 0, 1) := by decide +kernel
theorem dX12_feed_31 : decode cX12_feed 31 = .ok (.iload 4, 2) := by decide +kernel
theorem dX12_feed_33 : decode cX12_feed 33 = .ok (.invokevirtual 213, 3) := by decide +kernel
theorem dX12_feed_36 : decode cX12_feed 36 = .ok (.aload_n 0, 1) := by decide +kernel
theorem dX12_feed_37 : decode cX12_feed 37 = .ok (.iload 5, 2) := by decide +kernel
theorem dX12_feed_39 : decode cX12_feed 39 = .ok (.invokevirtual 213, 3) := by decide +kernel
theorem dX12_feed_42 : decode cX12_feed 42 = .ok (.aload_n 0, 1) := by decide +kernel
theorem dX12_feed_43 : decode cX12_feed 43 = .ok (.getfield 210, 3) := by decide +kernel
theorem dX12_feed_46 : decode cX12_feed 46 = .ok (.ireturn, 1) := by decide +kernel
theorem dX12_end_0 : decode cX12_end 0 = .ok (.iload_n 1, 1) := by decide +kernel
theorem dX12_end_1 : decode cX12_end 1 = .ok (.iconst 0, 1) := by decide +kernel
theorem dX12_end_2 : decode cX12_end 2 = .ok (.aload_n 0, 1) := by decide +kernel
theorem dX12_end_3 : decode cX12_end 3 = .ok (.getfield 210, 3) := by decide +kernel
theorem dX12_end_6 : decode cX12_end 6 = .ok (.invokestatic 152, 3) := by decide +kernel
theorem dX12_end_9 : decode cX12_end 9 = .ok (.ifCond .ne 5, 3) := by decide +kernel
theorem dX12_end_12 : decode cX12_end 12 = .ok (.iconst (-1), 1) := by decide +kernel
theorem dX12_end_13 : decode cX12_end 13 = .ok (.ireturn, 1) := by decide +kernel
theorem dX12_end_14 : decode cX12_end 14 = .ok (.aload_n 0, 1) := by decide +kernel
theorem dX12_end_15 : decode cX12_end 15 = .ok (.iload_n 1, 1) := by decide +kernel
theorem dX12_end_16 : decode cX12_end 16 = .ok (.putfield 210, 3) := by decide +kernel
theorem dX12_end_19 : decode cX12_end 19 = .ok (.iload_n 1, 1) := by decide +kernel
theorem dX12_end_20 : decode cX12_end 20 = .ok (.ireturn, 1) := by decide +kernel
theorem dX12_isLetter_0 : decode cX12_isLetter 0 = .ok (.iload_n 0, 1) := by decide +kernel
theorem dX12_isLetter_1 : decode cX12_isLetter 1 = .ok (.bipush 97, 2) := by decide +kernel
theorem dX12_isLetter_3 : decode cX12_isLetter 3 = .ok (.bipush 122, 2) := by decide +kernel
theorem dX12_isLetter_5 : decode cX12_isLetter 5 = .ok (.invokestatic 152, 3) := by decide +kernel
theorem dX12_isLetter_8 : decode cX12_isLetter 8 = .ok (.ifCond .ne 14, 3) := by decide +kernel
theorem dX12_isLetter_11 : decode cX12_isLetter 11 = .ok (.iload_n 0, 1) := by decide +kernel
theorem dX12_isLetter_12 : decode cX12_isLetter 12 = .ok (.bipush 65, 2) := by decide +kernel
theorem dX12_isLetter_14 : decode cX12_isLetter 14 = .ok (.bipush 90, 2) := by decide +kernel
theorem dX12_isLetter_16 : decode cX12_isLetter 16 = .ok (.invokestatic 152, 3) := by decide +kernel
theorem dX12_isLetter_19 : decode cX12_isLetter 19 = .ok (.ifCond .eq 7, 3) := by decide +kernel
theorem dX12_isLetter_22 : decode cX12_isLetter 22 = .ok (.iconst 1, 1) := by decide +kernel
theorem dX12_isLetter_23 : decode cX12_isLetter 23 = .ok (.goto 4, 3) := by decide +kernel
theorem dX12_isLetter_26 : decode cX12_isLetter 26 = .ok (.iconst 0, 1) := by decide +kernel
theorem dX12_isLetter_27 : decode cX12_isLetter 27 = .ok (.ireturn, 1) := by decide +kernel
theorem dX12_wordOf_0 : decode cX12_wordOf 0 = .ok (.lload_n 0, 1) := by decide +kernel
theorem dX12_wordOf_1 : decode cX12_wordOf 1 = .ok (.ldc2_w 217, 3) := by decide +kernel
theorem dX12_wordOf_4 : decode cX12_wordOf 4 = .ok (.lcmp, 1) := by decide +kernel
theorem dX12_wordOf_5 : decode cX12_wordOf 5 = .ok (.ifCond .ne 5, 3) := by decide +kernel
theorem dX12_wordOf_8 : decode cX12_wordOf 8 = .ok (.iconst 0, 1) := by decide +kernel
theorem dX12_wordOf_9 : decode cX12_wordOf 9 = .ok (.ireturn, 1) := by decide +kernel
theorem dX12_wordOf_10 : decode cX12_wordOf 10 = .ok (.lload_n 0, 1) := by decide +kernel
theorem dX12_wordOf_11 : decode cX12_wordOf 11 = .ok (.ldc2_w 219, 3) := by decide +kernel
theorem dX12_wordOf_14 : decode cX12_wordOf 14 = .ok (.lcmp, 1) := by decide +kernel
theorem dX12_wordOf_15 : decode cX12_wordOf 15 = .ok (.ifCond .ne 5, 3) := by decide +kernel
theorem dX12_wordOf_18 : decode cX12_wordOf 18 = .ok (.iconst 1, 1) := by decide +kernel
theorem dX12_wordOf_19 : decode cX12_wordOf 19 = .ok (.ireturn, 1) := by decide +kernel
theorem dX12_wordOf_20 : decode cX12_wordOf 20 = .ok (.lload_n 0, 1) := by decide +kernel
theorem dX12_wordOf_21 : decode cX12_wordOf 21 = .ok (.ldc2_w 221, 3) := by decide +kernel
theorem dX12_wordOf_24 : decode cX12_wordOf 24 = .ok (.lcmp, 1) := by decide +kernel
theorem dX12_wordOf_25 : decode cX12_wordOf 25 = .ok (.ifCond .ne 5, 3) := by decide +kernel
theorem dX12_wordOf_28 : decode cX12_wordOf 28 = .ok (.iconst 2, 1) := by decide +kernel
theorem dX12_wordOf_29 : decode cX12_wordOf 29 = .ok (.ireturn, 1) := by decide +kernel
theorem dX12_wordOf_30 : decode cX12_wordOf 30 = .ok (.lload_n 0, 1) := by decide +kernel
theorem dX12_wordOf_31 : decode cX12_wordOf 31 = .ok (.ldc2_w 223, 3) := by decide +kernel
theorem dX12_wordOf_34 : decode cX12_wordOf 34 = .ok (.lcmp, 1) := by decide +kernel
theorem dX12_wordOf_35 : decode cX12_wordOf 35 = .ok (.ifCond .ne 5, 3) := by decide +kernel
theorem dX12_wordOf_38 : decode cX12_wordOf 38 = .ok (.iconst 3, 1) := by decide +kernel
theorem dX12_wordOf_39 : decode cX12_wordOf 39 = .ok (.ireturn, 1) := by decide +kernel
theorem dX12_wordOf_40 : decode cX12_wordOf 40 = .ok (.lload_n 0, 1) := by decide +kernel
theorem dX12_wordOf_41 : decode cX12_wordOf 41 = .ok (.ldc2_w 225, 3) := by decide +kernel
theorem dX12_wordOf_44 : decode cX12_wordOf 44 = .ok (.lcmp, 1) := by decide +kernel
theorem dX12_wordOf_45 : decode cX12_wordOf 45 = .ok (.ifCond .ne 5, 3) := by decide +kernel
theorem dX12_wordOf_48 : decode cX12_wordOf 48 = .ok (.iconst 4, 1) := by decide +kernel
theorem dX12_wordOf_49 : decode cX12_wordOf 49 = .ok (.ireturn, 1) := by decide +kernel
theorem dX12_wordOf_50 : decode cX12_wordOf 50 = .ok (.lload_n 0, 1) := by decide +kernel
theorem dX12_wordOf_51 : decode cX12_wordOf 51 = .ok (.ldc2_w 227, 3) := by decide +kernel
theorem dX12_wordOf_54 : decode cX12_wordOf 54 = .ok (.lcmp, 1) := by decide +kernel
theorem dX12_wordOf_55 : decode cX12_wordOf 55 = .ok (.ifCond .ne 5, 3) := by decide +kernel
theorem dX12_wordOf_58 : decode cX12_wordOf 58 = .ok (.iconst 5, 1) := by decide +kernel
theorem dX12_wordOf_59 : decode cX12_wordOf 59 = .ok (.ireturn, 1) := by decide +kernel
theorem dX12_wordOf_60 : decode cX12_wordOf 60 = .ok (.lload_n 0, 1) := by decide +kernel
theorem dX12_wordOf_61 : decode cX12_wordOf 61 = .ok (.ldc2_w 229, 3) := by decide +kernel
theorem dX12_wordOf_64 : decode cX12_wordOf 64 = .ok (.lcmp, 1) := by decide +kernel
theorem dX12_wordOf_65 : decode cX12_wordOf 65 = .ok (.ifCond .ne 6, 3) := by decide +kernel
theorem dX12_wordOf_68 : decode cX12_wordOf 68 = .ok (.bipush 6, 2) := by decide +kernel
theorem dX12_wordOf_70 : decode cX12_wordOf 70 = .ok (.ireturn, 1) := by decide +kernel
theorem dX12_wordOf_71 : decode cX12_wordOf 71 = .ok (.lload_n 0, 1) := by decide +kernel
theorem dX12_wordOf_72 : decode cX12_wordOf 72 = .ok (.ldc2_w 231, 3) := by decide +kernel
theorem dX12_wordOf_75 : decode cX12_wordOf 75 = .ok (.lcmp, 1) := by decide +kernel
theorem dX12_wordOf_76 : decode cX12_wordOf 76 = .ok (.ifCond .ne 6, 3) := by decide +kernel
theorem dX12_wordOf_79 : decode cX12_wordOf 79 = .ok (.bipush 7, 2) := by decide +kernel
theorem dX12_wordOf_81 : decode cX12_wordOf 81 = .ok (.ireturn, 1) := by decide +kernel
theorem dX12_wordOf_82 : decode cX12_wordOf 82 = .ok (.lload_n 0, 1) := by decide +kernel
theorem dX12_wordOf_83 : decode cX12_wordOf 83 = .ok (.ldc2_w 233, 3) := by decide +kernel
theorem dX12_wordOf_86 : decode cX12_wordOf 86 = .ok (.lcmp, 1) := by decide +kernel
theorem dX12_wordOf_87 : decode cX12_wordOf 87 = .ok (.ifCond .ne 6, 3) := by decide +kernel
theorem dX12_wordOf_90 : decode cX12_wordOf 90 = .ok (.bipush 8, 2) := by decide +kernel
theorem dX12_wordOf_92 : decode cX12_wordOf 92 = .ok (.ireturn, 1) := by decide +kernel
theorem dX12_wordOf_93 : decode cX12_wordOf 93 = .ok (.lload_n 0, 1) := by decide +kernel
theorem dX12_wordOf_94 : decode cX12_wordOf 94 = .ok (.ldc2_w 235, 3) := by decide +kernel
theorem dX12_wordOf_97 : decode cX12_wordOf 97 = .ok (.lcmp, 1) := by decide +kernel
theorem dX12_wordOf_98 : decode cX12_wordOf 98 = .ok (.ifCond .ne 6, 3) := by decide +kernel
theorem dX12_wordOf_101 : decode cX12_wordOf 101 = .ok (.bipush 9, 2) := by decide +kernel
theorem dX12_wordOf_103 : decode cX12_wordOf 103 = .ok (.ireturn, 1) := by decide +kernel
theorem dX12_wordOf_104 : decode cX12_wordOf 104 = .ok (.lload_n 0, 1) := by decide +kernel
theorem dX12_wordOf_105 : decode cX12_wordOf 105 = .ok (.ldc2_w 237, 3) := by decide +kernel
theorem dX12_wordOf_108 : decode cX12_wordOf 108 = .ok (.lcmp, 1) := by decide +kernel
theorem dX12_wordOf_109 : decode cX12_wordOf 109 = .ok (.ifCond .ne 6, 3) := by decide +kernel
theorem dX12_wordOf_112 : decode cX12_wordOf 112 = .ok (.bipush 10, 2) := by decide +kernel
theorem dX12_wordOf_114 : decode cX12_wordOf 114 = .ok (.ireturn, 1) := by decide +kernel
theorem dX12_wordOf_115 : decode cX12_wordOf 115 = .ok (.lload_n 0, 1) := by decide +kernel
theorem dX12_wordOf_116 : decode cX12_wordOf 116 = .ok (.ldc2_w 239, 3) := by decide +kernel
theorem dX12_wordOf_119 : decode cX12_wordOf 119 = .ok (.lcmp, 1) := by decide +kernel
theorem dX12_wordOf_120 : decode cX12_wordOf 120 = .ok (.ifCond .ne 6, 3) := by decide +kernel
theorem dX12_wordOf_123 : decode cX12_wordOf 123 = .ok (.bipush 11, 2) := by decide +kernel
theorem dX12_wordOf_125 : decode cX12_wordOf 125 = .ok (.ireturn, 1) := by decide +kernel
theorem dX12_wordOf_126 : decode cX12_wordOf 126 = .ok (.lload_n 0, 1) := by decide +kernel
theorem dX12_wordOf_127 : decode cX12_wordOf 127 = .ok (.ldc2_w 241, 3) := by decide +kernel
theorem dX12_wordOf_130 : decode cX12_wordOf 130 = .ok (.lcmp, 1) := by decide +kernel
theorem dX12_wordOf_131 : decode cX12_wordOf 131 = .ok (.ifCond .ne 6, 3) := by decide +kernel
theorem dX12_wordOf_134 : decode cX12_wordOf 134 = .ok (.bipush 12, 2) := by decide +kernel
theorem dX12_wordOf_136 : decode cX12_wordOf 136 = .ok (.ireturn, 1) := by decide +kernel
theorem dX12_wordOf_137 : decode cX12_wordOf 137 = .ok (.lload_n 0, 1) := by decide +kernel
theorem dX12_wordOf_138 : decode cX12_wordOf 138 = .ok (.ldc2_w 243, 3) := by decide +kernel
theorem dX12_wordOf_141 : decode cX12_wordOf 141 = .ok (.lcmp, 1) := by decide +kernel
theorem dX12_wordOf_142 : decode cX12_wordOf 142 = .ok (.ifCond .ne 6, 3) := by decide +kernel
theorem dX12_wordOf_145 : decode cX12_wordOf 145 = .ok (.bipush 13, 2) := by decide +kernel
theorem dX12_wordOf_147 : decode cX12_wordOf 147 = .ok (.ireturn, 1) := by decide +kernel
theorem dX12_wordOf_148 : decode cX12_wordOf 148 = .ok (.lload_n 0, 1) := by decide +kernel
theorem dX12_wordOf_149 : decode cX12_wordOf 149 = .ok (.ldc2_w 245, 3) := by decide +kernel
theorem dX12_wordOf_152 : decode cX12_wordOf 152 = .ok (.lcmp, 1) := by decide +kernel
theorem dX12_wordOf_153 : decode cX12_wordOf 153 = .ok (.ifCond .ne 6, 3) := by decide +kernel
theorem dX12_wordOf_156 : decode cX12_wordOf 156 = .ok (.bipush 14, 2) := by decide +kernel
theorem dX12_wordOf_158 : decode cX12_wordOf 158 = .ok (.ireturn, 1) := by decide +kernel
theorem dX12_wordOf_159 : decode cX12_wordOf 159 = .ok (.lload_n 0, 1) := by decide +kernel
theorem dX12_wordOf_160 : decode cX12_wordOf 160 = .ok (.ldc2_w 247, 3) := by decide +kernel
theorem dX12_wordOf_163 : decode cX12_wordOf 163 = .ok (.lcmp, 1) := by decide +kernel
theorem dX12_wordOf_164 : decode cX12_wordOf 164 = .ok (.ifCond .ne 6, 3) := by decide +kernel
theorem dX12_wordOf_167 : decode cX12_wordOf 167 = .ok (.bipush 15, 2) := by decide +kernel
theorem dX12_wordOf_169 : decode cX12_wordOf 169 = .ok (.ireturn, 1) := by decide +kernel
theorem dX12_wordOf_170 : decode cX12_wordOf 170 = .ok (.lload_n 0, 1) := by decide +kernel
theorem dX12_wordOf_171 : decode cX12_wordOf 171 = .ok (.ldc2_w 249, 3) := by decide +kernel
theorem dX12_wordOf_174 : decode cX12_wordOf 174 = .ok (.lcmp, 1) := by decide +kernel
theorem dX12_wordOf_175 : decode cX12_wordOf 175 = .ok (.ifCond .ne 6, 3) := by decide +kernel
theorem dX12_wordOf_178 : decode cX12_wordOf 178 = .ok (.bipush 16, 2) := by decide +kernel
theorem dX12_wordOf_180 : decode cX12_wordOf 180 = .ok (.ireturn, 1) := by decide +kernel
theorem dX12_wordOf_181 : decode cX12_wordOf 181 = .ok (.lload_n 0, 1) := by decide +kernel
theorem dX12_wordOf_182 : decode cX12_wordOf 182 = .ok (.ldc2_w 251, 3) := by decide +kernel
theorem dX12_wordOf_185 : decode cX12_wordOf 185 = .ok (.lcmp, 1) := by decide +kernel
theorem dX12_wordOf_186 : decode cX12_wordOf 186 = .ok (.ifCond .ne 6, 3) := by decide +kernel
theorem dX12_wordOf_189 : decode cX12_wordOf 189 = .ok (.bipush 17, 2) := by decide +kernel
theorem dX12_wordOf_191 : decode cX12_wordOf 191 = .ok (.ireturn, 1) := by decide +kernel
theorem dX12_wordOf_192 : decode cX12_wordOf 192 = .ok (.lload_n 0, 1) := by decide +kernel
theorem dX12_wordOf_193 : decode cX12_wordOf 193 = .ok (.ldc2_w 253, 3) := by decide +kernel
theorem dX12_wordOf_196 : decode cX12_wordOf 196 = .ok (.lcmp, 1) := by decide +kernel
theorem dX12_wordOf_197 : decode cX12_wordOf 197 = .ok (.ifCond .ne 6, 3) := by decide +kernel
theorem dX12_wordOf_200 : decode cX12_wordOf 200 = .ok (.bipush 18, 2) := by decide +kernel
theorem dX12_wordOf_202 : decode cX12_wordOf 202 = .ok (.ireturn, 1) := by decide +kernel
theorem dX12_wordOf_203 : decode cX12_wordOf 203 = .ok (.lload_n 0, 1) := by decide +kernel
theorem dX12_wordOf_204 : decode cX12_wordOf 204 = .ok (.ldc2_w 255, 3) := by decide +kernel
theorem dX12_wordOf_207 : decode cX12_wordOf 207 = .ok (.lcmp, 1) := by decide +kernel
theorem dX12_wordOf_208 : decode cX12_wordOf 208 = .ok (.ifCond .ne 6, 3) := by decide +kernel
theorem dX12_wordOf_211 : decode cX12_wordOf 211 = .ok (.bipush 19, 2) := by decide +kernel
theorem dX12_wordOf_213 : decode cX12_wordOf 213 = .ok (.ireturn, 1) := by decide +kernel
theorem dX12_wordOf_214 : decode cX12_wordOf 214 = .ok (.lload_n 0, 1) := by decide +kernel
theorem dX12_wordOf_215 : decode cX12_wordOf 215 = .ok (.ldc2_w 257, 3) := by decide +kernel
theorem dX12_wordOf_218 : decode cX12_wordOf 218 = .ok (.lcmp, 1) := by decide +kernel
theorem dX12_wordOf_219 : decode cX12_wordOf 219 = .ok (.ifCond .ne 6, 3) := by decide +kernel
theorem dX12_wordOf_222 : decode cX12_wordOf 222 = .ok (.bipush 20, 2) := by decide +kernel
theorem dX12_wordOf_224 : decode cX12_wordOf 224 = .ok (.ireturn, 1) := by decide +kernel
theorem dX12_wordOf_225 : decode cX12_wordOf 225 = .ok (.lload_n 0, 1) := by decide +kernel
theorem dX12_wordOf_226 : decode cX12_wordOf 226 = .ok (.ldc2_w 259, 3) := by decide +kernel
theorem dX12_wordOf_229 : decode cX12_wordOf 229 = .ok (.lcmp, 1) := by decide +kernel
theorem dX12_wordOf_230 : decode cX12_wordOf 230 = .ok (.ifCond .ne 6, 3) := by decide +kernel
theorem dX12_wordOf_233 : decode cX12_wordOf 233 = .ok (.bipush 21, 2) := by decide +kernel
theorem dX12_wordOf_235 : decode cX12_wordOf 235 = .ok (.ireturn, 1) := by decide +kernel
theorem dX12_wordOf_236 : decode cX12_wordOf 236 = .ok (.iconst (-1), 1) := by decide +kernel
theorem dX12_wordOf_237 : decode cX12_wordOf 237 = .ok (.ireturn, 1) := by decide +kernel
theorem dX12_next_0 : decode cX12_next 0 = .ok (.aload_n 0, 1) := by decide +kernel
theorem dX12_next_1 : decode cX12_next 1 = .ok (.getfield 261, 3) := by decide +kernel
theorem dX12_next_4 : decode cX12_next 4 = .ok (.aload_n 0, 1) := by decide +kernel
theorem dX12_next_5 : decode cX12_next 5 = .ok (.getfield 264, 3) := by decide +kernel
theorem dX12_next_8 : decode cX12_next 8 = .ok (.if_icmp .ge 44, 3) := by decide +kernel
theorem dX12_next_11 : decode cX12_next 11 = .ok (.aload_n 0, 1) := by decide +kernel
theorem dX12_next_12 : decode cX12_next 12 = .ok (.getfield 20, 3) := by decide +kernel
theorem dX12_next_15 : decode cX12_next 15 = .ok (.aload_n 0, 1) := by decide +kernel
theorem dX12_next_16 : decode cX12_next 16 = .ok (.getfield 261, 3) := by decide +kernel
theorem dX12_next_19 : decode cX12_next 19 = .ok (.baload, 1) := by decide +kernel
theorem dX12_next_20 : decode cX12_next 20 = .ok (.bipush 32, 2) := by decide +kernel
theorem dX12_next_22 : decode cX12_next 22 = .ok (.if_icmp .eq 17, 3) := by decide +kernel
theorem dX12_next_25 : decode cX12_next 25 = .ok (.aload_n 0, 1) := by decide +kernel
theorem dX12_next_26 : decode cX12_next 26 = .ok (.getfield 20, 3) := by decide +kernel
theorem dX12_next_29 : decode cX12_next 29 = .ok (.aload_n 0, 1) := by decide +kernel
theorem dX12_next_30 : decode cX12_next 30 = .ok (.getfield 261, 3) := by decide +kernel
theorem dX12_next_33 : decode cX12_next 33 = .ok (.baload, 1) := by decide +kernel
theorem dX12_next_34 : decode cX12_next 34 = .ok (.bipush 10, 2) := by decide +kernel
theorem dX12_next_36 : decode cX12_next 36 = .ok (.if_icmp .ne 16, 3) := by decide +kernel
theorem dX12_next_39 : decode cX12_next 39 = .ok (.aload_n 0, 1) := by decide +kernel
theorem dX12_next_40 : decode cX12_next 40 = .ok (.dup, 1) := by decide +kernel
theorem dX12_next_41 : decode cX12_next 41 = .ok (.getfield 261, 3) := by decide +kernel
theorem dX12_next_44 : decode cX12_next 44 = .ok (.iconst 1, 1) := by decide +kernel
theorem dX12_next_45 : decode cX12_next 45 = .ok (.iadd, 1) := by decide +kernel
theorem dX12_next_46 : decode cX12_next 46 = .ok (.putfield 261, 3) := by decide +kernel
theorem dX12_next_49 : decode cX12_next 49 = .ok (.goto (-49), 3) := by decide +kernel
theorem dX12_next_52 : decode cX12_next 52 = .ok (.aload_n 0, 1) := by decide +kernel
theorem dX12_next_53 : decode cX12_next 53 = .ok (.aload_n 0, 1) := by decide +kernel
theorem dX12_next_54 : decode cX12_next 54 = .ok (.getfield 261, 3) := by decide +kernel
theorem dX12_next_57 : decode cX12_next 57 = .ok (.putfield 267, 3) := by decide +kernel
theorem dX12_next_60 : decode cX12_next 60 = .ok (.aload_n 0, 1) := by decide +kernel
theorem dX12_next_61 : decode cX12_next 61 = .ok (.getfield 261, 3) := by decide +kernel
theorem dX12_next_64 : decode cX12_next 64 = .ok (.aload_n 0, 1) := by decide +kernel
theorem dX12_next_65 : decode cX12_next 65 = .ok (.getfield 264, 3) := by decide +kernel
theorem dX12_next_68 : decode cX12_next 68 = .ok (.if_icmp .ne 9, 3) := by decide +kernel
theorem dX12_next_71 : decode cX12_next 71 = .ok (.aload_n 0, 1) := by decide +kernel
theorem dX12_next_72 : decode cX12_next 72 = .ok (.iconst 0, 1) := by decide +kernel
theorem dX12_next_73 : decode cX12_next 73 = .ok (.putfield 270, 3) := by decide +kernel
theorem dX12_next_76 : decode cX12_next 76 = .ok (.return_, 1) := by decide +kernel
theorem dX12_next_77 : decode cX12_next 77 = .ok (.aload_n 0, 1) := by decide +kernel
theorem dX12_next_78 : decode cX12_next 78 = .ok (.getfield 20, 3) := by decide +kernel
theorem dX12_next_81 : decode cX12_next 81 = .ok (.aload_n 0, 1) := by decide +kernel
theorem dX12_next_82 : decode cX12_next 82 = .ok (.getfield 261, 3) := by decide +kernel
theorem dX12_next_85 : decode cX12_next 85 = .ok (.baload, 1) := by decide +kernel
theorem dX12_next_86 : decode cX12_next 86 = .ok (.istore_n 1, 1) := by decide +kernel
theorem dX12_next_87 : decode cX12_next 87 = .ok (.iload_n 1, 1) := by decide +kernel
theorem dX12_next_88 : decode cX12_next 88 = .ok (.invokestatic 273, 3) := by decide +kernel
theorem dX12_next_91 : decode cX12_next 91 = .ok (.ifCond .eq 120, 3) := by decide +kernel
theorem dX12_next_94 : decode cX12_next 94 = .ok (.lconst 0, 1) := by decide +kernel
theorem dX12_next_95 : decode cX12_next 95 = .ok (.lstore_n 2, 1) := by decide +kernel
theorem dX12_next_96 : decode cX12_next 96 = .ok (.iconst 0, 1) := by decide +kernel
theorem dX12_next_97 : decode cX12_next 97 = .ok (.istore 4, 2) := by decide +kernel
theorem dX12_next_99 : decode cX12_next 99 = .ok (.aload_n 0, 1) := by decide +kernel
theorem dX12_next_100 : decode cX12_next 100 = .ok (.getfield 261, 3) := by decide +kernel
theorem dX12_next_103 : decode cX12_next 103 = .ok (.aload_n 0, 1) := by decide +kernel
theorem dX12_next_104 : decode cX12_next 104 = .ok (.getfield 264, 3) := by decide +kernel
theorem dX12_next_107 : decode cX12_next 107 = .ok (.if_icmp .ge 66, 3) := by decide +kernel
theorem dX12_next_110 : decode cX12_next 110 = .ok (.aload_n 0, 1) := by decide +kernel
theorem dX12_next_111 : decode cX12_next 111 = .ok (.getfield 20, 3) := by decide +kernel
theorem dX12_next_114 : decode cX12_next 114 = .ok (.aload_n 0, 1) := by decide +kernel
theorem dX12_next_115 : decode cX12_next 115 = .ok (.getfield 261, 3) := by decide +kernel
theorem dX12_next_118 : decode cX12_next 118 = .ok (.baload, 1) := by decide +kernel
theorem dX12_next_119 : decode cX12_next 119 = .ok (.invokestatic 273, 3) := by decide +kernel
theorem dX12_next_122 : decode cX12_next 122 = .ok (.ifCond .eq 51, 3) := by decide +kernel
theorem dX12_next_125 : decode cX12_next 125 = .ok (.iload 4, 2) := by decide +kernel
theorem dX12_next_127 : decode cX12_next 127 = .ok (.bipush 8, 2) := by decide +kernel
theorem dX12_next_129 : decode cX12_next 129 = .ok (.if_icmp .ge 26, 3) := by decide +kernel
theorem dX12_next_132 : decode cX12_next 132 = .ok (.ldc2_w 276, 3) := by decide +kernel
theorem dX12_next_135 : decode cX12_next 135 = .ok (.lload_n 2, 1) := by decide +kernel
theorem dX12_next_136 : decode cX12_next 136 = .ok (.lmul, 1) := by decide +kernel
theorem dX12_next_137 : decode cX12_next 137 = .ok (.aload_n 0, 1) := by decide +kernel
theorem dX12_next_138 : decode cX12_next 138 = .ok (.getfield 20, 3) := by decide +kernel
theorem dX12_next_141 : decode cX12_next 141 = .ok (.aload_n 0, 1) := by decide +kernel
theorem dX12_next_142 : decode cX12_next 142 = .ok (.getfield 261, 3) := by decide +kernel
theorem dX12_next_145 : decode cX12_next 145 = .ok (.baload, 1) := by decide +kernel
theorem dX12_next_146 : decode cX12_next 146 = .ok (.i2l, 1) := by decide +kernel
theorem dX12_next_147 : decode cX12_next 147 = .ok (.ladd, 1) := by decide +kernel
theorem dX12_next_148 : decode cX12_next 148 = .ok (.ldc2_w 276, 3) := by decide +kernel
theorem dX12_next_151 : decode cX12_next 151 = .ok (.lsub, 1) := by decide +kernel
theorem dX12_next_152 : decode cX12_next 152 = .ok (.goto 4, 3) := by decide +kernel
theorem dX12_next_155 : decode cX12_next 155 = .ok (.lload_n 2, 1) := by decide +kernel
theorem dX12_next_156 : decode cX12_next 156 = .ok (.lstore_n 2, 1) := by decide +kernel
theorem dX12_next_157 : decode cX12_next 157 = .ok (.iinc 4 1, 3) := by decide +kernel
theorem dX12_next_160 : decode cX12_next 160 = .ok (.aload_n 0, 1) := by decide +kernel
theorem dX12_next_161 : decode cX12_next 161 = .ok (.dup, 1) := by decide +kernel
theorem dX12_next_162 : decode cX12_next 162 = .ok (.getfield 261, 3) := by decide +kernel
theorem dX12_next_165 : decode cX12_next 165 = .ok (.iconst 1, 1) := by decide +kernel
theorem dX12_next_166 : decode cX12_next 166 = .ok (.iadd, 1) := by decide +kernel
theorem dX12_next_167 : decode cX12_next 167 = .ok (.putfield 261, 3) := by decide +kernel
theorem dX12_next_170 : decode cX12_next 170 = .ok (.goto (-71), 3) := by decide +kernel
theorem dX12_next_173 : decode cX12_next 173 = .ok (.aload_n 0, 1) := by decide +kernel
theorem dX12_next_174 : decode cX12_next 174 = .ok (.iload 4, 2) := by decide +kernel
theorem dX12_next_176 : decode cX12_next 176 = .ok (.bipush 7, 2) := by decide +kernel
theorem dX12_next_178 : decode cX12_next 178 = .ok (.if_icmp .le 7, 3) := by decide +kernel
theorem dX12_next_181 : decode cX12_next 181 = .ok (.iconst (-1), 1) := by decide +kernel
theorem dX12_next_182 : decode cX12_next 182 = .ok (.goto 7, 3) := by decide +kernel
theorem dX12_next_185 : decode cX12_next 185 = .ok (.lload_n 2, 1) := by decide +kernel
theorem dX12_next_186 : decode cX12_next 186 = .ok (.invokestatic 278, 3) := by decide +kernel
theorem dX12_next_189 : decode cX12_next 189 = .ok (.putfield 281, 3) := by decide +kernel
theorem dX12_next_192 : decode cX12_next 192 = .ok (.aload_n 0, 1) := by decide +kernel
theorem dX12_next_193 : decode cX12_next 193 = .ok (.aload_n 0, 1) := by decide +kernel
theorem dX12_next_194 : decode cX12_next 194 = .ok (.getfield 281, 3) := by decide +kernel
theorem dX12_next_197 : decode cX12_next 197 = .ok (.ifCond .ge 7, 3) := by decide +kernel
theorem dX12_next_200 : decode cX12_next 200 = .ok (.iconst 4, 1) := by decide +kernel
theorem dX12_next_201 : decode cX12_next 201 = .ok (.goto 4, 3) := by decide +kernel
theorem dX12_next_204 : decode cX12_next 204 = .ok (.iconst 1, 1) := by decide +kernel
theorem dX12_next_205 : decode cX12_next 205 = .ok (.putfield 270, 3) := by decide +kernel
theorem dX12_next_208 : decode cX12_next 208 = .ok (.goto 232, 3) := by decide +kernel
theorem dX12_next_211 : decode cX12_next 211 = .ok (.iload_n 1, 1) := by decide +kernel
theorem dX12_next_212 : decode cX12_next 212 = .ok (.bipush 48, 2) := by decide +kernel
theorem dX12_next_214 : decode cX12_next 214 = .ok (.bipush 57, 2) := by decide +kernel
theorem dX12_next_216 : decode cX12_next 216 = .ok (.invokestatic 152, 3) := by decide +kernel
theorem dX12_next_219 : decode cX12_next 219 = .ok (.ifCond .eq 97, 3) := by decide +kernel
theorem dX12_next_222 : decode cX12_next 222 = .ok (.aload_n 0, 1) := by decide +kernel
theorem dX12_next_223 : decode cX12_next 223 = .ok (.iconst 2, 1) := by decide +kernel
theorem dX12_next_224 : decode cX12_next 224 = .ok (.putfield 270, 3) := by decide +kernel
theorem dX12_next_227 : decode cX12_next 227 = .ok (.aload_n 0, 1) := by decide +kernel
theorem dX12_next_228 : decode cX12_next 228 = .ok (.iconst 0, 1) := by decide +kernel
theorem dX12_next_229 : decode cX12_next 229 = .ok (.putfield 281, 3) := by decide +kernel
theorem dX12_next_232 : decode cX12_next 232 = .ok (.aload_n 0, 1) := by decide +kernel
theorem dX12_next_233 : decode cX12_next 233 = .ok (.getfield 261, 3) := by decide +kernel
theorem dX12_next_236 : decode cX12_next 236 = .ok (.aload_n 0, 1) := by decide +kernel
theorem dX12_next_237 : decode cX12_next 237 = .ok (.getfield 264, 3) := by decide +kernel
theorem dX12_next_240 : decode cX12_next 240 = .ok (.if_icmp .ge 200, 3) := by decide +kernel
theorem dX12_next_243 : decode cX12_next 243 = .ok (.aload_n 0, 1) := by decide +kernel
theorem dX12_next_244 : decode cX12_next 244 = .ok (.getfield 20, 3) := by decide +kernel
theorem dX12_next_247 : decode cX12_next 247 = .ok (.aload_n 0, 1) := by decide +kernel
theorem dX12_next_248 : decode cX12_next 248 = .ok (.getfield 261, 3) := by decide +kernel
theorem dX12_next_251 : decode cX12_next 251 = .ok (.baload, 1) := by decide +kernel
theorem dX12_next_252 : decode cX12_next 252 = .ok (.bipush 48, 2) := by decide +kernel
theorem dX12_next_254 : decode cX12_next 254 = .ok (.bipush 57, 2) := by decide +kernel
theorem dX12_next_256 : decode cX12_next 256 = .ok (.invokestatic 152, 3) := by decide +kernel
theorem dX12_next_259 : decode cX12_next 259 = .ok (.ifCond .eq 181, 3) := by decide +kernel
theorem dX12_next_262 : decode cX12_next 262 = .ok (.aload_n 0, 1) := by decide +kernel
theorem dX12_next_263 : decode cX12_next 263 = .ok (.aload_n 0, 1) := by decide +kernel
theorem dX12_next_264 : decode cX12_next 264 = .ok (.getfield 281, 3) := by decide +kernel
theorem dX12_next_267 : decode cX12_next 267 = .ok (.ldc_w 284, 3) := by decide +kernel
theorem dX12_next_270 : decode cX12_next 270 = .ok (.if_icmp .le 10, 3) := by decide +kernel
theorem dX12_next_273 : decode cX12_next 273 = .ok (.aload_n 0, 1) := by decide +kernel
theorem dX12_next_274 : decode cX12_next 274 = .ok (.getfield 281, 3) := by decide +kernel
theorem dX12_next_277 : decode cX12_next 277 = .ok (.goto 23, 3) := by decide +kernel
theorem dX12_next_280 : decode cX12_next 280 = .ok (.bipush 10, 2) := by decide +kernel
theorem dX12_next_282 : decode cX12_next 282 = .ok (.aload_n 0, 1) := by decide +kernel
theorem dX12_next_283 : decode cX12_next 283 = .ok (.getfield 281, 3) := by decide +kernel
theorem dX12_next_286 : decode cX12_next 286 = .ok (.imul, 1) := by decide +kernel
theorem dX12_next_287 : decode cX12_next 287 = .ok (.aload_n 0, 1) := by decide +kernel
theorem dX12_next_288 : decode cX12_next 288 = .ok (.getfield 20, 3) := by decide +kernel
theorem dX12_next_291 : decode cX12_next 291 = .ok (.aload_n 0, 1) := by decide +kernel
theorem dX12_next_292 : decode cX12_next 292 = .ok (.getfield 261, 3) := by decide +kernel
theorem dX12_next_295 : decode cX12_next 295 = .ok (.baload, 1) := by decide +kernel
theorem dX12_next_296 : decode cX12_next 296 = .ok (.iadd, 1) := by decide +kernel
theorem dX12_next_297 : decode cX12_next 297 = .ok (.bipush 48, 2) := by decide +kernel
theorem dX12_next_299 : decode cX12_next 299 = .ok (.isub, 1) := by decide +kernel
theorem dX12_next_300 : decode cX12_next 300 = .ok (.putfield 281, 3) := by decide +kernel
theorem dX12_next_303 : decode cX12_next 303 = .ok (.aload_n 0, 1) := by decide +kernel
theorem dX12_next_304 : decode cX12_next 304 = .ok (.dup, 1) := by decide +kernel
theorem dX12_next_305 : decode cX12_next 305 = .ok (.getfield 261, 3) := by decide +kernel
theorem dX12_next_308 : decode cX12_next 308 = .ok (.iconst 1, 1) := by decide +kernel
theorem dX12_next_309 : decode cX12_next 309 = .ok (.iadd, 1) := by decide +kernel
theorem dX12_next_310 : decode cX12_next 310 = .ok (.putfield 261, 3) := by decide +kernel
theorem dX12_next_313 : decode cX12_next 313 = .ok (.goto (-81), 3) := by decide +kernel
theorem dX12_next_316 : decode cX12_next 316 = .ok (.aload_n 0, 1) := by decide +kernel
theorem dX12_next_317 : decode cX12_next 317 = .ok (.dup, 1) := by decide +kernel
theorem dX12_next_318 : decode cX12_next 318 = .ok (.getfield 261, 3) := by decide +kernel
theorem dX12_next_321 : decode cX12_next 321 = .ok (.iconst 1, 1) := by decide +kernel
theorem dX12_next_322 : decode cX12_next 322 = .ok (.iadd, 1) := by decide +kernel
theorem dX12_next_323 : decode cX12_next 323 = .ok (.putfield 261, 3) := by decide +kernel
theorem dX12_next_326 : decode cX12_next 326 = .ok (.aload_n 0, 1) := by decide +kernel
theorem dX12_next_327 : decode cX12_next 327 = .ok (.iload_n 1, 1) := by decide +kernel
theorem dX12_next_328 : decode cX12_next 328 = .ok (.putfield 281, 3) := by decide +kernel
theorem dX12_next_331 : decode cX12_next 331 = .ok (.aload_n 0, 1) := by decide +kernel
theorem dX12_next_332 : decode cX12_next 332 = .ok (.iload_n 1, 1) := by decide +kernel
theorem dX12_next_333 : decode cX12_next 333 = .ok (.bipush 59, 2) := by decide +kernel
theorem dX12_next_335 : decode cX12_next 335 = .ok (.bipush 62, 2) := by decide +kernel
theorem dX12_next_337 : decode cX12_next 337 = .ok (.invokestatic 152, 3) := by decide +kernel
theorem dX12_next_340 : decode cX12_next 340 = .ok (.ifCond .ne 26, 3) := by decide +kernel
theorem dX12_next_343 : decode cX12_next 343 = .ok (.iload_n 1, 1) := by decide +kernel
theorem dX12_next_344 : decode cX12_next 344 = .ok (.bipush 40, 2) := by decide +kernel
theorem dX12_next_346 : decode cX12_next 346 = .ok (.bipush 45, 2) := by decide +kernel
theorem dX12_next_348 : decode cX12_next 348 = .ok (.invokestatic 152, 3) := by decide +kernel
theorem dX12_next_351 : decode cX12_next 351 = .ok (.ifCond .ne 15, 3) := by decide +kernel
theorem dX12_next_354 : decode cX12_next 354 = .ok (.iload_n 1, 1) := by decide +kernel
theorem dX12_next_355 : decode cX12_next 355 = .ok (.bipush 47, 2) := by decide +kernel
theorem dX12_next_357 : decode cX12_next 357 = .ok (.if_icmp .eq 9, 3) := by decide +kernel
theorem dX12_next_360 : decode cX12_next 360 = .ok (.iload_n 1, 1) := by decide +kernel
theorem dX12_next_361 : decode cX12_next 361 = .ok (.bipush 35, 2) := by decide +kernel
theorem dX12_next_363 : decode cX12_next 363 = .ok (.if_icmp .ne 7, 3) := by decide +kernel
theorem dX12_next_366 : decode cX12_next 366 = .ok (.iconst 3, 1) := by decide +kernel
theorem dX12_next_367 : decode cX12_next 367 = .ok (.goto 4, 3) := by decide +kernel
theorem dX12_next_370 : decode cX12_next 370 = .ok (.iconst 4, 1) := by decide +kernel
theorem dX12_next_371 : decode cX12_next 371 = .ok (.putfield 270, 3) := by decide +kernel
theorem dX12_next_374 : decode cX12_next 374 = .ok (.iload_n 1, 1) := by decide +kernel
theorem dX12_next_375 : decode cX12_next 375 = .ok (.bipush 60, 2) := by decide +kernel
theorem dX12_next_377 : decode cX12_next 377 = .ok (.if_icmp .eq 9, 3) := by decide +kernel
theorem dX12_next_380 : decode cX12_next 380 = .ok (.iload_n 1, 1) := by decide +kernel
theorem dX12_next_381 : decode cX12_next 381 = .ok (.bipush 62, 2) := by decide +kernel
theorem dX12_next_383 : decode cX12_next 383 = .ok (.if_icmp .ne 57, 3) := by decide +kernel
theorem dX12_next_386 : decode cX12_next 386 = .ok (.aload_n 0, 1) := by decide +kernel
theorem dX12_next_387 : decode cX12_next 387 = .ok (.getfield 261, 3) := by decide +kernel
theorem dX12_next_390 : decode cX12_next 390 = .ok (.aload_n 0, 1) := by decide +kernel
theorem dX12_next_391 : decode cX12_next 391 = .ok (.getfield 264, 3) := by decide +kernel
theorem dX12_next_394 : decode cX12_next 394 = .ok (.if_icmp .ge 46, 3) := by decide +kernel
theorem dX12_next_397 : decode cX12_next 397 = .ok (.aload_n 0, 1) := by decide +kernel
theorem dX12_next_398 : decode cX12_next 398 = .ok (.getfield 20, 3) := by decide +kernel
theorem dX12_next_401 : decode cX12_next 401 = .ok (.aload_n 0, 1) := by decide +kernel
theorem dX12_next_402 : decode cX12_next 402 = .ok (.getfield 261, 3) := by decide +kernel
theorem dX12_next_405 : decode cX12_next 405 = .ok (.baload, 1) := by decide +kernel
theorem dX12_next_406 : decode cX12_next 406 = .ok (.bipush 61, 2) := by decide +kernel
theorem dX12_next_408 : decode cX12_next 408 = .ok (.if_icmp .ne 32, 3) := by decide +kernel
theorem dX12_next_411 : decode cX12_next 411 = .ok (.aload_n 0, 1) := by decide +kernel
theorem dX12_next_412 : decode cX12_next 412 = .ok (.iload_n 1, 1) := by decide +kernel
theorem dX12_next_413 : decode cX12_next 413 = .ok (.bipush 60, 2) := by decide +kernel
theorem dX12_next_415 : decode cX12_next 415 = .ok (.if_icmp .ne 9, 3) := by decide +kernel
theorem dX12_next_418 : decode cX12_next 418 = .ok (.sipush 300, 3) := by decide +kernel
theorem dX12_next_421 : decode cX12_next 421 = .ok (.goto 6, 3) := by decide +kernel
theorem dX12_next_424 : decode cX12_next 424 = .ok (.sipush 301, 3) := by decide +kernel
theorem dX12_next_427 : decode cX12_next 427 = .ok (.putfield 281, 3) := by decide +kernel
theorem dX12_next_430 : decode cX12_next 430 = .ok (.aload_n 0, 1) := by decide +kernel
theorem dX12_next_431 : decode cX12_next 431 = .ok (.dup, 1) := by decide +kernel
theorem dX12_next_432 : decode cX12_next 432 = .ok (.getfield 261, 3) := by decide +kernel
theorem dX12_next_435 : decode cX12_next 435 = .ok (.iconst 1, 1) := by decide +kernel
theorem dX12_next_436 : decode cX12_next 436 = .ok (.iadd, 1) := by decide +kernel
theorem dX12_next_437 : decode cX12_next 437 = .ok (.putfield 261, 3) := by decide +kernel
theorem dX12_next_440 : decode cX12_next 440 = .ok (.return_, 1) := by decide +kernel
theorem dX12_isSign_0 : decode cX12_isSign 0 = .ok (.aload_n 0, 1) := by decide +kernel
theorem dX12_isSign_1 : decode cX12_isSign 1 = .ok (.getfield 270, 3) := by decide +kernel
theorem dX12_isSign_4 : decode cX12_isSign 4 = .ok (.iconst 3, 1) := by decide +kernel
theorem dX12_isSign_5 : decode cX12_isSign 5 = .ok (.if_icmp .ne 15, 3) := by decide +kernel
theorem dX12_isSign_8 : decode cX12_isSign 8 = .ok (.aload_n 0, 1) := by decide +kernel
theorem dX12_isSign_9 : decode cX12_isSign 9 = .ok (.getfield 281, 3) := by decide +kernel
theorem dX12_isSign_12 : decode cX12_isSign 12 = .ok (.iload_n 1, 1) := by decide +kernel
theorem dX12_isSign_13 : decode cX12_isSign 13 = .ok (.if_icmp .ne 7, 3) := by decide +kernel
theorem dX12_isSign_16 : decode cX12_isSign 16 = .ok (.iconst 1, 1) := by decide +kernel
theorem dX12_isSign_17 : decode cX12_isSign 17 = .ok (.goto 4, 3) := by decide +kernel
theorem dX12_isSign_20 : decode cX12_isSign 20 = .ok (.iconst 0, 1) := by decide +kernel
theorem dX12_isSign_21 : decode cX12_isSign 21 = .ok (.ireturn, 1) := by decide +kernel
theorem dX12_isWord_0 : decode cX12_isWord 0 = .ok (.aload_n 0, 1) := by decide +kernel
theorem dX12_isWord_1 : decode cX12_isWord 1 = .ok (.getfield 270, 3) := by decide +kernel
theorem dX12_isWord_4 : decode cX12_isWord 4 = .ok (.iconst 1, 1) := by decide +kernel
theorem dX12_isWord_5 : decode cX12_isWord 5 = .ok (.if_icmp .ne 15, 3) := by decide +kernel
theorem dX12_isWord_8 : decode cX12_isWord 8 = .ok (.aload_n 0, 1) := by decide +kernel
theorem dX12_isWord_9 : decode cX12_isWord 9 = .ok (.getfield 281, 3) := by decide +kernel
theorem dX12_isWord_12 : decode cX12_isWord 12 = .ok (.iload_n 1, 1) := by decide +kernel
theorem dX12_isWord_13 : decode cX12_isWord 13 = .ok (.if_icmp .ne 7, 3) := by decide +kernel
theorem dX12_isWord_16 : decode cX12_isWord 16 = .ok (.iconst 1, 1) := by decide +kernel
theorem dX12_isWord_17 : decode cX12_isWord 17 = .ok (.goto 4, 3) := by decide +kernel
theorem dX12_isWord_20 : decode cX12_isWord 20 = .ok (.iconst 0, 1) := by decide +kernel
theorem dX12_isWord_21 : decode cX12_isWord 21 = .ok (.ireturn, 1) := by decide +kernel
theorem dX12_errs_0 : decode cX12_errs 0 = .ok (.aload_n 0, 1) := by decide +kernel
theorem dX12_errs_1 : decode cX12_errs 1 = .ok (.getfield 285, 3) := by decide +kernel
theorem dX12_errs_4 : decode cX12_errs 4 = .ok (.ifCond .ne 16, 3) := by decide +kernel
theorem dX12_errs_7 : decode cX12_errs 7 = .ok (.aload_n 0, 1) := by decide +kernel
theorem dX12_errs_8 : decode cX12_errs 8 = .ok (.iload_n 1, 1) := by decide +kernel
theorem dX12_errs_9 : decode cX12_errs 9 = .ok (.putfield 285, 3) := by decide +kernel
theorem dX12_errs_12 : decode cX12_errs 12 = .ok (.aload_n 0, 1) := by decide +kernel
theorem dX12_errs_13 : decode cX12_errs 13 = .ok (.aload_n 0, 1) := by decide +kernel
theorem dX12_errs_14 : decode cX12_errs 14 = .ok (.getfield 267, 3) := by decide +kernel
theorem dX12_errs_17 : decode cX12_errs 17 = .ok (.putfield 288, 3) := by decide +kernel
theorem dX12_errs_20 : decode cX12_errs 20 = .ok (.return_, 1) := by decide +kernel
theorem dX12_emits_0 : decode cX12_emits 0 = .ok (.aload_n 0, 1) := by decide +kernel
theorem dX12_emits_1 : decode cX12_emits 1 = .ok (.getfield 73, 3) := by decide +kernel
theorem dX12_emits_4 : decode cX12_emits 4 = .ok (.aload_n 0, 1) := by decide +kernel
theorem dX12_emits_5 : decode cX12_emits 5 = .ok (.getfield 291, 3) := by decide +kernel
theorem dX12_emits_8 : decode cX12_emits 8 = .ok (.iload_n 1, 1) := by decide +kernel
theorem dX12_emits_9 : decode cX12_emits 9 = .ok (.iastore, 1) := by decide +kernel
theorem dX12_emits_10 : decode cX12_emits 10 = .ok (.aload_n 0, 1) := by decide +kernel
theorem dX12_emits_11 : decode cX12_emits 11 = .ok (.getfield 76, 3) := by decide +kernel
theorem dX12_emits_14 : decode cX12_emits 14 = .ok (.aload_n 0, 1) := by decide +kernel
theorem dX12_emits_15 : decode cX12_emits 15 = .ok (.getfield 291, 3) := by decide +kernel
theorem dX12_emits_18 : decode cX12_emits 18 = .ok (.iload_n 2, 1) := by decide +kernel
theorem dX12_emits_19 : decode cX12_emits 19 = .ok (.iastore, 1) := by decide +kernel
theorem dX12_emits_20 : decode cX12_emits 20 = .ok (.aload_n 0, 1) := by decide +kernel
theorem dX12_emits_21 : decode cX12_emits 21 = .ok (.dup, 1) := by decide +kernel
theorem dX12_emits_22 : decode cX12_emits 22 = .ok (.getfield 291, 3) := by decide +kernel
theorem dX12_emits_25 : decode cX12_emits 25 = .ok (.iconst 1, 1) := by decide +kernel
theorem dX12_emits_26 : decode cX12_emits 26 = .ok (.iadd, 1) := by decide +kernel
theorem dX12_emits_27 : decode cX12_emits 27 = .ok (.putfield 291, 3) := by decide +kernel
theorem dX12_emits_30 : decode cX12_emits 30 = .ok (.return_, 1) := by decide +kernel
theorem dX12_opensFrame_0 : decode cX12_opensFrame 0 = .ok (.aload_n 0, 1) := by decide +kernel
theorem dX12_opensFrame_1 : decode cX12_opensFrame 1 = .ok (.getfield 52, 3) := by decide +kernel
theorem dX12_opensFrame_4 : decode cX12_opensFrame 4 = .ok (.aload_n 0, 1) := by decide +kernel
theorem dX12_opensFrame_5 : decode cX12_opensFrame 5 = .ok (.getfield 294, 3) := by decide +kernel
theorem dX12_opensFrame_8 : decode cX12_opensFrame 8 = .ok (.iload_n 1, 1) := by decide +kernel
theorem dX12_opensFrame_9 : decode cX12_opensFrame 9 = .ok (.iastore, 1) := by decide +kernel
theorem dX12_opensFrame_10 : decode cX12_opensFrame 10 = .ok (.aload_n 0, 1) := by decide +kernel
theorem dX12_opensFrame_11 : decode cX12_opensFrame 11 = .ok (.dup, 1) := by decide +kernel
theorem dX12_opensFrame_12 : decode cX12_opensFrame 12 = .ok (.getfield 294, 3) := by decide +kernel
theorem dX12_opensFrame_15 : decode cX12_opensFrame 15 = .ok (.iconst 1, 1) := by decide +kernel
theorem dX12_opensFrame_16 : decode cX12_opensFrame 16 = .ok (.iadd, 1) := by decide +kernel
theorem dX12_opensFrame_17 : decode cX12_opensFrame 17 = .ok (.putfield 294, 3) := by decide +kernel
theorem dX12_opensFrame_20 : decode cX12_opensFrame 20 = .ok (.return_, 1) := by decide +kernel
theorem dX12_top_0 : decode cX12_top 0 = .ok (.aload_n 0, 1) := by decide +kernel
theorem dX12_top_1 : decode cX12_top 1 = .ok (.getfield 52, 3) := by decide +kernel
theorem dX12_top_4 : decode cX12_top 4 = .ok (.aload_n 0, 1) := by decide +kernel
theorem dX12_top_5 : decode cX12_top 5 = .ok (.getfield 294, 3) := by decide +kernel
theorem dX12_top_8 : decode cX12_top 8 = .ok (.iconst 1, 1) := by decide +kernel
theorem dX12_top_9 : decode cX12_top 9 = .ok (.isub, 1) := by decide +kernel
theorem dX12_top_10 : decode cX12_top 10 = .ok (.iaload, 1) := by decide +kernel
theorem dX12_top_11 : decode cX12_top 11 = .ok (.ireturn, 1) := by decide +kernel
theorem dX12_opensSign_0 : decode cX12_opensSign 0 = .ok (.aload_n 0, 1) := by decide +kernel
theorem dX12_opensSign_1 : decode cX12_opensSign 1 = .ok (.getfield 297, 3) := by decide +kernel
theorem dX12_opensSign_4 : decode cX12_opensSign 4 = .ok (.bipush 8, 2) := by decide +kernel
theorem dX12_opensSign_6 : decode cX12_opensSign 6 = .ok (.if_icmp .ne 10, 3) := by decide +kernel
theorem dX12_opensSign_9 : decode cX12_opensSign 9 = .ok (.aload_n 0, 1) := by decide +kernel
theorem dX12_opensSign_10 : decode cX12_opensSign 10 = .ok (.iconst 3, 1) := by decide +kernel
theorem dX12_opensSign_11 : decode cX12_opensSign 11 = .ok (.invokevirtual 300, 3) := by decide +kernel
theorem dX12_opensSign_14 : decode cX12_opensSign 14 = .ok (.iconst 0, 1) := by decide +kernel
theorem dX12_opensSign_15 : decode cX12_opensSign 15 = .ok (.ireturn, 1) := by decide +kernel
theorem dX12_opensSign_16 : decode cX12_opensSign 16 = .ok (.aload_n 0, 1) := by decide +kernel
theorem dX12_opensSign_17 : decode cX12_opensSign 17 = .ok (.dup, 1) := by decide +kernel
theorem dX12_opensSign_18 : decode cX12_opensSign 18 = .ok (.getfield 297, 3) := by decide +kernel
theorem dX12_opensSign_21 : decode cX12_opensSign 21 = .ok (.iconst 1, 1) := by decide +kernel
theorem dX12_opensSign_22 : decode cX12_opensSign 22 = .ok (.iadd, 1) := by decide +kernel
theorem dX12_opensSign_23 : decode cX12_opensSign 23 = .ok (.putfield 297, 3) := by decide +kernel
theorem dX12_opensSign_26 : decode cX12_opensSign 26 = .ok (.aload_n 0, 1) := by decide +kernel
theorem dX12_opensSign_27 : decode cX12_opensSign 27 = .ok (.iload_n 1, 1) := by decide +kernel
theorem dX12_opensSign_28 : decode cX12_opensSign 28 = .ok (.invokevirtual 303, 3) := by decide +kernel
theorem dX12_opensSign_31 : decode cX12_opensSign 31 = .ok (.aload_n 0, 1) := by decide +kernel
theorem dX12_opensSign_32 : decode cX12_opensSign 32 = .ok (.invokevirtual 306, 3) := by decide +kernel
theorem dX12_opensSign_35 : decode cX12_opensSign 35 = .ok (.iconst 1, 1) := by decide +kernel
theorem dX12_opensSign_36 : decode cX12_opensSign 36 = .ok (.ireturn, 1) := by decide +kernel
theorem dX12_rank_0 : decode cX12_rank 0 = .ok (.iload_n 0, 1) := by decide +kernel
theorem dX12_rank_1 : decode cX12_rank 1 = .ok (.sipush 407, 3) := by decide +kernel
theorem dX12_rank_4 : decode cX12_rank 4 = .ok (.if_icmp .ne 7, 3) := by decide +kernel
theorem dX12_rank_7 : decode cX12_rank 7 = .ok (.iconst 1, 1) := by decide +kernel
theorem dX12_rank_8 : decode cX12_rank 8 = .ok (.goto 31, 3) := by decide +kernel
theorem dX12_rank_11 : decode cX12_rank 11 = .ok (.iload_n 0, 1) := by decide +kernel
theorem dX12_rank_12 : decode cX12_rank 12 = .ok (.sipush 406, 3) := by decide +kernel
theorem dX12_rank_15 : decode cX12_rank 15 = .ok (.if_icmp .ne 7, 3) := by decide +kernel
theorem dX12_rank_18 : decode cX12_rank 18 = .ok (.iconst 2, 1) := by decide +kernel
theorem dX12_rank_19 : decode cX12_rank 19 = .ok (.goto 20, 3) := by decide +kernel
theorem dX12_rank_22 : decode cX12_rank 22 = .ok (.iload_n 0, 1) := by decide +kernel
theorem dX12_rank_23 : decode cX12_rank 23 = .ok (.bipush 43, 2) := by decide +kernel
theorem dX12_rank_25 : decode cX12_rank 25 = .ok (.if_icmp .eq 9, 3) := by decide +kernel
theorem dX12_rank_28 : decode cX12_rank 28 = .ok (.iload_n 0, 1) := by decide +kernel
theorem dX12_rank_29 : decode cX12_rank 29 = .ok (.bipush 45, 2) := by decide +kernel
theorem dX12_rank_31 : decode cX12_rank 31 = .ok (.if_icmp .ne 7, 3) := by decide +kernel
theorem dX12_rank_34 : decode cX12_rank 34 = .ok (.iconst 3, 1) := by decide +kernel
theorem dX12_rank_35 : decode cX12_rank 35 = .ok (.goto 4, 3) := by decide +kernel
theorem dX12_rank_38 : decode cX12_rank 38 = .ok (.iconst 4, 1) := by decide +kernel
theorem dX12_rank_39 : decode cX12_rank 39 = .ok (.ireturn, 1) := by decide +kernel
theorem dX12_works_0 : decode cX12_works 0 = .ok (.aload_n 0, 1) := by decide +kernel
theorem dX12_works_1 : decode cX12_works 1 = .ok (.getfield 309, 3) := by decide +kernel
theorem dX12_works_4 : decode cX12_works 4 = .ok (.ifCond .le 66, 3) := by decide +kernel
theorem dX12_works_7 : decode cX12_works 7 = .ok (.aload_n 0, 1) := by decide +kernel
theorem dX12_works_8 : decode cX12_works 8 = .ok (.getfield 64, 3) := by decide +kernel
theorem dX12_works_11 : decode cX12_works 11 = .ok (.aload_n 0, 1) := by decide +kernel
theorem dX12_works_12 : decode cX12_works 12 = .ok (.getfield 309, 3) := by decide +kernel
theorem dX12_works_15 : decode cX12_works 15 = .ok (.iconst 1, 1) := by decide +kernel
theorem dX12_works_16 : decode cX12_works 16 = .ok (.isub, 1) := by decide +kernel
theorem dX12_works_17 : decode cX12_works 17 = .ok (.iaload, 1) := by decide +kernel
theorem dX12_works_18 : decode cX12_works 18 = .ok (.aload_n 0, 1) := by decide +kernel
theorem dX12_works_19 : decode cX12_works 19 = .ok (.getfield 294, 3) := by decide +kernel
theorem dX12_works_22 : decode cX12_works 22 = .ok (.if_icmp .ne 48, 3) := by decide +kernel
theorem dX12_works_25 : decode cX12_works 25 = .ok (.aload_n 0, 1) := by decide +kernel
theorem dX12_works_26 : decode cX12_works 26 = .ok (.getfield 61, 3) := by decide +kernel
theorem dX12_works_29 : decode cX12_works 29 = .ok (.aload_n 0, 1) := by decide +kernel
theorem dX12_works_30 : decode cX12_works 30 = .ok (.getfield 309, 3) := by decide +kernel
theorem dX12_works_33 : decode cX12_works 33 = .ok (.iconst 1, 1) := by decide +kernel
theorem dX12_works_34 : decode cX12_works 34 = .ok (.isub, 1) := by decide +kernel
theorem dX12_works_35 : decode cX12_works 35 = .ok (.iaload, 1) := by decide +kernel
theorem dX12_works_36 : decode cX12_works 36 = .ok (.invokestatic 312, 3) := by decide +kernel
theorem dX12_works_39 : decode cX12_works 39 = .ok (.iload_n 1, 1) := by decide +kernel
theorem dX12_works_40 : decode cX12_works 40 = .ok (.if_icmp .lt 30, 3) := by decide +kernel
theorem dX12_works_43 : decode cX12_works 43 = .ok (.aload_n 0, 1) := by decide +kernel
theorem dX12_works_44 : decode cX12_works 44 = .ok (.dup, 1) := by decide +kernel
theorem dX12_works_45 : decode cX12_works 45 = .ok (.getfield 309, 3) := by decide +kernel
theorem dX12_works_48 : decode cX12_works 48 = .ok (.iconst 1, 1) := by decide +kernel
theorem dX12_works_49 : decode cX12_works 49 = .ok (.isub, 1) := by decide +kernel
theorem dX12_works_50 : decode cX12_works 50 = .ok (.putfield 309, 3) := by decide +kernel
theorem dX12_works_53 : decode cX12_works 53 = .ok (.aload_n 0, 1) := by decide +kernel
theorem dX12_works_54 : decode cX12_works 54 = .ok (.aload_n 0, 1) := by decide +kernel
theorem dX12_works_55 : decode cX12_works 55 = .ok (.getfield 61, 3) := by decide +kernel
theorem dX12_works_58 : decode cX12_works 58 = .ok (.aload_n 0, 1) := by decide +kernel
theorem dX12_works_59 : decode cX12_works 59 = .ok (.getfield 309, 3) := by decide +kernel
theorem dX12_works_62 : decode cX12_works 62 = .ok (.iaload, 1) := by decide +kernel
theorem dX12_works_63 : decode cX12_works 63 = .ok (.iconst 0, 1) := by decide +kernel
theorem dX12_works_64 : decode cX12_works 64 = .ok (.invokevirtual 315, 3) := by decide +kernel
theorem dX12_works_67 : decode cX12_works 67 = .ok (.goto (-67), 3) := by decide +kernel
theorem dX12_works_70 : decode cX12_works 70 = .ok (.return_, 1) := by decide +kernel
theorem dX12_waitsFor_0 : decode cX12_waitsFor 0 = .ok (.aload_n 0, 1) := by decide +kernel
theorem dX12_waitsFor_1 : decode cX12_waitsFor 1 = .ok (.iload_n 1, 1) := by decide +kernel
theorem dX12_waitsFor_2 : decode cX12_waitsFor 2 = .ok (.invokestatic 312, 3) := by decide +kernel
theorem dX12_waitsFor_5 : decode cX12_waitsFor 5 = .ok (.invokevirtual 319, 3) := by decide +kernel
theorem dX12_waitsFor_8 : decode cX12_waitsFor 8 = .ok (.aload_n 0, 1) := by decide +kernel
theorem dX12_waitsFor_9 : decode cX12_waitsFor 9 = .ok (.getfield 61, 3) := by decide +kernel
theorem dX12_waitsFor_12 : decode cX12_waitsFor 12 = .ok (.aload_n 0, 1) := by decide +kernel
theorem dX12_waitsFor_13 : decode cX12_waitsFor 13 = .ok (.getfield 309, 3) := by decide +kernel
theorem dX12_waitsFor_16 : decode cX12_waitsFor 16 = .ok (.iload_n 1, 1) := by decide +kernel
theorem dX12_waitsFor_17 : decode cX12_waitsFor 17 = .ok (.iastore, 1) := by decide +kernel
theorem dX12_waitsFor_18 : decode cX12_waitsFor 18 = .ok (.aload_n 0, 1) := by decide +kernel
theorem dX12_waitsFor_19 : decode cX12_waitsFor 19 = .ok (.getfield 64, 3) := by decide +kernel
theorem dX12_waitsFor_22 : decode cX12_waitsFor 22 = .ok (.aload_n 0, 1) := by decide +kernel
theorem dX12_waitsFor_23 : decode cX12_waitsFor 23 = .ok (.getfield 309, 3) := by decide +kernel
theorem dX12_waitsFor_26 : decode cX12_waitsFor 26 = .ok (.aload_n 0, 1) := by decide +kernel
theorem dX12_waitsFor_27 : decode cX12_waitsFor 27 = .ok (.getfield 294, 3) := by decide +kernel
theorem dX12_waitsFor_30 : decode cX12_waitsFor 30 = .ok (.iastore, 1) := by decide +kernel
theorem dX12_waitsFor_31 : decode cX12_waitsFor 31 = .ok (.aload_n 0, 1) := by decide +kernel
theorem dX12_waitsFor_32 : decode cX12_waitsFor 32 = .ok (.dup, 1) := by decide +kernel
theorem dX12_waitsFor_33 : decode cX12_waitsFor 33 = .ok (.getfield 309, 3) := by decide +kernel
theorem dX12_waitsFor_36 : decode cX12_waitsFor 36 = .ok (.iconst 1, 1) := by decide +kernel
theorem dX12_waitsFor_37 : decode cX12_waitsFor 37 = .ok (.iadd, 1) := by decide +kernel
theorem dX12_waitsFor_38 : decode cX12_waitsFor 38 = .ok (.putfield 309, 3) := by decide +kernel
theorem dX12_waitsFor_41 : decode cX12_waitsFor 41 = .ok (.aload_n 0, 1) := by decide +kernel
theorem dX12_waitsFor_42 : decode cX12_waitsFor 42 = .ok (.invokevirtual 306, 3) := by decide +kernel
theorem dX12_waitsFor_45 : decode cX12_waitsFor 45 = .ok (.return_, 1) := by decide +kernel
theorem dX12_nameOf_0 : decode cX12_nameOf 0 = .ok (.iload_n 0, 1) := by decide +kernel
theorem dX12_nameOf_1 : decode cX12_nameOf 1 = .ok (.iconst 2, 1) := by decide +kernel
theorem dX12_nameOf_2 : decode cX12_nameOf 2 = .ok (.if_icmp .ne 7, 3) := by decide +kernel
theorem dX12_nameOf_5 : decode cX12_nameOf 5 = .ok (.iconst 0, 1) := by decide +kernel
theorem dX12_nameOf_6 : decode cX12_nameOf 6 = .ok (.goto 17, 3) := by decide +kernel
theorem dX12_nameOf_9 : decode cX12_nameOf 9 = .ok (.iload_n 0, 1) := by decide +kernel
theorem dX12_nameOf_10 : decode cX12_nameOf 10 = .ok (.bipush 8, 2) := by decide +kernel
theorem dX12_nameOf_12 : decode cX12_nameOf 12 = .ok (.if_icmp .le 10, 3) := by decide +kernel
theorem dX12_nameOf_15 : decode cX12_nameOf 15 = .ok (.iload_n 0, 1) := by decide +kernel
theorem dX12_nameOf_16 : decode cX12_nameOf 16 = .ok (.bipush 8, 2) := by decide +kernel
theorem dX12_nameOf_18 : decode cX12_nameOf 18 = .ok (.isub, 1) := by decide +kernel
theorem dX12_nameOf_19 : decode cX12_nameOf 19 = .ok (.goto 4, 3) := by decide +kernel
theorem dX12_nameOf_22 : decode cX12_nameOf 22 = .ok (.iconst (-1), 1) := by decide +kernel
theorem dX12_nameOf_23 : decode cX12_nameOf 23 = .ok (.ireturn, 1) := by decide +kernel
theorem dX12_asks_0 : decode cX12_asks 0 = .ok (.aload_n 0, 1) := by decide +kernel
theorem dX12_asks_1 : decode cX12_asks 1 = .ok (.bipush 6, 2) := by decide +kernel
theorem dX12_asks_3 : decode cX12_asks 3 = .ok (.invokevirtual 322, 3) := by decide +kernel
theorem dX12_asks_6 : decode cX12_asks 6 = .ok (.ifCond .eq 12, 3) := by decide +kernel
theorem dX12_asks_9 : decode cX12_asks 9 = .ok (.aload_n 0, 1) := by decide +kernel
theorem dX12_asks_10 : decode cX12_asks 10 = .ok (.iconst 3, 1) := by decide +kernel
theorem dX12_asks_11 : decode cX12_asks 11 = .ok (.invokevirtual 325, 3) := by decide +kernel
theorem dX12_asks_14 : decode cX12_asks 14 = .ok (.istore_n 1, 1) := by decide +kernel
theorem dX12_asks_15 : decode cX12_asks 15 = .ok (.goto 13, 3) := by decide +kernel
theorem dX12_asks_18 : decode cX12_asks 18 = .ok (.aload_n 0, 1) := by decide +kernel
theorem dX12_asks_19 : decode cX12_asks 19 = .ok (.iconst 4, 1) := by decide +kernel
theorem dX12_asks_20 : decode cX12_asks 20 = .ok (.invokevirtual 303, 3) := by decide +kernel
theorem dX12_asks_23 : decode cX12_asks 23 = .ok (.aload_n 0, 1) := by decide +kernel
theorem dX12_asks_24 : decode cX12_asks 24 = .ok (.iconst 1, 1) := by decide +kernel
theorem dX12_asks_25 : decode cX12_asks 25 = .ok (.putfield 328, 3) := by decide +kernel
theorem dX12_asks_28 : decode cX12_asks 28 = .ok (.return_, 1) := by decide +kernel
theorem dX12_begins_0 : decode cX12_begins 0 = .ok (.aload_n 0, 1) := by decide +kernel
theorem dX12_begins_1 : decode cX12_begins 1 = .ok (.getfield 270, 3) := by decide +kernel
theorem dX12_begins_4 : decode cX12_begins 4 = .ok (.iconst 2, 1) := by decide +kernel
theorem dX12_begins_5 : decode cX12_begins 5 = .ok (.if_icmp .ne 41, 3) := by decide +kernel
theorem dX12_begins_8 : decode cX12_begins 8 = .ok (.aload_n 0, 1) := by decide +kernel
theorem dX12_begins_9 : decode cX12_begins 9 = .ok (.getfield 281, 3) := by decide +kernel
theorem dX12_begins_12 : decode cX12_begins 12 = .ok (.sipush 9999, 3) := by decide +kernel
theorem dX12_begins_15 : decode cX12_begins 15 = .ok (.if_icmp .le 9, 3) := by decide +kernel
theorem dX12_begins_18 : decode cX12_begins 18 = .ok (.aload_n 0, 1) := by decide +kernel
theorem dX12_begins_19 : decode cX12_begins 19 = .ok (.iconst 2, 1) := by decide +kernel
theorem dX12_begins_20 : decode cX12_begins 20 = .ok (.invokevirtual 300, 3) := by decide +kernel
theorem dX12_begins_23 : decode cX12_begins 23 = .ok (.return_, 1) := by decide +kernel
theorem dX12_begins_24 : decode cX12_begins 24 = .ok (.aload_n 0, 1) := by decide +kernel
theorem dX12_begins_25 : decode cX12_begins 25 = .ok (.sipush 400, 3) := by decide +kernel
theorem dX12_begins_28 : decode cX12_begins 28 = .ok (.aload_n 0, 1) := by decide +kernel
theorem dX12_begins_29 : decode cX12_begins 29 = .ok (.getfield 281, 3) := by decide +kernel
theorem dX12_begins_32 : decode cX12_begins 32 = .ok (.invokevirtual 315, 3) := by decide +kernel
theorem dX12_begins_35 : decode cX12_begins 35 = .ok (.aload_n 0, 1) := by decide +kernel
theorem dX12_begins_36 : decode cX12_begins 36 = .ok (.invokevirtual 306, 3) := by decide +kernel
theorem dX12_begins_39 : decode cX12_begins 39 = .ok (.aload_n 0, 1) := by decide +kernel
theorem dX12_begins_40 : decode cX12_begins 40 = .ok (.invokevirtual 331, 3) := by decide +kernel
theorem dX12_begins_43 : decode cX12_begins 43 = .ok (.goto 155, 3) := by decide +kernel
theorem dX12_begins_46 : decode cX12_begins 46 = .ok (.aload_n 0, 1) := by decide +kernel
theorem dX12_begins_47 : decode cX12_begins 47 = .ok (.getfield 270, 3) := by decide +kernel
theorem dX12_begins_50 : decode cX12_begins 50 = .ok (.iconst 1, 1) := by decide +kernel
theorem dX12_begins_51 : decode cX12_begins 51 = .ok (.if_icmp .ne 38, 3) := by decide +kernel
theorem dX12_begins_54 : decode cX12_begins 54 = .ok (.aload_n 0, 1) := by decide +kernel
theorem dX12_begins_55 : decode cX12_begins 55 = .ok (.getfield 281, 3) := by decide +kernel
theorem dX12_begins_58 : decode cX12_begins 58 = .ok (.invokestatic 334, 3) := by decide +kernel
theorem dX12_begins_61 : decode cX12_begins 61 = .ok (.ifCond .lt 28, 3) := by decide +kernel
theorem dX12_begins_64 : decode cX12_begins 64 = .ok (.aload_n 0, 1) := by decide +kernel
theorem dX12_begins_65 : decode cX12_begins 65 = .ok (.sipush 401, 3) := by decide +kernel
theorem dX12_begins_68 : decode cX12_begins 68 = .ok (.aload_n 0, 1) := by decide +kernel
theorem dX12_begins_69 : decode cX12_begins 69 = .ok (.getfield 281, 3) := by decide +kernel
theorem dX12_begins_72 : decode cX12_begins 72 = .ok (.invokestatic 334, 3) := by decide +kernel
theorem dX12_begins_75 : decode cX12_begins 75 = .ok (.invokevirtual 315, 3) := by decide +kernel
theorem dX12_begins_78 : decode cX12_begins 78 = .ok (.aload_n 0, 1) := by decide +kernel
theorem dX12_begins_79 : decode cX12_begins 79 = .ok (.invokevirtual 306, 3) := by decide +kernel
theorem dX12_begins_82 : decode cX12_begins 82 = .ok (.aload_n 0, 1) := by decide +kernel
theorem dX12_begins_83 : decode cX12_begins 83 = .ok (.invokevirtual 331, 3) := by decide +kernel
theorem dX12_begins_86 : decode cX12_begins 86 = .ok (.goto 112, 3) := by decide +kernel
theorem dX12_begins_89 : decode cX12_begins 89 = .ok (.aload_n 0, 1) := by decide +kernel
theorem dX12_begins_90 : decode cX12_begins 90 = .ok (.bipush 40, 2) := by decide +kernel
theorem dX12_begins_92 : decode cX12_begins 92 = .ok (.invokevirtual 337, 3) := by decide +kernel
theorem dX12_begins_95 : decode cX12_begins 95 = .ok (.ifCond .eq 13, 3) := by decide +kernel
theorem dX12_begins_98 : decode cX12_begins 98 = .ok (.aload_n 0, 1) := by decide +kernel
theorem dX12_begins_99 : decode cX12_begins 99 = .ok (.bipush 6, 2) := by decide +kernel
theorem dX12_begins_101 : decode cX12_begins 101 = .ok (.invokevirtual 325, 3) := by decide +kernel
theorem dX12_begins_104 : decode cX12_begins 104 = .ok (.istore_n 1, 1) := by decide +kernel
theorem dX12_begins_105 : decode cX12_begins 105 = .ok (.goto 93, 3) := by decide +kernel
theorem dX12_begins_108 : decode cX12_begins 108 = .ok (.aload_n 0, 1) := by decide +kernel
theorem dX12_begins_109 : decode cX12_begins 109 = .ok (.bipush 45, 2) := by decide +kernel
theorem dX12_begins_111 : decode cX12_begins 111 = .ok (.invokevirtual 337, 3) := by decide +kernel
theorem dX12_begins_114 : decode cX12_begins 114 = .ok (.ifCond .eq 13, 3) := by decide +kernel
theorem dX12_begins_117 : decode cX12_begins 117 = .ok (.aload_n 0, 1) := by decide +kernel
theorem dX12_begins_118 : decode cX12_begins 118 = .ok (.bipush 7, 2) := by decide +kernel
theorem dX12_begins_120 : decode cX12_begins 120 = .ok (.invokevirtual 325, 3) := by decide +kernel
theorem dX12_begins_123 : decode cX12_begins 123 = .ok (.istore_n 1, 1) := by decide +kernel
theorem dX12_begins_124 : decode cX12_begins 124 = .ok (.goto 74, 3) := by decide +kernel
theorem dX12_begins_127 : decode cX12_begins 127 = .ok (.aload_n 0, 1) := by decide +kernel
theorem dX12_begins_128 : decode cX12_begins 128 = .ok (.bipush 7, 2) := by decide +kernel
theorem dX12_begins_130 : decode cX12_begins 130 = .ok (.invokevirtual 322, 3) := by decide +kernel
theorem dX12_begins_133 : decode cX12_begins 133 = .ok (.ifCond .ne 12, 3) := by decide +kernel
theorem dX12_begins_136 : decode cX12_begins 136 = .ok (.aload_n 0, 1) := by decide +kernel
theorem dX12_begins_137 : decode cX12_begins 137 = .ok (.bipush 8, 2) := by decide +kernel
theorem dX12_begins_139 : decode cX12_begins 139 = .ok (.invokevirtual 322, 3) := by decide +kernel
theorem dX12_begins_142 : decode cX12_begins 142 = .ok (.ifCond .eq 51, 3) := by decide +kernel
theorem dX12_begins_145 : decode cX12_begins 145 = .ok (.aload_n 0, 1) := by decide +kernel
theorem dX12_begins_146 : decode cX12_begins 146 = .ok (.getfield 281, 3) := by decide +kernel
theorem dX12_begins_149 : decode cX12_begins 149 = .ok (.istore_n 1, 1) := by decide +kernel
theorem dX12_begins_150 : decode cX12_begins 150 = .ok (.aload_n 0, 1) := by decide +kernel
theorem dX12_begins_151 : decode cX12_begins 151 = .ok (.invokevirtual 306, 3) := by decide +kernel
theorem dX12_begins_154 : decode cX12_begins 154 = .ok (.aload_n 0, 1) := by decide +kernel
theorem dX12_begins_155 : decode cX12_begins 155 = .ok (.bipush 40, 2) := by decide +kernel
theorem dX12_begins_157 : decode cX12_begins 157 = .ok (.invokevirtual 337, 3) := by decide +kernel
theorem dX12_begins_160 : decode cX12_begins 160 = .ok (.ifCond .ne 11, 3) := by decide +kernel
theorem dX12_begins_163 : decode cX12_begins 163 = .ok (.aload_n 0, 1) := by decide +kernel
theorem dX12_begins_164 : decode cX12_begins 164 = .ok (.iconst 1, 1) := by decide +kernel
theorem dX12_begins_165 : decode cX12_begins 165 = .ok (.invokevirtual 300, 3) := by decide +kernel
theorem dX12_begins_168 : decode cX12_begins 168 = .ok (.goto 22, 3) := by decide +kernel
theorem dX12_begins_171 : decode cX12_begins 171 = .ok (.aload_n 0, 1) := by decide +kernel
theorem dX12_begins_172 : decode cX12_begins 172 = .ok (.bipush 8, 2) := by decide +kernel
theorem dX12_begins_174 : decode cX12_begins 174 = .ok (.invokevirtual 325, 3) := by decide +kernel
theorem dX12_begins_177 : decode cX12_begins 177 = .ok (.ifCond .eq 13, 3) := by decide +kernel
theorem dX12_begins_180 : decode cX12_begins 180 = .ok (.aload_n 0, 1) := by decide +kernel
theorem dX12_begins_181 : decode cX12_begins 181 = .ok (.getfield 55, 3) := by decide +kernel
theorem dX12_begins_184 : decode cX12_begins 184 = .ok (.aload_n 0, 1) := by decide +kernel
theorem dX12_begins_185 : decode cX12_begins 185 = .ok (.getfield 294, 3) := by decide +kernel
theorem dX12_begins_188 : decode cX12_begins 188 = .ok (.iload_n 1, 1) := by decide +kernel
theorem dX12_begins_189 : decode cX12_begins 189 = .ok (.iastore, 1) := by decide +kernel
theorem dX12_begins_190 : decode cX12_begins 190 = .ok (.goto 8, 3) := by decide +kernel
theorem dX12_begins_193 : decode cX12_begins 193 = .ok (.aload_n 0, 1) := by decide +kernel
theorem dX12_begins_194 : decode cX12_begins 194 = .ok (.iconst 1, 1) := by decide +kernel
theorem dX12_begins_195 : decode cX12_begins 195 = .ok (.invokevirtual 300, 3) := by decide +kernel
theorem dX12_begins_198 : decode cX12_begins 198 = .ok (.return_, 1) := by decide +kernel
theorem dX12_oneIsOver_0 : decode cX12_oneIsOver 0 = .ok (.aload_n 0, 1) := by decide +kernel
theorem dX12_oneIsOver_1 : decode cX12_oneIsOver 1 = .ok (.invokevirtual 340, 3) := by decide +kernel
theorem dX12_oneIsOver_4 : decode cX12_oneIsOver 4 = .ok (.bipush 7, 2) := by decide +kernel
theorem dX12_oneIsOver_6 : decode cX12_oneIsOver 6 = .ok (.if_icmp .ne 34, 3) := by decide +kernel
theorem dX12_oneIsOver_9 : decode cX12_oneIsOver 9 = .ok (.aload_n 0, 1) := by decide +kernel
theorem dX12_oneIsOver_10 : decode cX12_oneIsOver 10 = .ok (.dup, 1) := by decide +kernel
theorem dX12_oneIsOver_11 : decode cX12_oneIsOver 11 = .ok (.getfield 294, 3) := by decide +kernel
theorem dX12_oneIsOver_14 : decode cX12_oneIsOver 14 = .ok (.iconst 1, 1) := by decide +kernel
theorem dX12_oneIsOver_15 : decode cX12_oneIsOver 15 = .ok (.isub, 1) := by decide +kernel
theorem dX12_oneIsOver_16 : decode cX12_oneIsOver 16 = .ok (.putfield 294, 3) := by decide +kernel
theorem dX12_oneIsOver_19 : decode cX12_oneIsOver 19 = .ok (.aload_n 0, 1) := by decide +kernel
theorem dX12_oneIsOver_20 : decode cX12_oneIsOver 20 = .ok (.dup, 1) := by decide +kernel
theorem dX12_oneIsOver_21 : decode cX12_oneIsOver 21 = .ok (.getfield 297, 3) := by decide +kernel
theorem dX12_oneIsOver_24 : decode cX12_oneIsOver 24 = .ok (.iconst 1, 1) := by decide +kernel
theorem dX12_oneIsOver_25 : decode cX12_oneIsOver 25 = .ok (.isub, 1) := by decide +kernel
theorem dX12_oneIsOver_26 : decode cX12_oneIsOver 26 = .ok (.putfield 297, 3) := by decide +kernel
theorem dX12_oneIsOver_29 : decode cX12_oneIsOver 29 = .ok (.aload_n 0, 1) := by decide +kernel
theorem dX12_oneIsOver_30 : decode cX12_oneIsOver 30 = .ok (.sipush 402, 3) := by decide +kernel
theorem dX12_oneIsOver_33 : decode cX12_oneIsOver 33 = .ok (.iconst 0, 1) := by decide +kernel
theorem dX12_oneIsOver_34 : decode cX12_oneIsOver 34 = .ok (.invokevirtual 315, 3) := by decide +kernel
theorem dX12_oneIsOver_37 : decode cX12_oneIsOver 37 = .ok (.goto (-37), 3) := by decide +kernel
theorem dX12_oneIsOver_40 : decode cX12_oneIsOver 40 = .ok (.aload_n 0, 1) := by decide +kernel
theorem dX12_oneIsOver_41 : decode cX12_oneIsOver 41 = .ok (.iconst 2, 1) := by decide +kernel
theorem dX12_oneIsOver_42 : decode cX12_oneIsOver 42 = .ok (.putfield 328, 3) := by decide +kernel
theorem dX12_oneIsOver_45 : decode cX12_oneIsOver 45 = .ok (.return_, 1) := by decide +kernel
theorem dX12_askIsOver_0 : decode cX12_askIsOver 0 = .ok (.aload_n 0, 1) := by decide +kernel
theorem dX12_askIsOver_1 : decode cX12_askIsOver 1 = .ok (.invokevirtual 340, 3) := by decide +kernel
theorem dX12_askIsOver_4 : decode cX12_askIsOver 4 = .ok (.iconst 3, 1) := by decide +kernel
theorem dX12_askIsOver_5 : decode cX12_askIsOver 5 = .ok (.if_icmp .ne 34, 3) := by decide +kernel
theorem dX12_askIsOver_8 : decode cX12_askIsOver 8 = .ok (.aload_n 0, 1) := by decide +kernel
theorem dX12_askIsOver_9 : decode cX12_askIsOver 9 = .ok (.dup, 1) := by decide +kernel
theorem dX12_askIsOver_10 : decode cX12_askIsOver 10 = .ok (.getfield 294, 3) := by decide +kernel
theorem dX12_askIsOver_13 : decode cX12_askIsOver 13 = .ok (.iconst 1, 1) := by decide +kernel
theorem dX12_askIsOver_14 : decode cX12_askIsOver 14 = .ok (.isub, 1) := by decide +kernel
theorem dX12_askIsOver_15 : decode cX12_askIsOver 15 = .ok (.putfield 294, 3) := by decide +kernel
theorem dX12_askIsOver_18 : decode cX12_askIsOver 18 = .ok (.aload_n 0, 1) := by decide +kernel
theorem dX12_askIsOver_19 : decode cX12_askIsOver 19 = .ok (.dup, 1) := by decide +kernel
theorem dX12_askIsOver_20 : decode cX12_askIsOver 20 = .ok (.getfield 297, 3) := by decide +kernel
theorem dX12_askIsOver_23 : decode cX12_askIsOver 23 = .ok (.iconst 1, 1) := by decide +kernel
theorem dX12_askIsOver_24 : decode cX12_askIsOver 24 = .ok (.isub, 1) := by decide +kernel
theorem dX12_askIsOver_25 : decode cX12_askIsOver 25 = .ok (.putfield 297, 3) := by decide +kernel
theorem dX12_askIsOver_28 : decode cX12_askIsOver 28 = .ok (.aload_n 0, 1) := by decide +kernel
theorem dX12_askIsOver_29 : decode cX12_askIsOver 29 = .ok (.sipush 405, 3) := by decide +kernel
theorem dX12_askIsOver_32 : decode cX12_askIsOver 32 = .ok (.iconst 0, 1) := by decide +kernel
theorem dX12_askIsOver_33 : decode cX12_askIsOver 33 = .ok (.invokevirtual 315, 3) := by decide +kernel
theorem dX12_askIsOver_36 : decode cX12_askIsOver 36 = .ok (.goto (-36), 3) := by decide +kernel
theorem dX12_askIsOver_39 : decode cX12_askIsOver 39 = .ok (.aload_n 0, 1) := by decide +kernel
theorem dX12_askIsOver_40 : decode cX12_askIsOver 40 = .ok (.iconst 3, 1) := by decide +kernel
theorem dX12_askIsOver_41 : decode cX12_askIsOver 41 = .ok (.putfield 328, 3) := by decide +kernel
theorem dX12_askIsOver_44 : decode cX12_askIsOver 44 = .ok (.return_, 1) := by decide +kernel
theorem dX12_isAsking_0 : decode cX12_isAsking 0 = .ok (.iload_n 0, 1) := by decide +kernel
theorem dX12_isAsking_1 : decode cX12_isAsking 1 = .ok (.bipush 60, 2) := by decide +kernel
theorem dX12_isAsking_3 : decode cX12_isAsking 3 = .ok (.if_icmp .eq 35, 3) := by decide +kernel
theorem dX12_isAsking_6 : decode cX12_isAsking 6 = .ok (.iload_n 0, 1) := by decide +kernel
theorem dX12_isAsking_7 : decode cX12_isAsking 7 = .ok (.bipush 62, 2) := by decide +kernel
theorem dX12_isAsking_9 : decode cX12_isAsking 9 = .ok (.if_icmp .eq 29, 3) := by decide +kernel
theorem dX12_isAsking_12 : decode cX12_isAsking 12 = .ok (.iload_n 0, 1) := by decide +kernel
theorem dX12_isAsking_13 : decode cX12_isAsking 13 = .ok (.bipush 61, 2) := by decide +kernel
theorem dX12_isAsking_15 : decode cX12_isAsking 15 = .ok (.if_icmp .eq 23, 3) := by decide +kernel
theorem dX12_isAsking_18 : decode cX12_isAsking 18 = .ok (.iload_n 0, 1) := by decide +kernel
theorem dX12_isAsking_19 : decode cX12_isAsking 19 = .ok (.bipush 35, 2) := by decide +kernel
theorem dX12_isAsking_21 : decode cX12_isAsking 21 = .ok (.if_icmp .eq 17, 3) := by decide +kernel
theorem dX12_isAsking_24 : decode cX12_isAsking 24 = .ok (.iload_n 0, 1) := by decide +kernel
theorem dX12_isAsking_25 : decode cX12_isAsking 25 = .ok (.sipush 300, 3) := by decide +kernel
theorem dX12_isAsking_28 : decode cX12_isAsking 28 = .ok (.if_icmp .eq 10, 3) := by decide +kernel
theorem dX12_isAsking_31 : decode cX12_isAsking 31 = .ok (.iload_n 0, 1) := by decide +kernel
theorem dX12_isAsking_32 : decode cX12_isAsking 32 = .ok (.sipush 301, 3) := by decide +kernel
theorem dX12_isAsking_35 : decode cX12_isAsking 35 = .ok (.if_icmp .ne 7, 3) := by decide +kernel
theorem dX12_isAsking_38 : decode cX12_isAsking 38 = .ok (.iconst 1, 1) := by decide +kernel
theorem dX12_isAsking_39 : decode cX12_isAsking 39 = .ok (.goto 4, 3) := by decide +kernel
theorem dX12_isAsking_42 : decode cX12_isAsking 42 = .ok (.iconst 0, 1) := by decide +kernel
theorem dX12_isAsking_43 : decode cX12_isAsking 43 = .ok (.ireturn, 1) := by decide +kernel
theorem dX12_goesOn_0 : decode cX12_goesOn 0 = .ok (.aload_n 0, 1) := by decide +kernel
theorem dX12_goesOn_1 : decode cX12_goesOn 1 = .ok (.invokevirtual 340, 3) := by decide +kernel
theorem dX12_goesOn_4 : decode cX12_goesOn 4 = .ok (.istore_n 1, 1) := by decide +kernel
theorem dX12_goesOn_5 : decode cX12_goesOn 5 = .ok (.aload_n 0, 1) := by decide +kernel
theorem dX12_goesOn_6 : decode cX12_goesOn 6 = .ok (.getfield 270, 3) := by decide +kernel
theorem dX12_goesOn_9 : decode cX12_goesOn 9 = .ok (.iconst 3, 1) := by decide +kernel
theorem dX12_goesOn_10 : decode cX12_goesOn 10 = .ok (.if_icmp .ne 55, 3) := by decide +kernel
theorem dX12_goesOn_13 : decode cX12_goesOn 13 = .ok (.aload_n 0, 1) := by decide +kernel
theorem dX12_goesOn_14 : decode cX12_goesOn 14 = .ok (.getfield 281, 3) := by decide +kernel
theorem dX12_goesOn_17 : decode cX12_goesOn 17 = .ok (.bipush 43, 2) := by decide +kernel
theorem dX12_goesOn_19 : decode cX12_goesOn 19 = .ok (.if_icmp .eq 30, 3) := by decide +kernel
theorem dX12_goesOn_22 : decode cX12_goesOn 22 = .ok (.aload_n 0, 1) := by decide +kernel
theorem dX12_goesOn_23 : decode cX12_goesOn 23 = .ok (.getfield 281, 3) := by decide +kernel
theorem dX12_goesOn_26 : decode cX12_goesOn 26 = .ok (.bipush 45, 2) := by decide +kernel
theorem dX12_goesOn_28 : decode cX12_goesOn 28 = .ok (.if_icmp .eq 21, 3) := by decide +kernel
theorem dX12_goesOn_31 : decode cX12_goesOn 31 = .ok (.aload_n 0, 1) := by decide +kernel
theorem dX12_goesOn_32 : decode cX12_goesOn 32 = .ok (.getfield 281, 3) := by decide +kernel
theorem dX12_goesOn_35 : decode cX12_goesOn 35 = .ok (.bipush 42, 2) := by decide +kernel
theorem dX12_goesOn_37 : decode cX12_goesOn 37 = .ok (.if_icmp .eq 12, 3) := by decide +kernel
theorem dX12_goesOn_40 : decode cX12_goesOn 40 = .ok (.aload_n 0, 1) := by decide +kernel
theorem dX12_goesOn_41 : decode cX12_goesOn 41 = .ok (.getfield 281, 3) := by decide +kernel
theorem dX12_goesOn_44 : decode cX12_goesOn 44 = .ok (.bipush 47, 2) := by decide +kernel
theorem dX12_goesOn_46 : decode cX12_goesOn 46 = .ok (.if_icmp .ne 19, 3) := by decide +kernel
theorem dX12_goesOn_49 : decode cX12_goesOn 49 = .ok (.aload_n 0, 1) := by decide +kernel
theorem dX12_goesOn_50 : decode cX12_goesOn 50 = .ok (.aload_n 0, 1) := by decide +kernel
theorem dX12_goesOn_51 : decode cX12_goesOn 51 = .ok (.getfield 281, 3) := by decide +kernel
theorem dX12_goesOn_54 : decode cX12_goesOn 54 = .ok (.invokevirtual 344, 3) := by decide +kernel
theorem dX12_goesOn_57 : decode cX12_goesOn 57 = .ok (.aload_n 0, 1) := by decide +kernel
theorem dX12_goesOn_58 : decode cX12_goesOn 58 = .ok (.iconst 1, 1) := by decide +kernel
theorem dX12_goesOn_59 : decode cX12_goesOn 59 = .ok (.putfield 328, 3) := by decide +kernel
theorem dX12_goesOn_62 : decode cX12_goesOn 62 = .ok (.goto 275, 3) := by decide +kernel
theorem dX12_goesOn_65 : decode cX12_goesOn 65 = .ok (.iload_n 1, 1) := by decide +kernel
theorem dX12_goesOn_66 : decode cX12_goesOn 66 = .ok (.bipush 6, 2) := by decide +kernel
theorem dX12_goesOn_68 : decode cX12_goesOn 68 = .ok (.if_icmp .eq 9, 3) := by decide +kernel
theorem dX12_goesOn_71 : decode cX12_goesOn 71 = .ok (.iload_n 1, 1) := by decide +kernel
theorem dX12_goesOn_72 : decode cX12_goesOn 72 = .ok (.bipush 9, 2) := by decide +kernel
theorem dX12_goesOn_74 : decode cX12_goesOn 74 = .ok (.if_icmp .ne 84, 3) := by decide +kernel
theorem dX12_goesOn_77 : decode cX12_goesOn 77 = .ok (.aload_n 0, 1) := by decide +kernel
theorem dX12_goesOn_78 : decode cX12_goesOn 78 = .ok (.bipush 41, 2) := by decide +kernel
theorem dX12_goesOn_80 : decode cX12_goesOn 80 = .ok (.invokevirtual 337, 3) := by decide +kernel
theorem dX12_goesOn_83 : decode cX12_goesOn 83 = .ok (.ifCond .eq 75, 3) := by decide +kernel
theorem dX12_goesOn_86 : decode cX12_goesOn 86 = .ok (.aload_n 0, 1) := by decide +kernel
theorem dX12_goesOn_87 : decode cX12_goesOn 87 = .ok (.iconst 3, 1) := by decide +kernel
theorem dX12_goesOn_88 : decode cX12_goesOn 88 = .ok (.invokevirtual 319, 3) := by decide +kernel
theorem dX12_goesOn_91 : decode cX12_goesOn 91 = .ok (.aload_n 0, 1) := by decide +kernel
theorem dX12_goesOn_92 : decode cX12_goesOn 92 = .ok (.getfield 55, 3) := by decide +kernel
theorem dX12_goesOn_95 : decode cX12_goesOn 95 = .ok (.aload_n 0, 1) := by decide +kernel
theorem dX12_goesOn_96 : decode cX12_goesOn 96 = .ok (.getfield 294, 3) := by decide +kernel
theorem dX12_goesOn_99 : decode cX12_goesOn 99 = .ok (.iaload, 1) := by decide +kernel
theorem dX12_goesOn_100 : decode cX12_goesOn 100 = .ok (.istore_n 2, 1) := by decide +kernel
theorem dX12_goesOn_101 : decode cX12_goesOn 101 = .ok (.aload_n 0, 1) := by decide +kernel
theorem dX12_goesOn_102 : decode cX12_goesOn 102 = .ok (.dup, 1) := by decide +kernel
theorem dX12_goesOn_103 : decode cX12_goesOn 103 = .ok (.getfield 294, 3) := by decide +kernel
theorem dX12_goesOn_106 : decode cX12_goesOn 106 = .ok (.iconst 1, 1) := by decide +kernel
theorem dX12_goesOn_107 : decode cX12_goesOn 107 = .ok (.isub, 1) := by decide +kernel
theorem dX12_goesOn_108 : decode cX12_goesOn 108 = .ok (.putfield 294, 3) := by decide +kernel
theorem dX12_goesOn_111 : decode cX12_goesOn 111 = .ok (.aload_n 0, 1) := by decide +kernel
theorem dX12_goesOn_112 : decode cX12_goesOn 112 = .ok (.dup, 1) := by decide +kernel
theorem dX12_goesOn_113 : decode cX12_goesOn 113 = .ok (.getfield 297, 3) := by decide +kernel
theorem dX12_goesOn_116 : decode cX12_goesOn 116 = .ok (.iconst 1, 1) := by decide +kernel
theorem dX12_goesOn_117 : decode cX12_goesOn 117 = .ok (.isub, 1) := by decide +kernel
theorem dX12_goesOn_118 : decode cX12_goesOn 118 = .ok (.putfield 297, 3) := by decide +kernel
theorem dX12_goesOn_121 : decode cX12_goesOn 121 = .ok (.iload_n 1, 1) := by decide +kernel
theorem dX12_goesOn_122 : decode cX12_goesOn 122 = .ok (.bipush 9, 2) := by decide +kernel
theorem dX12_goesOn_124 : decode cX12_goesOn 124 = .ok (.if_icmp .ne 23, 3) := by decide +kernel
theorem dX12_goesOn_127 : decode cX12_goesOn 127 = .ok (.aload_n 0, 1) := by decide +kernel
theorem dX12_goesOn_128 : decode cX12_goesOn 128 = .ok (.iload_n 2, 1) := by decide +kernel
theorem dX12_goesOn_129 : decode cX12_goesOn 129 = .ok (.bipush 7, 2) := by decide +kernel
theorem dX12_goesOn_131 : decode cX12_goesOn 131 = .ok (.if_icmp .ne 9, 3) := by decide +kernel
theorem dX12_goesOn_134 : decode cX12_goesOn 134 = .ok (.sipush 403, 3) := by decide +kernel
theorem dX12_goesOn_137 : decode cX12_goesOn 137 = .ok (.goto 6, 3) := by decide +kernel
theorem dX12_goesOn_140 : decode cX12_goesOn 140 = .ok (.sipush 404, 3) := by decide +kernel
theorem dX12_goesOn_143 : decode cX12_goesOn 143 = .ok (.iconst 0, 1) := by decide +kernel
theorem dX12_goesOn_144 : decode cX12_goesOn 144 = .ok (.invokevirtual 315, 3) := by decide +kernel
theorem dX12_goesOn_147 : decode cX12_goesOn 147 = .ok (.aload_n 0, 1) := by decide +kernel
theorem dX12_goesOn_148 : decode cX12_goesOn 148 = .ok (.invokevirtual 306, 3) := by decide +kernel
theorem dX12_goesOn_151 : decode cX12_goesOn 151 = .ok (.aload_n 0, 1) := by decide +kernel
theorem dX12_goesOn_152 : decode cX12_goesOn 152 = .ok (.invokevirtual 331, 3) := by decide +kernel
theorem dX12_goesOn_155 : decode cX12_goesOn 155 = .ok (.goto 182, 3) := by decide +kernel
theorem dX12_goesOn_158 : decode cX12_goesOn 158 = .ok (.iload_n 1, 1) := by decide +kernel
theorem dX12_goesOn_159 : decode cX12_goesOn 159 = .ok (.bipush 8, 2) := by decide +kernel
theorem dX12_goesOn_161 : decode cX12_goesOn 161 = .ok (.if_icmp .ne 42, 3) := by decide +kernel
theorem dX12_goesOn_164 : decode cX12_goesOn 164 = .ok (.aload_n 0, 1) := by decide +kernel
theorem dX12_goesOn_165 : decode cX12_goesOn 165 = .ok (.bipush 44, 2) := by decide +kernel
theorem dX12_goesOn_167 : decode cX12_goesOn 167 = .ok (.invokevirtual 337, 3) := by decide +kernel
theorem dX12_goesOn_170 : decode cX12_goesOn 170 = .ok (.ifCond .eq 33, 3) := by decide +kernel
theorem dX12_goesOn_173 : decode cX12_goesOn 173 = .ok (.aload_n 0, 1) := by decide +kernel
theorem dX12_goesOn_174 : decode cX12_goesOn 174 = .ok (.iconst 3, 1) := by decide +kernel
theorem dX12_goesOn_175 : decode cX12_goesOn 175 = .ok (.invokevirtual 319, 3) := by decide +kernel
theorem dX12_goesOn_178 : decode cX12_goesOn 178 = .ok (.aload_n 0, 1) := by decide +kernel
theorem dX12_goesOn_179 : decode cX12_goesOn 179 = .ok (.getfield 52, 3) := by decide +kernel
theorem dX12_goesOn_182 : decode cX12_goesOn 182 = .ok (.aload_n 0, 1) := by decide +kernel
theorem dX12_goesOn_183 : decode cX12_goesOn 183 = .ok (.getfield 294, 3) := by decide +kernel
theorem dX12_goesOn_186 : decode cX12_goesOn 186 = .ok (.iconst 1, 1) := by decide +kernel
theorem dX12_goesOn_187 : decode cX12_goesOn 187 = .ok (.isub, 1) := by decide +kernel
theorem dX12_goesOn_188 : decode cX12_goesOn 188 = .ok (.bipush 9, 2) := by decide +kernel
theorem dX12_goesOn_190 : decode cX12_goesOn 190 = .ok (.iastore, 1) := by decide +kernel
theorem dX12_goesOn_191 : decode cX12_goesOn 191 = .ok (.aload_n 0, 1) := by decide +kernel
theorem dX12_goesOn_192 : decode cX12_goesOn 192 = .ok (.invokevirtual 306, 3) := by decide +kernel
theorem dX12_goesOn_195 : decode cX12_goesOn 195 = .ok (.aload_n 0, 1) := by decide +kernel
theorem dX12_goesOn_196 : decode cX12_goesOn 196 = .ok (.iconst 1, 1) := by decide +kernel
theorem dX12_goesOn_197 : decode cX12_goesOn 197 = .ok (.putfield 328, 3) := by decide +kernel
theorem dX12_goesOn_200 : decode cX12_goesOn 200 = .ok (.goto 137, 3) := by decide +kernel
theorem dX12_goesOn_203 : decode cX12_goesOn 203 = .ok (.iload_n 1, 1) := by decide +kernel
theorem dX12_goesOn_204 : decode cX12_goesOn 204 = .ok (.iconst 4, 1) := by decide +kernel
theorem dX12_goesOn_205 : decode cX12_goesOn 205 = .ok (.if_icmp .ne 63, 3) := by decide +kernel
theorem dX12_goesOn_208 : decode cX12_goesOn 208 = .ok (.aload_n 0, 1) := by decide +kernel
theorem dX12_goesOn_209 : decode cX12_goesOn 209 = .ok (.getfield 270, 3) := by decide +kernel
theorem dX12_goesOn_212 : decode cX12_goesOn 212 = .ok (.iconst 3, 1) := by decide +kernel
theorem dX12_goesOn_213 : decode cX12_goesOn 213 = .ok (.if_icmp .ne 55, 3) := by decide +kernel
theorem dX12_goesOn_216 : decode cX12_goesOn 216 = .ok (.aload_n 0, 1) := by decide +kernel
theorem dX12_goesOn_217 : decode cX12_goesOn 217 = .ok (.getfield 281, 3) := by decide +kernel
theorem dX12_goesOn_220 : decode cX12_goesOn 220 = .ok (.invokestatic 347, 3) := by decide +kernel
theorem dX12_goesOn_223 : decode cX12_goesOn 223 = .ok (.ifCond .eq 45, 3) := by decide +kernel
theorem dX12_goesOn_226 : decode cX12_goesOn 226 = .ok (.aload_n 0, 1) := by decide +kernel
theorem dX12_goesOn_227 : decode cX12_goesOn 227 = .ok (.iconst 3, 1) := by decide +kernel
theorem dX12_goesOn_228 : decode cX12_goesOn 228 = .ok (.invokevirtual 319, 3) := by decide +kernel
theorem dX12_goesOn_231 : decode cX12_goesOn 231 = .ok (.aload_n 0, 1) := by decide +kernel
theorem dX12_goesOn_232 : decode cX12_goesOn 232 = .ok (.getfield 58, 3) := by decide +kernel
theorem dX12_goesOn_235 : decode cX12_goesOn 235 = .ok (.aload_n 0, 1) := by decide +kernel
theorem dX12_goesOn_236 : decode cX12_goesOn 236 = .ok (.getfield 294, 3) := by decide +kernel
theorem dX12_goesOn_239 : decode cX12_goesOn 239 = .ok (.aload_n 0, 1) := by decide +kernel
theorem dX12_goesOn_240 : decode cX12_goesOn 240 = .ok (.getfield 281, 3) := by decide +kernel
theorem dX12_goesOn_243 : decode cX12_goesOn 243 = .ok (.iastore, 1) := by decide +kernel
theorem dX12_goesOn_244 : decode cX12_goesOn 244 = .ok (.aload_n 0, 1) := by decide +kernel
theorem dX12_goesOn_245 : decode cX12_goesOn 245 = .ok (.getfield 52, 3) := by decide +kernel
theorem dX12_goesOn_248 : decode cX12_goesOn 248 = .ok (.aload_n 0, 1) := by decide +kernel
theorem dX12_goesOn_249 : decode cX12_goesOn 249 = .ok (.getfield 294, 3) := by decide +kernel
theorem dX12_goesOn_252 : decode cX12_goesOn 252 = .ok (.iconst 1, 1) := by decide +kernel
theorem dX12_goesOn_253 : decode cX12_goesOn 253 = .ok (.isub, 1) := by decide +kernel
theorem dX12_goesOn_254 : decode cX12_goesOn 254 = .ok (.iconst 5, 1) := by decide +kernel
theorem dX12_goesOn_255 : decode cX12_goesOn 255 = .ok (.iastore, 1) := by decide +kernel
theorem dX12_goesOn_256 : decode cX12_goesOn 256 = .ok (.aload_n 0, 1) := by decide +kernel
theorem dX12_goesOn_257 : decode cX12_goesOn 257 = .ok (.invokevirtual 306, 3) := by decide +kernel
theorem dX12_goesOn_260 : decode cX12_goesOn 260 = .ok (.aload_n 0, 1) := by decide +kernel
theorem dX12_goesOn_261 : decode cX12_goesOn 261 = .ok (.iconst 1, 1) := by decide +kernel
theorem dX12_goesOn_262 : decode cX12_goesOn 262 = .ok (.putfield 328, 3) := by decide +kernel
theorem dX12_goesOn_265 : decode cX12_goesOn 265 = .ok (.goto 72, 3) := by decide +kernel
theorem dX12_goesOn_268 : decode cX12_goesOn 268 = .ok (.iload_n 1, 1) := by decide +kernel
theorem dX12_goesOn_269 : decode cX12_goesOn 269 = .ok (.iconst 5, 1) := by decide +kernel
theorem dX12_goesOn_270 : decode cX12_goesOn 270 = .ok (.if_icmp .ne 41, 3) := by decide +kernel
theorem dX12_goesOn_273 : decode cX12_goesOn 273 = .ok (.aload_n 0, 1) := by decide +kernel
theorem dX12_goesOn_274 : decode cX12_goesOn 274 = .ok (.iconst 3, 1) := by decide +kernel
theorem dX12_goesOn_275 : decode cX12_goesOn 275 = .ok (.invokevirtual 319, 3) := by decide +kernel
theorem dX12_goesOn_278 : decode cX12_goesOn 278 = .ok (.aload_n 0, 1) := by decide +kernel
theorem dX12_goesOn_279 : decode cX12_goesOn 279 = .ok (.getfield 58, 3) := by decide +kernel
theorem dX12_goesOn_282 : decode cX12_goesOn 282 = .ok (.aload_n 0, 1) := by decide +kernel
theorem dX12_goesOn_283 : decode cX12_goesOn 283 = .ok (.getfield 294, 3) := by decide +kernel
theorem dX12_goesOn_286 : decode cX12_goesOn 286 = .ok (.iaload, 1) := by decide +kernel
theorem dX12_goesOn_287 : decode cX12_goesOn 287 = .ok (.istore_n 2, 1) := by decide +kernel
theorem dX12_goesOn_288 : decode cX12_goesOn 288 = .ok (.aload_n 0, 1) := by decide +kernel
theorem dX12_goesOn_289 : decode cX12_goesOn 289 = .ok (.dup, 1) := by decide +kernel
theorem dX12_goesOn_290 : decode cX12_goesOn 290 = .ok (.getfield 294, 3) := by decide +kernel
theorem dX12_goesOn_293 : decode cX12_goesOn 293 = .ok (.iconst 1, 1) := by decide +kernel
theorem dX12_goesOn_294 : decode cX12_goesOn 294 = .ok (.isub, 1) := by decide +kernel
theorem dX12_goesOn_295 : decode cX12_goesOn 295 = .ok (.putfield 294, 3) := by decide +kernel
theorem dX12_goesOn_298 : decode cX12_goesOn 298 = .ok (.aload_n 0, 1) := by decide +kernel
theorem dX12_goesOn_299 : decode cX12_goesOn 299 = .ok (.iload_n 2, 1) := by decide +kernel
theorem dX12_goesOn_300 : decode cX12_goesOn 300 = .ok (.iconst 0, 1) := by decide +kernel
theorem dX12_goesOn_301 : decode cX12_goesOn 301 = .ok (.invokevirtual 315, 3) := by decide +kernel
theorem dX12_goesOn_304 : decode cX12_goesOn 304 = .ok (.aload_n 0, 1) := by decide +kernel
theorem dX12_goesOn_305 : decode cX12_goesOn 305 = .ok (.invokevirtual 350, 3) := by decide +kernel
theorem dX12_goesOn_308 : decode cX12_goesOn 308 = .ok (.goto 29, 3) := by decide +kernel
theorem dX12_goesOn_311 : decode cX12_goesOn 311 = .ok (.iload_n 1, 1) := by decide +kernel
theorem dX12_goesOn_312 : decode cX12_goesOn 312 = .ok (.iconst 1, 1) := by decide +kernel
theorem dX12_goesOn_313 : decode cX12_goesOn 313 = .ok (.if_icmp .ne 19, 3) := by decide +kernel
theorem dX12_goesOn_316 : decode cX12_goesOn 316 = .ok (.aload_n 0, 1) := by decide +kernel
theorem dX12_goesOn_317 : decode cX12_goesOn 317 = .ok (.bipush 59, 2) := by decide +kernel
theorem dX12_goesOn_319 : decode cX12_goesOn 319 = .ok (.invokevirtual 337, 3) := by decide +kernel
theorem dX12_goesOn_322 : decode cX12_goesOn 322 = .ok (.ifCond .eq 10, 3) := by decide +kernel
theorem dX12_goesOn_325 : decode cX12_goesOn 325 = .ok (.aload_n 0, 1) := by decide +kernel
theorem dX12_goesOn_326 : decode cX12_goesOn 326 = .ok (.invokevirtual 353, 3) := by decide +kernel
theorem dX12_goesOn_329 : decode cX12_goesOn 329 = .ok (.goto 8, 3) := by decide +kernel
theorem dX12_goesOn_332 : decode cX12_goesOn 332 = .ok (.aload_n 0, 1) := by decide +kernel
theorem dX12_goesOn_333 : decode cX12_goesOn 333 = .ok (.iconst 1, 1) := by decide +kernel
theorem dX12_goesOn_334 : decode cX12_goesOn 334 = .ok (.invokevirtual 300, 3) := by decide +kernel
theorem dX12_goesOn_337 : decode cX12_goesOn 337 = .ok (.return_, 1) := by decide +kernel
theorem dX12_asksOn_0 : decode cX12_asksOn 0 = .ok (.aload_n 0, 1) := by decide +kernel
theorem dX12_asksOn_1 : decode cX12_asksOn 1 = .ok (.iconst 4, 1) := by decide +kernel
theorem dX12_asksOn_2 : decode cX12_asksOn 2 = .ok (.invokevirtual 322, 3) := by decide +kernel
theorem dX12_asksOn_5 : decode cX12_asksOn 5 = .ok (.ifCond .ne 11, 3) := by decide +kernel
theorem dX12_asksOn_8 : decode cX12_asksOn 8 = .ok (.aload_n 0, 1) := by decide +kernel
theorem dX12_asksOn_9 : decode cX12_asksOn 9 = .ok (.iconst 5, 1) := by decide +kernel
theorem dX12_asksOn_10 : decode cX12_asksOn 10 = .ok (.invokevirtual 322, 3) := by decide +kernel
theorem dX12_asksOn_13 : decode cX12_asksOn 13 = .ok (.ifCond .eq 32, 3) := by decide +kernel
theorem dX12_asksOn_16 : decode cX12_asksOn 16 = .ok (.aload_n 0, 1) := by decide +kernel
theorem dX12_asksOn_17 : decode cX12_asksOn 17 = .ok (.aload_n 0, 1) := by decide +kernel
theorem dX12_asksOn_18 : decode cX12_asksOn 18 = .ok (.iconst 4, 1) := by decide +kernel
theorem dX12_asksOn_19 : decode cX12_asksOn 19 = .ok (.invokevirtual 322, 3) := by decide +kernel
theorem dX12_asksOn_22 : decode cX12_asksOn 22 = .ok (.ifCond .eq 9, 3) := by decide +kernel
theorem dX12_asksOn_25 : decode cX12_asksOn 25 = .ok (.sipush 407, 3) := by decide +kernel
theorem dX12_asksOn_28 : decode cX12_asksOn 28 = .ok (.goto 6, 3) := by decide +kernel
theorem dX12_asksOn_31 : decode cX12_asksOn 31 = .ok (.sipush 406, 3) := by decide +kernel
theorem dX12_asksOn_34 : decode cX12_asksOn 34 = .ok (.invokevirtual 344, 3) := by decide +kernel
theorem dX12_asksOn_37 : decode cX12_asksOn 37 = .ok (.aload_n 0, 1) := by decide +kernel
theorem dX12_asksOn_38 : decode cX12_asksOn 38 = .ok (.iconst 0, 1) := by decide +kernel
theorem dX12_asksOn_39 : decode cX12_asksOn 39 = .ok (.putfield 328, 3) := by decide +kernel
theorem dX12_asksOn_42 : decode cX12_asksOn 42 = .ok (.goto 32, 3) := by decide +kernel
theorem dX12_asksOn_45 : decode cX12_asksOn 45 = .ok (.aload_n 0, 1) := by decide +kernel
theorem dX12_asksOn_46 : decode cX12_asksOn 46 = .ok (.invokevirtual 340, 3) := by decide +kernel
theorem dX12_asksOn_49 : decode cX12_asksOn 49 = .ok (.iconst 2, 1) := by decide +kernel
theorem dX12_asksOn_50 : decode cX12_asksOn 50 = .ok (.if_icmp .ne 19, 3) := by decide +kernel
theorem dX12_asksOn_53 : decode cX12_asksOn 53 = .ok (.aload_n 0, 1) := by decide +kernel
theorem dX12_asksOn_54 : decode cX12_asksOn 54 = .ok (.bipush 59, 2) := by decide +kernel
theorem dX12_asksOn_56 : decode cX12_asksOn 56 = .ok (.invokevirtual 337, 3) := by decide +kernel
theorem dX12_asksOn_59 : decode cX12_asksOn 59 = .ok (.ifCond .eq 10, 3) := by decide +kernel
theorem dX12_asksOn_62 : decode cX12_asksOn 62 = .ok (.aload_n 0, 1) := by decide +kernel
theorem dX12_asksOn_63 : decode cX12_asksOn 63 = .ok (.invokevirtual 353, 3) := by decide +kernel
theorem dX12_asksOn_66 : decode cX12_asksOn 66 = .ok (.goto 8, 3) := by decide +kernel
theorem dX12_asksOn_69 : decode cX12_asksOn 69 = .ok (.aload_n 0, 1) := by decide +kernel
theorem dX12_asksOn_70 : decode cX12_asksOn 70 = .ok (.iconst 1, 1) := by decide +kernel
theorem dX12_asksOn_71 : decode cX12_asksOn 71 = .ok (.invokevirtual 300, 3) := by decide +kernel
theorem dX12_asksOn_74 : decode cX12_asksOn 74 = .ok (.return_, 1) := by decide +kernel
theorem dX12_clauseIsOver_0 : decode cX12_clauseIsOver 0 = .ok (.aload_n 0, 1) := by decide +kernel
theorem dX12_clauseIsOver_1 : decode cX12_clauseIsOver 1 = .ok (.iconst 1, 1) := by decide +kernel
theorem dX12_clauseIsOver_2 : decode cX12_clauseIsOver 2 = .ok (.invokevirtual 319, 3) := by decide +kernel
theorem dX12_clauseIsOver_5 : decode cX12_clauseIsOver 5 = .ok (.aload_n 0, 1) := by decide +kernel
theorem dX12_clauseIsOver_6 : decode cX12_clauseIsOver 6 = .ok (.iconst 0, 1) := by decide +kernel
theorem dX12_clauseIsOver_7 : decode cX12_clauseIsOver 7 = .ok (.putfield 294, 3) := by decide +kernel
theorem dX12_clauseIsOver_10 : decode cX12_clauseIsOver 10 = .ok (.aload_n 0, 1) := by decide +kernel
theorem dX12_clauseIsOver_11 : decode cX12_clauseIsOver 11 = .ok (.sipush 408, 3) := by decide +kernel
theorem dX12_clauseIsOver_14 : decode cX12_clauseIsOver 14 = .ok (.iconst 0, 1) := by decide +kernel
theorem dX12_clauseIsOver_15 : decode cX12_clauseIsOver 15 = .ok (.invokevirtual 315, 3) := by decide +kernel
theorem dX12_clauseIsOver_18 : decode cX12_clauseIsOver 18 = .ok (.aload_n 0, 1) := by decide +kernel
theorem dX12_clauseIsOver_19 : decode cX12_clauseIsOver 19 = .ok (.dup, 1) := by decide +kernel
theorem dX12_clauseIsOver_20 : decode cX12_clauseIsOver 20 = .ok (.getfield 356, 3) := by decide +kernel
theorem dX12_clauseIsOver_23 : decode cX12_clauseIsOver 23 = .ok (.iconst 1, 1) := by decide +kernel
theorem dX12_clauseIsOver_24 : decode cX12_clauseIsOver 24 = .ok (.iadd, 1) := by decide +kernel
theorem dX12_clauseIsOver_25 : decode cX12_clauseIsOver 25 = .ok (.putfield 356, 3) := by decide +kernel
theorem dX12_clauseIsOver_28 : decode cX12_clauseIsOver 28 = .ok (.aload_n 0, 1) := by decide +kernel
theorem dX12_clauseIsOver_29 : decode cX12_clauseIsOver 29 = .ok (.invokevirtual 306, 3) := by decide +kernel
theorem dX12_clauseIsOver_32 : decode cX12_clauseIsOver 32 = .ok (.aload_n 0, 1) := by decide +kernel
theorem dX12_clauseIsOver_33 : decode cX12_clauseIsOver 33 = .ok (.iconst 4, 1) := by decide +kernel
theorem dX12_clauseIsOver_34 : decode cX12_clauseIsOver 34 = .ok (.putfield 328, 3) := by decide +kernel
theorem dX12_clauseIsOver_37 : decode cX12_clauseIsOver 37 = .ok (.return_, 1) := by decide +kernel
theorem dX12_number_0 : decode cX12_number 0 = .ok (.aload_n 0, 1) := by decide +kernel
theorem dX12_number_1 : decode cX12_number 1 = .ok (.getfield 285, 3) := by decide +kernel
theorem dX12_number_4 : decode cX12_number 4 = .ok (.ifCond .gt 11, 3) := by decide +kernel
theorem dX12_number_7 : decode cX12_number 7 = .ok (.aload_n 0, 1) := by decide +kernel
theorem dX12_number_8 : decode cX12_number 8 = .ok (.getfield 270, 3) := by decide +kernel
theorem dX12_number_11 : decode cX12_number 11 = .ok (.iconst 2, 1) := by decide +kernel
theorem dX12_number_12 : decode cX12_number 12 = .ok (.if_icmp .eq 10, 3) := by decide +kernel
theorem dX12_number_15 : decode cX12_number 15 = .ok (.aload_n 0, 1) := by decide +kernel
theorem dX12_number_16 : decode cX12_number 16 = .ok (.iconst 1, 1) := by decide +kernel
theorem dX12_number_17 : decode cX12_number 17 = .ok (.invokevirtual 300, 3) := by decide +kernel
theorem dX12_number_20 : decode cX12_number 20 = .ok (.iload_n 1, 1) := by decide +kernel
theorem dX12_number_21 : decode cX12_number 21 = .ok (.ireturn, 1) := by decide +kernel
theorem dX12_number_22 : decode cX12_number 22 = .ok (.aload_n 0, 1) := by decide +kernel
theorem dX12_number_23 : decode cX12_number 23 = .ok (.getfield 281, 3) := by decide +kernel
theorem dX12_number_26 : decode cX12_number 26 = .ok (.iload_n 1, 1) := by decide +kernel
theorem dX12_number_27 : decode cX12_number 27 = .ok (.iload_n 2, 1) := by decide +kernel
theorem dX12_number_28 : decode cX12_number 28 = .ok (.invokestatic 152, 3) := by decide +kernel
theorem dX12_number_31 : decode cX12_number 31 = .ok (.ifCond .ne 10, 3) := by decide +kernel
theorem dX12_number_34 : decode cX12_number 34 = .ok (.aload_n 0, 1) := by decide +kernel
theorem dX12_number_35 : decode cX12_number 35 = .ok (.iconst 2, 1) := by decide +kernel
theorem dX12_number_36 : decode cX12_number 36 = .ok (.invokevirtual 300, 3) := by decide +kernel
theorem dX12_number_39 : decode cX12_number 39 = .ok (.iload_n 1, 1) := by decide +kernel
theorem dX12_number_40 : decode cX12_number 40 = .ok (.ireturn, 1) := by decide +kernel
theorem dX12_number_41 : decode cX12_number 41 = .ok (.aload_n 0, 1) := by decide +kernel
theorem dX12_number_42 : decode cX12_number 42 = .ok (.getfield 281, 3) := by decide +kernel
theorem dX12_number_45 : decode cX12_number 45 = .ok (.istore_n 3, 1) := by decide +kernel
theorem dX12_number_46 : decode cX12_number 46 = .ok (.aload_n 0, 1) := by decide +kernel
theorem dX12_number_47 : decode cX12_number 47 = .ok (.invokevirtual 306, 3) := by decide +kernel
theorem dX12_number_50 : decode cX12_number 50 = .ok (.iload_n 3, 1) := by decide +kernel
theorem dX12_number_51 : decode cX12_number 51 = .ok (.ireturn, 1) := by decide +kernel
theorem dX12_wasTold_0 : decode cX12_wasTold 0 = .ok (.iconst 0, 1) := by decide +kernel
theorem dX12_wasTold_1 : decode cX12_wasTold 1 = .ok (.istore_n 2, 1) := by decide +kernel
theorem dX12_wasTold_2 : decode cX12_wasTold 2 = .ok (.iconst 0, 1) := by decide +kernel
theorem dX12_wasTold_3 : decode cX12_wasTold 3 = .ok (.istore_n 3, 1) := by decide +kernel
theorem dX12_wasTold_4 : decode cX12_wasTold 4 = .ok (.iload_n 3, 1) := by decide +kernel
theorem dX12_wasTold_5 : decode cX12_wasTold 5 = .ok (.aload_n 0, 1) := by decide +kernel
theorem dX12_wasTold_6 : decode cX12_wasTold 6 = .ok (.getfield 356, 3) := by decide +kernel
theorem dX12_wasTold_9 : decode cX12_wasTold 9 = .ok (.if_icmp .ge 29, 3) := by decide +kernel
theorem dX12_wasTold_12 : decode cX12_wasTold 12 = .ok (.iload_n 2, 1) := by decide +kernel
theorem dX12_wasTold_13 : decode cX12_wasTold 13 = .ok (.ifCond .ne 13, 3) := by decide +kernel
theorem dX12_wasTold_16 : decode cX12_wasTold 16 = .ok (.aload_n 0, 1) := by decide +kernel
theorem dX12_wasTold_17 : decode cX12_wasTold 17 = .ok (.getfield 67, 3) := by decide +kernel
theorem dX12_wasTold_20 : decode cX12_wasTold 20 = .ok (.iload_n 3, 1) := by decide +kernel
theorem dX12_wasTold_21 : decode cX12_wasTold 21 = .ok (.iaload, 1) := by decide +kernel
theorem dX12_wasTold_22 : decode cX12_wasTold 22 = .ok (.iload_n 1, 1) := by decide +kernel
theorem dX12_wasTold_23 : decode cX12_wasTold 23 = .ok (.if_icmp .ne 7, 3) := by decide +kernel
theorem dX12_wasTold_26 : decode cX12_wasTold 26 = .ok (.iconst 1, 1) := by decide +kernel
theorem dX12_wasTold_27 : decode cX12_wasTold 27 = .ok (.goto 4, 3) := by decide +kernel
theorem dX12_wasTold_30 : decode cX12_wasTold 30 = .ok (.iconst 0, 1) := by decide +kernel
theorem dX12_wasTold_31 : decode cX12_wasTold 31 = .ok (.istore_n 2, 1) := by decide +kernel
theorem dX12_wasTold_32 : decode cX12_wasTold 32 = .ok (.iinc 3 1, 3) := by decide +kernel
theorem dX12_wasTold_35 : decode cX12_wasTold 35 = .ok (.goto (-31), 3) := by decide +kernel
theorem dX12_wasTold_38 : decode cX12_wasTold 38 = .ok (.iload_n 2, 1) := by decide +kernel
theorem dX12_wasTold_39 : decode cX12_wasTold 39 = .ok (.ireturn, 1) := by decide +kernel
theorem dX12_clause_0 : decode cX12_clause 0 = .ok (.aload_n 0, 1) := by decide +kernel
theorem dX12_clause_1 : decode cX12_clause 1 = .ok (.getfield 270, 3) := by decide +kernel
theorem dX12_clause_4 : decode cX12_clause 4 = .ok (.iconst 1, 1) := by decide +kernel
theorem dX12_clause_5 : decode cX12_clause 5 = .ok (.if_icmp .ne 11, 3) := by decide +kernel
theorem dX12_clause_8 : decode cX12_clause 8 = .ok (.aload_n 0, 1) := by decide +kernel
theorem dX12_clause_9 : decode cX12_clause 9 = .ok (.getfield 281, 3) := by decide +kernel
theorem dX12_clause_12 : decode cX12_clause 12 = .ok (.iconst 3, 1) := by decide +kernel
theorem dX12_clause_13 : decode cX12_clause 13 = .ok (.if_icmp .le 9, 3) := by decide +kernel
theorem dX12_clause_16 : decode cX12_clause 16 = .ok (.aload_n 0, 1) := by decide +kernel
theorem dX12_clause_17 : decode cX12_clause 17 = .ok (.iconst 1, 1) := by decide +kernel
theorem dX12_clause_18 : decode cX12_clause 18 = .ok (.invokevirtual 300, 3) := by decide +kernel
theorem dX12_clause_21 : decode cX12_clause 21 = .ok (.return_, 1) := by decide +kernel
theorem dX12_clause_22 : decode cX12_clause 22 = .ok (.aload_n 0, 1) := by decide +kernel
theorem dX12_clause_23 : decode cX12_clause 23 = .ok (.getfield 281, 3) := by decide +kernel
theorem dX12_clause_26 : decode cX12_clause 26 = .ok (.istore_n 1, 1) := by decide +kernel
theorem dX12_clause_27 : decode cX12_clause 27 = .ok (.iload_n 1, 1) := by decide +kernel
theorem dX12_clause_28 : decode cX12_clause 28 = .ok (.iconst 1, 1) := by decide +kernel
theorem dX12_clause_29 : decode cX12_clause 29 = .ok (.if_icmp .eq 19, 3) := by decide +kernel
theorem dX12_clause_32 : decode cX12_clause 32 = .ok (.aload_n 0, 1) := by decide +kernel
theorem dX12_clause_33 : decode cX12_clause 33 = .ok (.iload_n 1, 1) := by decide +kernel
theorem dX12_clause_34 : decode cX12_clause 34 = .ok (.invokevirtual 359, 3) := by decide +kernel
theorem dX12_clause_37 : decode cX12_clause 37 = .ok (.ifCond .eq 11, 3) := by decide +kernel
theorem dX12_clause_40 : decode cX12_clause 40 = .ok (.aload_n 0, 1) := by decide +kernel
theorem dX12_clause_41 : decode cX12_clause 41 = .ok (.iconst 4, 1) := by decide +kernel
theorem dX12_clause_42 : decode cX12_clause 42 = .ok (.invokevirtual 300, 3) := by decide +kernel
theorem dX12_clause_45 : decode cX12_clause 45 = .ok (.goto 17, 3) := by decide +kernel
theorem dX12_clause_48 : decode cX12_clause 48 = .ok (.aload_n 0, 1) := by decide +kernel
theorem dX12_clause_49 : decode cX12_clause 49 = .ok (.getfield 356, 3) := by decide +kernel
theorem dX12_clause_52 : decode cX12_clause 52 = .ok (.bipush 12, 2) := by decide +kernel
theorem dX12_clause_54 : decode cX12_clause 54 = .ok (.if_icmp .ne 8, 3) := by decide +kernel
theorem dX12_clause_57 : decode cX12_clause 57 = .ok (.aload_n 0, 1) := by decide +kernel
theorem dX12_clause_58 : decode cX12_clause 58 = .ok (.iconst 5, 1) := by decide +kernel
theorem dX12_clause_59 : decode cX12_clause 59 = .ok (.invokevirtual 300, 3) := by decide +kernel
theorem dX12_clause_62 : decode cX12_clause 62 = .ok (.aload_n 0, 1) := by decide +kernel
theorem dX12_clause_63 : decode cX12_clause 63 = .ok (.getfield 285, 3) := by decide +kernel
theorem dX12_clause_66 : decode cX12_clause 66 = .ok (.ifCond .le 4, 3) := by decide +kernel
theorem dX12_clause_69 : decode cX12_clause 69 = .ok (.return_, 1) := by decide +kernel
theorem dX12_clause_70 : decode cX12_clause 70 = .ok (.aload_n 0, 1) := by decide +kernel
theorem dX12_clause_71 : decode cX12_clause 71 = .ok (.getfield 67, 3) := by decide +kernel
theorem dX12_clause_74 : decode cX12_clause 74 = .ok (.aload_n 0, 1) := by decide +kernel
theorem dX12_clause_75 : decode cX12_clause 75 = .ok (.getfield 356, 3) := by decide +kernel
theorem dX12_clause_78 : decode cX12_clause 78 = .ok (.iload_n 1, 1) := by decide +kernel
theorem dX12_clause_79 : decode cX12_clause 79 = .ok (.iastore, 1) := by decide +kernel
theorem dX12_clause_80 : decode cX12_clause 80 = .ok (.aload_n 0, 1) := by decide +kernel
theorem dX12_clause_81 : decode cX12_clause 81 = .ok (.getfield 70, 3) := by decide +kernel
theorem dX12_clause_84 : decode cX12_clause 84 = .ok (.aload_n 0, 1) := by decide +kernel
theorem dX12_clause_85 : decode cX12_clause 85 = .ok (.getfield 356, 3) := by decide +kernel
theorem dX12_clause_88 : decode cX12_clause 88 = .ok (.aload_n 0, 1) := by decide +kernel
theorem dX12_clause_89 : decode cX12_clause 89 = .ok (.getfield 291, 3) := by decide +kernel
theorem dX12_clause_92 : decode cX12_clause 92 = .ok (.iastore, 1) := by decide +kernel
theorem dX12_clause_93 : decode cX12_clause 93 = .ok (.aload_n 0, 1) := by decide +kernel
theorem dX12_clause_94 : decode cX12_clause 94 = .ok (.invokevirtual 306, 3) := by decide +kernel
theorem dX12_clause_97 : decode cX12_clause 97 = .ok (.iload_n 1, 1) := by decide +kernel
theorem dX12_clause_98 : decode cX12_clause 98 = .ok (.iconst 2, 1) := by decide +kernel
theorem dX12_clause_99 : decode cX12_clause 99 = .ok (.if_icmp .eq 8, 3) := by decide +kernel
theorem dX12_clause_102 : decode cX12_clause 102 = .ok (.iload_n 1, 1) := by decide +kernel
theorem dX12_clause_103 : decode cX12_clause 103 = .ok (.iconst 3, 1) := by decide +kernel
theorem dX12_clause_104 : decode cX12_clause 104 = .ok (.if_icmp .ne 84, 3) := by decide +kernel
theorem dX12_clause_107 : decode cX12_clause 107 = .ok (.aload_n 0, 1) := by decide +kernel
theorem dX12_clause_108 : decode cX12_clause 108 = .ok (.iconst 1, 1) := by decide +kernel
theorem dX12_clause_109 : decode cX12_clause 109 = .ok (.iload_n 1, 1) := by decide +kernel
theorem dX12_clause_110 : decode cX12_clause 110 = .ok (.iconst 2, 1) := by decide +kernel
theorem dX12_clause_111 : decode cX12_clause 111 = .ok (.if_icmp .ne 8, 3) := by decide +kernel
theorem dX12_clause_114 : decode cX12_clause 114 = .ok (.bipush 20, 2) := by decide +kernel
theorem dX12_clause_116 : decode cX12_clause 116 = .ok (.goto 5, 3) := by decide +kernel
theorem dX12_clause_119 : decode cX12_clause 119 = .ok (.bipush 60, 2) := by decide +kernel
theorem dX12_clause_121 : decode cX12_clause 121 = .ok (.invokevirtual 362, 3) := by decide +kernel
theorem dX12_clause_124 : decode cX12_clause 124 = .ok (.istore_n 2, 1) := by decide +kernel
theorem dX12_clause_125 : decode cX12_clause 125 = .ok (.aload_n 0, 1) := by decide +kernel
theorem dX12_clause_126 : decode cX12_clause 126 = .ok (.getfield 285, 3) := by decide +kernel
theorem dX12_clause_129 : decode cX12_clause 129 = .ok (.ifCond .ne 53, 3) := by decide +kernel
theorem dX12_clause_132 : decode cX12_clause 132 = .ok (.aload_n 0, 1) := by decide +kernel
theorem dX12_clause_133 : decode cX12_clause 133 = .ok (.bipush 59, 2) := by decide +kernel
theorem dX12_clause_135 : decode cX12_clause 135 = .ok (.invokevirtual 337, 3) := by decide +kernel
theorem dX12_clause_138 : decode cX12_clause 138 = .ok (.ifCond .eq 44, 3) := by decide +kernel
theorem dX12_clause_141 : decode cX12_clause 141 = .ok (.aload_n 0, 1) := by decide +kernel
theorem dX12_clause_142 : decode cX12_clause 142 = .ok (.iload_n 1, 1) := by decide +kernel
theorem dX12_clause_143 : decode cX12_clause 143 = .ok (.iconst 2, 1) := by decide +kernel
theorem dX12_clause_144 : decode cX12_clause 144 = .ok (.if_icmp .ne 7, 3) := by decide +kernel
theorem dX12_clause_147 : decode cX12_clause 147 = .ok (.iload_n 2, 1) := by decide +kernel
theorem dX12_clause_148 : decode cX12_clause 148 = .ok (.goto 7, 3) := by decide +kernel
theorem dX12_clause_151 : decode cX12_clause 151 = .ok (.aload_n 0, 1) := by decide +kernel
theorem dX12_clause_152 : decode cX12_clause 152 = .ok (.getfield 365, 3) := by decide +kernel
theorem dX12_clause_155 : decode cX12_clause 155 = .ok (.putfield 365, 3) := by decide +kernel
theorem dX12_clause_158 : decode cX12_clause 158 = .ok (.aload_n 0, 1) := by decide +kernel
theorem dX12_clause_159 : decode cX12_clause 159 = .ok (.iload_n 1, 1) := by decide +kernel
theorem dX12_clause_160 : decode cX12_clause 160 = .ok (.iconst 3, 1) := by decide +kernel
theorem dX12_clause_161 : decode cX12_clause 161 = .ok (.if_icmp .ne 7, 3) := by decide +kernel
theorem dX12_clause_164 : decode cX12_clause 164 = .ok (.iload_n 2, 1) := by decide +kernel
theorem dX12_clause_165 : decode cX12_clause 165 = .ok (.goto 7, 3) := by decide +kernel
theorem dX12_clause_168 : decode cX12_clause 168 = .ok (.aload_n 0, 1) := by decide +kernel
theorem dX12_clause_169 : decode cX12_clause 169 = .ok (.getfield 368, 3) := by decide +kernel
theorem dX12_clause_172 : decode cX12_clause 172 = .ok (.putfield 368, 3) := by decide +kernel
theorem dX12_clause_175 : decode cX12_clause 175 = .ok (.aload_n 0, 1) := by decide +kernel
theorem dX12_clause_176 : decode cX12_clause 176 = .ok (.invokevirtual 353, 3) := by decide +kernel
theorem dX12_clause_179 : decode cX12_clause 179 = .ok (.goto 8, 3) := by decide +kernel
theorem dX12_clause_182 : decode cX12_clause 182 = .ok (.aload_n 0, 1) := by decide +kernel
theorem dX12_clause_183 : decode cX12_clause 183 = .ok (.iconst 1, 1) := by decide +kernel
theorem dX12_clause_184 : decode cX12_clause 184 = .ok (.invokevirtual 300, 3) := by decide +kernel
theorem dX12_clause_187 : decode cX12_clause 187 = .ok (.return_, 1) := by decide +kernel
theorem dX12_clause_188 : decode cX12_clause 188 = .ok (.aload_n 0, 1) := by decide +kernel
theorem dX12_clause_189 : decode cX12_clause 189 = .ok (.iload_n 1, 1) := by decide +kernel
theorem dX12_clause_190 : decode cX12_clause 190 = .ok (.ifCond .ne 7, 3) := by decide +kernel
theorem dX12_clause_193 : decode cX12_clause 193 = .ok (.iconst 1, 1) := by decide +kernel
theorem dX12_clause_194 : decode cX12_clause 194 = .ok (.goto 4, 3) := by decide +kernel
theorem dX12_clause_197 : decode cX12_clause 197 = .ok (.iconst 2, 1) := by decide +kernel
theorem dX12_clause_198 : decode cX12_clause 198 = .ok (.invokevirtual 303, 3) := by decide +kernel
theorem dX12_clause_201 : decode cX12_clause 201 = .ok (.aload_n 0, 1) := by decide +kernel
theorem dX12_clause_202 : decode cX12_clause 202 = .ok (.iload_n 1, 1) := by decide +kernel
theorem dX12_clause_203 : decode cX12_clause 203 = .ok (.ifCond .ne 7, 3) := by decide +kernel
theorem dX12_clause_206 : decode cX12_clause 206 = .ok (.iconst 1, 1) := by decide +kernel
theorem dX12_clause_207 : decode cX12_clause 207 = .ok (.goto 4, 3) := by decide +kernel
theorem dX12_clause_210 : decode cX12_clause 210 = .ok (.iconst 0, 1) := by decide +kernel
theorem dX12_clause_211 : decode cX12_clause 211 = .ok (.putfield 328, 3) := by decide +kernel
theorem dX12_clause_214 : decode cX12_clause 214 = .ok (.return_, 1) := by decide +kernel
theorem dX12_taste_0 : decode cX12_taste 0 = .ok (.aload_n 0, 1) := by decide +kernel
theorem dX12_taste_1 : decode cX12_taste 1 = .ok (.getfield 7, 3) := by decide +kernel
theorem dX12_taste_4 : decode cX12_taste 4 = .ok (.iconst 4, 1) := by decide +kernel
theorem dX12_taste_5 : decode cX12_taste 5 = .ok (.iaload, 1) := by decide +kernel
theorem dX12_taste_6 : decode cX12_taste 6 = .ok (.bipush 6, 2) := by decide +kernel
theorem dX12_taste_8 : decode cX12_taste 8 = .ok (.if_icmp .ne 5, 3) := by decide +kernel
theorem dX12_taste_11 : decode cX12_taste 11 = .ok (.iconst (-1), 1) := by decide +kernel
theorem dX12_taste_12 : decode cX12_taste 12 = .ok (.ireturn, 1) := by decide +kernel
theorem dX12_taste_13 : decode cX12_taste 13 = .ok (.aload_n 0, 1) := by decide +kernel
theorem dX12_taste_14 : decode cX12_taste 14 = .ok (.aload_n 0, 1) := by decide +kernel
theorem dX12_taste_15 : decode cX12_taste 15 = .ok (.getfield 210, 3) := by decide +kernel
theorem dX12_taste_18 : decode cX12_taste 18 = .ok (.putfield 264, 3) := by decide +kernel
theorem dX12_taste_21 : decode cX12_taste 21 = .ok (.aload_n 0, 1) := by decide +kernel
theorem dX12_taste_22 : decode cX12_taste 22 = .ok (.iconst 0, 1) := by decide +kernel
theorem dX12_taste_23 : decode cX12_taste 23 = .ok (.putfield 210, 3) := by decide +kernel
theorem dX12_taste_26 : decode cX12_taste 26 = .ok (.aload_n 0, 1) := by decide +kernel
theorem dX12_taste_27 : decode cX12_taste 27 = .ok (.iconst 0, 1) := by decide +kernel
theorem dX12_taste_28 : decode cX12_taste 28 = .ok (.putfield 261, 3) := by decide +kernel
theorem dX12_taste_31 : decode cX12_taste 31 = .ok (.aload_n 0, 1) := by decide +kernel
theorem dX12_taste_32 : decode cX12_taste 32 = .ok (.iconst 0, 1) := by decide +kernel
theorem dX12_taste_33 : decode cX12_taste 33 = .ok (.putfield 285, 3) := by decide +kernel
theorem dX12_taste_36 : decode cX12_taste 36 = .ok (.aload_n 0, 1) := by decide +kernel
theorem dX12_taste_37 : decode cX12_taste 37 = .ok (.iconst (-1), 1) := by decide +kernel
theorem dX12_taste_38 : decode cX12_taste 38 = .ok (.putfield 288, 3) := by decide +kernel
theorem dX12_taste_41 : decode cX12_taste 41 = .ok (.aload_n 0, 1) := by decide +kernel
theorem dX12_taste_42 : decode cX12_taste 42 = .ok (.iconst 0, 1) := by decide +kernel
theorem dX12_taste_43 : decode cX12_taste 43 = .ok (.putfield 297, 3) := by decide +kernel
theorem dX12_taste_46 : decode cX12_taste 46 = .ok (.aload_n 0, 1) := by decide +kernel
theorem dX12_taste_47 : decode cX12_taste 47 = .ok (.iconst 0, 1) := by decide +kernel
theorem dX12_taste_48 : decode cX12_taste 48 = .ok (.putfield 294, 3) := by decide +kernel
theorem dX12_taste_51 : decode cX12_taste 51 = .ok (.aload_n 0, 1) := by decide +kernel
theorem dX12_taste_52 : decode cX12_taste 52 = .ok (.iconst 0, 1) := by decide +kernel
theorem dX12_taste_53 : decode cX12_taste 53 = .ok (.putfield 309, 3) := by decide +kernel
theorem dX12_taste_56 : decode cX12_taste 56 = .ok (.aload_n 0, 1) := by decide +kernel
theorem dX12_taste_57 : decode cX12_taste 57 = .ok (.iconst 4, 1) := by decide +kernel
theorem dX12_taste_58 : decode cX12_taste 58 = .ok (.putfield 328, 3) := by decide +kernel
theorem dX12_taste_61 : decode cX12_taste 61 = .ok (.aload_n 0, 1) := by decide +kernel
theorem dX12_taste_62 : decode cX12_taste 62 = .ok (.iconst 0, 1) := by decide +kernel
theorem dX12_taste_63 : decode cX12_taste 63 = .ok (.putfield 356, 3) := by decide +kernel
theorem dX12_taste_66 : decode cX12_taste 66 = .ok (.aload_n 0, 1) := by decide +kernel
theorem dX12_taste_67 : decode cX12_taste 67 = .ok (.iconst 0, 1) := by decide +kernel
theorem dX12_taste_68 : decode cX12_taste 68 = .ok (.putfield 291, 3) := by decide +kernel
theorem dX12_taste_71 : decode cX12_taste 71 = .ok (.aload_n 0, 1) := by decide +kernel
theorem dX12_taste_72 : decode cX12_taste 72 = .ok (.iconst 5, 1) := by decide +kernel
theorem dX12_taste_73 : decode cX12_taste 73 = .ok (.putfield 365, 3) := by decide +kernel
theorem dX12_taste_76 : decode cX12_taste 76 = .ok (.aload_n 0, 1) := by decide +kernel
theorem dX12_taste_77 : decode cX12_taste 77 = .ok (.bipush 50, 2) := by decide +kernel
theorem dX12_taste_79 : decode cX12_taste 79 = .ok (.putfield 368, 3) := by decide +kernel
theorem dX12_taste_82 : decode cX12_taste 82 = .ok (.aload_n 0, 1) := by decide +kernel
theorem dX12_taste_83 : decode cX12_taste 83 = .ok (.invokevirtual 306, 3) := by decide +kernel
theorem dX12_taste_86 : decode cX12_taste 86 = .ok (.aload_n 0, 1) := by decide +kernel
theorem dX12_taste_87 : decode cX12_taste 87 = .ok (.getfield 285, 3) := by decide +kernel
theorem dX12_taste_90 : decode cX12_taste 90 = .ok (.ifCond .ne 89, 3) := by decide +kernel
theorem dX12_taste_93 : decode cX12_taste 93 = .ok (.aload_n 0, 1) := by decide +kernel
theorem dX12_taste_94 : decode cX12_taste 94 = .ok (.getfield 328, 3) := by decide +kernel
theorem dX12_taste_97 : decode cX12_taste 97 = .ok (.iconst 4, 1) := by decide +kernel
theorem dX12_taste_98 : decode cX12_taste 98 = .ok (.if_icmp .ne 10, 3) := by decide +kernel
theorem dX12_taste_101 : decode cX12_taste 101 = .ok (.aload_n 0, 1) := by decide +kernel
theorem dX12_taste_102 : decode cX12_taste 102 = .ok (.getfield 270, 3) := by decide +kernel
theorem dX12_taste_105 : decode cX12_taste 105 = .ok (.ifCond .eq 74, 3) := by decide +kernel
theorem dX12_taste_108 : decode cX12_taste 108 = .ok (.aload_n 0, 1) := by decide +kernel
theorem dX12_taste_109 : decode cX12_taste 109 = .ok (.getfield 328, 3) := by decide +kernel
theorem dX12_taste_112 : decode cX12_taste 112 = .ok (.tableswitch 60 0 3 #[32, 39, 46, 53], 32) := by decide +kernel
theorem dX12_taste_144 : decode cX12_taste 144 = .ok (.aload_n 0, 1) := by decide +kernel
theorem dX12_taste_145 : decode cX12_taste 145 = .ok (.invokevirtual 371, 3) := by decide +kernel
theorem dX12_taste_148 : decode cX12_taste 148 = .ok (.goto (-62), 3) := by decide +kernel
theorem dX12_taste_151 : decode cX12_taste 151 = .ok (.aload_n 0, 1) := by decide +kernel
theorem dX12_taste_152 : decode cX12_taste 152 = .ok (.invokevirtual 374, 3) := by decide +kernel
theorem dX12_taste_155 : decode cX12_taste 155 = .ok (.goto (-69), 3) := by decide +kernel
theorem dX12_taste_158 : decode cX12_taste 158 = .ok (.aload_n 0, 1) := by decide +kernel
theorem dX12_taste_159 : decode cX12_taste 159 = .ok (.invokevirtual 377, 3) := by decide +kernel
theorem dX12_taste_162 : decode cX12_taste 162 = .ok (.goto (-76), 3) := by decide +kernel
theorem dX12_taste_165 : decode cX12_taste 165 = .ok (.aload_n 0, 1) := by decide +kernel
theorem dX12_taste_166 : decode cX12_taste 166 = .ok (.invokevirtual 380, 3) := by decide +kernel
theorem dX12_taste_169 : decode cX12_taste 169 = .ok (.goto (-83), 3) := by decide +kernel
theorem dX12_taste_172 : decode cX12_taste 172 = .ok (.aload_n 0, 1) := by decide +kernel
theorem dX12_taste_173 : decode cX12_taste 173 = .ok (.invokevirtual 383, 3) := by decide +kernel
theorem dX12_taste_176 : decode cX12_taste 176 = .ok (.goto (-90), 3) := by decide +kernel
theorem dX12_taste_179 : decode cX12_taste 179 = .ok (.aload_n 0, 1) := by decide +kernel
theorem dX12_taste_180 : decode cX12_taste 180 = .ok (.aload_n 0, 1) := by decide +kernel
theorem dX12_taste_181 : decode cX12_taste 181 = .ok (.getfield 285, 3) := by decide +kernel
theorem dX12_taste_184 : decode cX12_taste 184 = .ok (.putfield 24, 3) := by decide +kernel
theorem dX12_taste_187 : decode cX12_taste 187 = .ok (.aload_n 0, 1) := by decide +kernel
theorem dX12_taste_188 : decode cX12_taste 188 = .ok (.aload_n 0, 1) := by decide +kernel
theorem dX12_taste_189 : decode cX12_taste 189 = .ok (.getfield 288, 3) := by decide +kernel
theorem dX12_taste_192 : decode cX12_taste 192 = .ok (.putfield 28, 3) := by decide +kernel
theorem dX12_taste_195 : decode cX12_taste 195 = .ok (.aload_n 0, 1) := by decide +kernel
theorem dX12_taste_196 : decode cX12_taste 196 = .ok (.getfield 285, 3) := by decide +kernel
theorem dX12_taste_199 : decode cX12_taste 199 = .ok (.ifCond .le 5, 3) := by decide +kernel
theorem dX12_taste_202 : decode cX12_taste 202 = .ok (.iconst (-1), 1) := by decide +kernel
theorem dX12_taste_203 : decode cX12_taste 203 = .ok (.ireturn, 1) := by decide +kernel
theorem dX12_taste_204 : decode cX12_taste 204 = .ok (.aload_n 0, 1) := by decide +kernel
theorem dX12_taste_205 : decode cX12_taste 205 = .ok (.aload_n 0, 1) := by decide +kernel
theorem dX12_taste_206 : decode cX12_taste 206 = .ok (.getfield 7, 3) := by decide +kernel
theorem dX12_taste_209 : decode cX12_taste 209 = .ok (.iconst 4, 1) := by decide +kernel
theorem dX12_taste_210 : decode cX12_taste 210 = .ok (.iaload, 1) := by decide +kernel
theorem dX12_taste_211 : decode cX12_taste 211 = .ok (.invokevirtual 386, 3) := by decide +kernel
theorem dX12_taste_214 : decode cX12_taste 214 = .ok (.aload_n 0, 1) := by decide +kernel
theorem dX12_taste_215 : decode cX12_taste 215 = .ok (.getfield 7, 3) := by decide +kernel
theorem dX12_taste_218 : decode cX12_taste 218 = .ok (.iconst 4, 1) := by decide +kernel
theorem dX12_taste_219 : decode cX12_taste 219 = .ok (.dup2, 1) := by decide +kernel
theorem dX12_taste_220 : decode cX12_taste 220 = .ok (.iaload, 1) := by decide +kernel
theorem dX12_taste_221 : decode cX12_taste 221 = .ok (.iconst 1, 1) := by decide +kernel
theorem dX12_taste_222 : decode cX12_taste 222 = .ok (.iadd, 1) := by decide +kernel
theorem dX12_taste_223 : decode cX12_taste 223 = .ok (.iastore, 1) := by decide +kernel
theorem dX12_taste_224 : decode cX12_taste 224 = .ok (.aload_n 0, 1) := by decide +kernel
theorem dX12_taste_225 : decode cX12_taste 225 = .ok (.getfield 7, 3) := by decide +kernel
theorem dX12_taste_228 : decode cX12_taste 228 = .ok (.iconst 4, 1) := by decide +kernel
theorem dX12_taste_229 : decode cX12_taste 229 = .ok (.iaload, 1) := by decide +kernel
theorem dX12_taste_230 : decode cX12_taste 230 = .ok (.iconst 1, 1) := by decide +kernel
theorem dX12_taste_231 : decode cX12_taste 231 = .ok (.isub, 1) := by decide +kernel
theorem dX12_taste_232 : decode cX12_taste 232 = .ok (.ireturn, 1) := by decide +kernel
theorem dX12_keepsText_0 : decode cX12_keepsText 0 = .ok (.aload_n 0, 1) := by decide +kernel
theorem dX12_keepsText_1 : decode cX12_keepsText 1 = .ok (.getfield 31, 3) := by decide +kernel
theorem dX12_keepsText_4 : decode cX12_keepsText 4 = .ok (.iload_n 1, 1) := by decide +kernel
theorem dX12_keepsText_5 : decode cX12_keepsText 5 = .ok (.aload_n 0, 1) := by decide +kernel
theorem dX12_keepsText_6 : decode cX12_keepsText 6 = .ok (.getfield 356, 3) := by decide +kernel
theorem dX12_keepsText_9 : decode cX12_keepsText 9 = .ok (.iastore, 1) := by decide +kernel
theorem dX12_keepsText_10 : decode cX12_keepsText 10 = .ok (.aload_n 0, 1) := by decide +kernel
theorem dX12_keepsText_11 : decode cX12_keepsText 11 = .ok (.getfield 40, 3) := by decide +kernel
theorem dX12_keepsText_14 : decode cX12_keepsText 14 = .ok (.iload_n 1, 1) := by decide +kernel
theorem dX12_keepsText_15 : decode cX12_keepsText 15 = .ok (.aload_n 0, 1) := by decide +kernel
theorem dX12_keepsText_16 : decode cX12_keepsText 16 = .ok (.getfield 365, 3) := by decide +kernel
theorem dX12_keepsText_19 : decode cX12_keepsText 19 = .ok (.iastore, 1) := by decide +kernel
theorem dX12_keepsText_20 : decode cX12_keepsText 20 = .ok (.aload_n 0, 1) := by decide +kernel
theorem dX12_keepsText_21 : decode cX12_keepsText 21 = .ok (.getfield 43, 3) := by decide +kernel
theorem dX12_keepsText_24 : decode cX12_keepsText 24 = .ok (.iload_n 1, 1) := by decide +kernel
theorem dX12_keepsText_25 : decode cX12_keepsText 25 = .ok (.aload_n 0, 1) := by decide +kernel
theorem dX12_keepsText_26 : decode cX12_keepsText 26 = .ok (.getfield 368, 3) := by decide +kernel
theorem dX12_keepsText_29 : decode cX12_keepsText 29 = .ok (.iastore, 1) := by decide +kernel
theorem dX12_keepsText_30 : decode cX12_keepsText 30 = .ok (.iconst 0, 1) := by decide +kernel
theorem dX12_keepsText_31 : decode cX12_keepsText 31 = .ok (.istore_n 2, 1) := by decide +kernel
theorem dX12_keepsText_32 : decode cX12_keepsText 32 = .ok (.iload_n 2, 1) := by decide +kernel
theorem dX12_keepsText_33 : decode cX12_keepsText 33 = .ok (.aload_n 0, 1) := by decide +kernel
theorem dX12_keepsText_34 : decode cX12_keepsText 34 = .ok (.getfield 356, 3) := by decide +kernel
theorem dX12_keepsText_37 : decode cX12_keepsText 37 = .ok (.if_icmp .ge 49, 3) := by decide +kernel
theorem dX12_keepsText_40 : decode cX12_keepsText 40 = .ok (.aload_n 0, 1) := by decide +kernel
theorem dX12_keepsText_41 : decode cX12_keepsText 41 = .ok (.getfield 34, 3) := by decide +kernel
theorem dX12_keepsText_44 : decode cX12_keepsText 44 = .ok (.bipush 12, 2) := by decide +kernel
theorem dX12_keepsText_46 : decode cX12_keepsText 46 = .ok (.iload_n 1, 1) := by decide +kernel
theorem dX12_keepsText_47 : decode cX12_keepsText 47 = .ok (.imul, 1) := by decide +kernel
theorem dX12_keepsText_48 : decode cX12_keepsText 48 = .ok (.iload_n 2, 1) := by decide +kernel
theorem dX12_keepsText_49 : decode cX12_keepsText 49 = .ok (.iadd, 1) := by decide +kernel
theorem dX12_keepsText_50 : decode cX12_keepsText 50 = .ok (.aload_n 0, 1) := by decide +kernel
theorem dX12_keepsText_51 : decode cX12_keepsText 51 = .ok (.getfield 67, 3) := by decide +kernel
theorem dX12_keepsText_54 : decode cX12_keepsText 54 = .ok (.iload_n 2, 1) := by decide +kernel
theorem dX12_keepsText_55 : decode cX12_keepsText 55 = .ok (.iaload, 1) := by decide +kernel
theorem dX12_keepsText_56 : decode cX12_keepsText 56 = .ok (.iastore, 1) := by decide +kernel
theorem dX12_keepsText_57 : decode cX12_keepsText 57 = .ok (.aload_n 0, 1) := by decide +kernel
theorem dX12_keepsText_58 : decode cX12_keepsText 58 = .ok (.getfield 37, 3) := by decide +kernel
theorem dX12_keepsText_61 : decode cX12_keepsText 61 = .ok (.bipush 12, 2) := by decide +kernel
theorem dX12_keepsText_63 : decode cX12_keepsText 63 = .ok (.iload_n 1, 1) := by decide +kernel
theorem dX12_keepsText_64 : decode cX12_keepsText 64 = .ok (.imul, 1) := by decide +kernel
theorem dX12_keepsText_65 : decode cX12_keepsText 65 = .ok (.iload_n 2, 1) := by decide +kernel
theorem dX12_keepsText_66 : decode cX12_keepsText 66 = .ok (.iadd, 1) := by decide +kernel
theorem dX12_keepsText_67 : decode cX12_keepsText 67 = .ok (.sipush 400, 3) := by decide +kernel
theorem dX12_keepsText_70 : decode cX12_keepsText 70 = .ok (.iload_n 1, 1) := by decide +kernel
theorem dX12_keepsText_71 : decode cX12_keepsText 71 = .ok (.imul, 1) := by decide +kernel
theorem dX12_keepsText_72 : decode cX12_keepsText 72 = .ok (.aload_n 0, 1) := by decide +kernel
theorem dX12_keepsText_73 : decode cX12_keepsText 73 = .ok (.getfield 70, 3) := by decide +kernel
theorem dX12_keepsText_76 : decode cX12_keepsText 76 = .ok (.iload_n 2, 1) := by decide +kernel
theorem dX12_keepsText_77 : decode cX12_keepsText 77 = .ok (.iaload, 1) := by decide +kernel
theorem dX12_keepsText_78 : decode cX12_keepsText 78 = .ok (.iadd, 1) := by decide +kernel
theorem dX12_keepsText_79 : decode cX12_keepsText 79 = .ok (.iastore, 1) := by decide +kernel
theorem dX12_keepsText_80 : decode cX12_keepsText 80 = .ok (.iinc 2 1, 3) := by decide +kernel
theorem dX12_keepsText_83 : decode cX12_keepsText 83 = .ok (.goto (-51), 3) := by decide +kernel
theorem dX12_keepsText_86 : decode cX12_keepsText 86 = .ok (.iconst 0, 1) := by decide +kernel
theorem dX12_keepsText_87 : decode cX12_keepsText 87 = .ok (.istore_n 2, 1) := by decide +kernel
theorem dX12_keepsText_88 : decode cX12_keepsText 88 = .ok (.iload_n 2, 1) := by decide +kernel
theorem dX12_keepsText_89 : decode cX12_keepsText 89 = .ok (.aload_n 0, 1) := by decide +kernel
theorem dX12_keepsText_90 : decode cX12_keepsText 90 = .ok (.getfield 291, 3) := by decide +kernel
theorem dX12_keepsText_93 : decode cX12_keepsText 93 = .ok (.if_icmp .ge 45, 3) := by decide +kernel
theorem dX12_keepsText_96 : decode cX12_keepsText 96 = .ok (.aload_n 0, 1) := by decide +kernel
theorem dX12_keepsText_97 : decode cX12_keepsText 97 = .ok (.getfield 46, 3) := by decide +kernel
theorem dX12_keepsText_100 : decode cX12_keepsText 100 = .ok (.sipush 400, 3) := by decide +kernel
theorem dX12_keepsText_103 : decode cX12_keepsText 103 = .ok (.iload_n 1, 1) := by decide +kernel
theorem dX12_keepsText_104 : decode cX12_keepsText 104 = .ok (.imul, 1) := by decide +kernel
theorem dX12_keepsText_105 : decode cX12_keepsText 105 = .ok (.iload_n 2, 1) := by decide +kernel
theorem dX12_keepsText_106 : decode cX12_keepsText 106 = .ok (.iadd, 1) := by decide +kernel
theorem dX12_keepsText_107 : decode cX12_keepsText 107 = .ok (.aload_n 0, 1) := by decide +kernel
theorem dX12_keepsText_108 : decode cX12_keepsText 108 = .ok (.getfield 73, 3) := by decide +kernel
theorem dX12_keepsText_111 : decode cX12_keepsText 111 = .ok (.iload_n 2, 1) := by decide +kernel
theorem dX12_keepsText_112 : decode cX12_keepsText 112 = .ok (.iaload, 1) := by decide +kernel
theorem dX12_keepsText_113 : decode cX12_keepsText 113 = .ok (.iastore, 1) := by decide +kernel
theorem dX12_keepsText_114 : decode cX12_keepsText 114 = .ok (.aload_n 0, 1) := by decide +kernel
theorem dX12_keepsText_115 : decode cX12_keepsText 115 = .ok (.getfield 49, 3) := by decide +kernel
theorem dX12_keepsText_118 : decode cX12_keepsText 118 = .ok (.sipush 400, 3) := by decide +kernel
theorem dX12_keepsText_121 : decode cX12_keepsText 121 = .ok (.iload_n 1, 1) := by decide +kernel
theorem dX12_keepsText_122 : decode cX12_keepsText 122 = .ok (.imul, 1) := by decide +kernel
theorem dX12_keepsText_123 : decode cX12_keepsText 123 = .ok (.iload_n 2, 1) := by decide +kernel
theorem dX12_keepsText_124 : decode cX12_keepsText 124 = .ok (.iadd, 1) := by decide +kernel
theorem dX12_keepsText_125 : decode cX12_keepsText 125 = .ok (.aload_n 0, 1) := by decide +kernel
theorem dX12_keepsText_126 : decode cX12_keepsText 126 = .ok (.getfield 76, 3) := by decide +kernel
theorem dX12_keepsText_129 : decode cX12_keepsText 129 = .ok (.iload_n 2, 1) := by decide +kernel
theorem dX12_keepsText_130 : decode cX12_keepsText 130 = .ok (.iaload, 1) := by decide +kernel
theorem dX12_keepsText_131 : decode cX12_keepsText 131 = .ok (.iastore, 1) := by decide +kernel
theorem dX12_keepsText_132 : decode cX12_keepsText 132 = .ok (.iinc 2 1, 3) := by decide +kernel
theorem dX12_keepsText_135 : decode cX12_keepsText 135 = .ok (.goto (-47), 3) := by decide +kernel
theorem dX12_keepsText_138 : decode cX12_keepsText 138 = .ok (.return_, 1) := by decide +kernel
theorem dX12_fault_0 : decode cX12_fault 0 = .ok (.iload_n 1, 1) := by decide +kernel
theorem dX12_fault_1 : decode cX12_fault 1 = .ok (.ifCond .ne 10, 3) := by decide +kernel
theorem dX12_fault_4 : decode cX12_fault 4 = .ok (.aload_n 0, 1) := by decide +kernel
theorem dX12_fault_5 : decode cX12_fault 5 = .ok (.getfield 24, 3) := by decide +kernel
theorem dX12_fault_8 : decode cX12_fault 8 = .ok (.goto 16, 3) := by decide +kernel
theorem dX12_fault_11 : decode cX12_fault 11 = .ok (.iload_n 1, 1) := by decide +kernel
theorem dX12_fault_12 : decode cX12_fault 12 = .ok (.iconst 1, 1) := by decide +kernel
theorem dX12_fault_13 : decode cX12_fault 13 = .ok (.if_icmp .ne 10, 3) := by decide +kernel
theorem dX12_fault_16 : decode cX12_fault 16 = .ok (.aload_n 0, 1) := by decide +kernel
theorem dX12_fault_17 : decode cX12_fault 17 = .ok (.getfield 28, 3) := by decide +kernel
theorem dX12_fault_20 : decode cX12_fault 20 = .ok (.goto 4, 3) := by decide +kernel
theorem dX12_fault_23 : decode cX12_fault 23 = .ok (.iconst (-1), 1) := by decide +kernel
theorem dX12_fault_24 : decode cX12_fault 24 = .ok (.ireturn, 1) := by decide +kernel
theorem dX12_bound_0 : decode cX12_bound 0 = .ok (.lload_n 0, 1) := by decide +kernel
theorem dX12_bound_1 : decode cX12_bound 1 = .ok (.ldc2_w 389, 3) := by decide +kernel
theorem dX12_bound_4 : decode cX12_bound 4 = .ok (.lcmp, 1) := by decide +kernel
theorem dX12_bound_5 : decode cX12_bound 5 = .ok (.ifCond .le 9, 3) := by decide +kernel
theorem dX12_bound_8 : decode cX12_bound 8 = .ok (.ldc2_w 389, 3) := by decide +kernel
theorem dX12_bound_11 : decode cX12_bound 11 = .ok (.goto 18, 3) := by decide +kernel
theorem dX12_bound_14 : decode cX12_bound 14 = .ok (.lload_n 0, 1) := by decide +kernel
theorem dX12_bound_15 : decode cX12_bound 15 = .ok (.ldc2_w 391, 3) := by decide +kernel
theorem dX12_bound_18 : decode cX12_bound 18 = .ok (.lcmp, 1) := by decide +kernel
theorem dX12_bound_19 : decode cX12_bound 19 = .ok (.ifCond .ge 9, 3) := by decide +kernel
theorem dX12_bound_22 : decode cX12_bound 22 = .ok (.ldc2_w 391, 3) := by decide +kernel
theorem dX12_bound_25 : decode cX12_bound 25 = .ok (.goto 4, 3) := by decide +kernel
theorem dX12_bound_28 : decode cX12_bound 28 = .ok (.lload_n 0, 1) := by decide +kernel
theorem dX12_bound_29 : decode cX12_bound 29 = .ok (.lreturn, 1) := by decide +kernel
theorem dX12_worked_0 : decode cX12_worked 0 = .ok (.iload_n 0, 1) := by decide +kernel
theorem dX12_worked_1 : decode cX12_worked 1 = .ok (.lookupswitch 250 #[(35, 210), (42, 129), (43, 115), (45, 122), (47, 136), (60, 174), (61, 198), (62, 186), (300, 222), (301, 234), (403, 150), (404, 162), (406, 246)], 115) := by decide +kernel
theorem dX12_worked_116 : decode cX12_worked 116 = .ok (.lload_n 1, 1) := by decide +kernel
theorem dX12_worked_117 : decode cX12_worked 117 = .ok (.lload_n 3, 1) := by decide +kernel
theorem dX12_worked_118 : decode cX12_worked 118 = .ok (.ladd, 1) := by decide +kernel
theorem dX12_worked_119 : decode cX12_worked 119 = .ok (.invokestatic 393, 3) := by decide +kernel
theorem dX12_worked_122 : decode cX12_worked 122 = .ok (.lreturn, 1) := by decide +kernel
theorem dX12_worked_123 : decode cX12_worked 123 = .ok (.lload_n 1, 1) := by decide +kernel
theorem dX12_worked_124 : decode cX12_worked 124 = .ok (.lload_n 3, 1) := by decide +kernel
theorem dX12_worked_125 : decode cX12_worked 125 = .ok (.lsub, 1) := by decide +kernel
theorem dX12_worked_126 : decode cX12_worked 126 = .ok (.invokestatic 393, 3) := by decide +kernel
theorem dX12_worked_129 : decode cX12_worked 129 = .ok (.lreturn, 1) := by decide +kernel
theorem dX12_worked_130 : decode cX12_worked 130 = .ok (.lload_n 1, 1) := by decide +kernel
theorem dX12_worked_131 : decode cX12_worked 131 = .ok (.lload_n 3, 1) := by decide +kernel
theorem dX12_worked_132 : decode cX12_worked 132 = .ok (.lmul, 1) := by decide +kernel
theorem dX12_worked_133 : decode cX12_worked 133 = .ok (.invokestatic 393, 3) := by decide +kernel
theorem dX12_worked_136 : decode cX12_worked 136 = .ok (.lreturn, 1) := by decide +kernel
theorem dX12_worked_137 : decode cX12_worked 137 = .ok (.lload_n 3, 1) := by decide +kernel
theorem dX12_worked_138 : decode cX12_worked 138 = .ok (.lconst 0, 1) := by decide +kernel
theorem dX12_worked_139 : decode cX12_worked 139 = .ok (.lcmp, 1) := by decide +kernel
theorem dX12_worked_140 : decode cX12_worked 140 = .ok (.ifCond .ne 7, 3) := by decide +kernel
theorem dX12_worked_143 : decode cX12_worked 143 = .ok (.lconst 0, 1) := by decide +kernel
theorem dX12_worked_144 : decode cX12_worked 144 = .ok (.goto 6, 3) := by decide +kernel
theorem dX12_worked_147 : decode cX12_worked 147 = .ok (.lload_n 1, 1) := by decide +kernel
theorem dX12_worked_148 : decode cX12_worked 148 = .ok (.lload_n 3, 1) := by decide +kernel
theorem dX12_worked_149 : decode cX12_worked 149 = .ok (.ldiv, 1) := by decide +kernel
theorem dX12_worked_150 : decode cX12_worked 150 = .ok (.lreturn, 1) := by decide +kernel
theorem dX12_worked_151 : decode cX12_worked 151 = .ok (.lload_n 1, 1) := by decide +kernel
theorem dX12_worked_152 : decode cX12_worked 152 = .ok (.lload_n 3, 1) := by decide +kernel
theorem dX12_worked_153 : decode cX12_worked 153 = .ok (.lcmp, 1) := by decide +kernel
theorem dX12_worked_154 : decode cX12_worked 154 = .ok (.ifCond .ge 7, 3) := by decide +kernel
theorem dX12_worked_157 : decode cX12_worked 157 = .ok (.lload_n 1, 1) := by decide +kernel
theorem dX12_worked_158 : decode cX12_worked 158 = .ok (.goto 4, 3) := by decide +kernel
theorem dX12_worked_161 : decode cX12_worked 161 = .ok (.lload_n 3, 1) := by decide +kernel
theorem dX12_worked_162 : decode cX12_worked 162 = .ok (.lreturn, 1) := by decide +kernel
theorem dX12_worked_163 : decode cX12_worked 163 = .ok (.lload_n 1, 1) := by decide +kernel
theorem dX12_worked_164 : decode cX12_worked 164 = .ok (.lload_n 3, 1) := by decide +kernel
theorem dX12_worked_165 : decode cX12_worked 165 = .ok (.lcmp, 1) := by decide +kernel
theorem dX12_worked_166 : decode cX12_worked 166 = .ok (.ifCond .le 7, 3) := by decide +kernel
theorem dX12_worked_169 : decode cX12_worked 169 = .ok (.lload_n 1, 1) := by decide +kernel
theorem dX12_worked_170 : decode cX12_worked 170 = .ok (.goto 4, 3) := by decide +kernel
theorem dX12_worked_173 : decode cX12_worked 173 = .ok (.lload_n 3, 1) := by decide +kernel
theorem dX12_worked_174 : decode cX12_worked 174 = .ok (.lreturn, 1) := by decide +kernel
theorem dX12_worked_175 : decode cX12_worked 175 = .ok (.lload_n 1, 1) := by decide +kernel
theorem dX12_worked_176 : decode cX12_worked 176 = .ok (.lload_n 3, 1) := by decide +kernel
theorem dX12_worked_177 : decode cX12_worked 177 = .ok (.lcmp, 1) := by decide +kernel
theorem dX12_worked_178 : decode cX12_worked 178 = .ok (.ifCond .ge 7, 3) := by decide +kernel
theorem dX12_worked_181 : decode cX12_worked 181 = .ok (.lconst 1, 1) := by decide +kernel
theorem dX12_worked_182 : decode cX12_worked 182 = .ok (.goto 4, 3) := by decide +kernel
theorem dX12_worked_185 : decode cX12_worked 185 = .ok (.lconst 0, 1) := by decide +kernel
theorem dX12_worked_186 : decode cX12_worked 186 = .ok (.lreturn, 1) := by decide +kernel
theorem dX12_worked_187 : decode cX12_worked 187 = .ok (.lload_n 1, 1) := by decide +kernel
theorem dX12_worked_188 : decode cX12_worked 188 = .ok (.lload_n 3, 1) := by decide +kernel
theorem dX12_worked_189 : decode cX12_worked 189 = .ok (.lcmp, 1) := by decide +kernel
theorem dX12_worked_190 : decode cX12_worked 190 = .ok (.ifCond .le 7, 3) := by decide +kernel
theorem dX12_worked_193 : decode cX12_worked 193 = .ok (.lconst 1, 1) := by decide +kernel
theorem dX12_worked_194 : decode cX12_worked 194 = .ok (.goto 4, 3) := by decide +kernel
theorem dX12_worked_197 : decode cX12_worked 197 = .ok (.lconst 0, 1) := by decide +kernel
theorem dX12_worked_198 : decode cX12_worked 198 = .ok (.lreturn, 1) := by decide +kernel
theorem dX12_worked_199 : decode cX12_worked 199 = .ok (.lload_n 1, 1) := by decide +kernel
theorem dX12_worked_200 : decode cX12_worked 200 = .ok (.lload_n 3, 1) := by decide +kernel
theorem dX12_worked_201 : decode cX12_worked 201 = .ok (.lcmp, 1) := by decide +kernel
theorem dX12_worked_202 : decode cX12_worked 202 = .ok (.ifCond .ne 7, 3) := by decide +kernel
theorem dX12_worked_205 : decode cX12_worked 205 = .ok (.lconst 1, 1) := by decide +kernel
theorem dX12_worked_206 : decode cX12_worked 206 = .ok (.goto 4, 3) := by decide +kernel
theorem dX12_worked_209 : decode cX12_worked 209 = .ok (.lconst 0, 1) := by decide +kernel
theorem dX12_worked_210 : decode cX12_worked 210 = .ok (.lreturn, 1) := by decide +kernel
theorem dX12_worked_211 : decode cX12_worked 211 = .ok (.lload_n 1, 1) := by decide +kernel
theorem dX12_worked_212 : decode cX12_worked 212 = .ok (.lload_n 3, 1) := by decide +kernel
theorem dX12_worked_213 : decode cX12_worked 213 = .ok (.lcmp, 1) := by decide +kernel
theorem dX12_worked_214 : decode cX12_worked 214 = .ok (.ifCond .eq 7, 3) := by decide +kernel
theorem dX12_worked_217 : decode cX12_worked 217 = .ok (.lconst 1, 1) := by decide +kernel
theorem dX12_worked_218 : decode cX12_worked 218 = .ok (.goto 4, 3) := by decide +kernel
theorem dX12_worked_221 : decode cX12_worked 221 = .ok (.lconst 0, 1) := by decide +kernel
theorem dX12_worked_222 : decode cX12_worked 222 = .ok (.lreturn, 1) := by decide +kernel
theorem dX12_worked_223 : decode cX12_worked 223 = .ok (.lload_n 1, 1) := by decide +kernel
theorem dX12_worked_224 : decode cX12_worked 224 = .ok (.lload_n 3, 1) := by decide +kernel
theorem dX12_worked_225 : decode cX12_worked 225 = .ok (.lcmp, 1) := by decide +kernel
theorem dX12_worked_226 : decode cX12_worked 226 = .ok (.ifCond .gt 7, 3) := by decide +kernel
theorem dX12_worked_229 : decode cX12_worked 229 = .ok (.lconst 1, 1) := by decide +kernel
theorem dX12_worked_230 : decode cX12_worked 230 = .ok (.goto 4, 3) := by decide +kernel
theorem dX12_worked_233 : decode cX12_worked 233 = .ok (.lconst 0, 1) := by decide +kernel
theorem dX12_worked_234 : decode cX12_worked 234 = .ok (.lreturn, 1) := by decide +kernel
theorem dX12_worked_235 : decode cX12_worked 235 = .ok (.lload_n 1, 1) := by decide +kernel
theorem dX12_worked_236 : decode cX12_worked 236 = .ok (.lload_n 3, 1) := by decide +kernel
theorem dX12_worked_237 : decode cX12_worked 237 = .ok (.lcmp, 1) := by decide +kernel
theorem dX12_worked_238 : decode cX12_worked 238 = .ok (.ifCond .lt 7, 3) := by decide +kernel
theorem dX12_worked_241 : decode cX12_worked 241 = .ok (.lconst 1, 1) := by decide +kernel
theorem dX12_worked_242 : decode cX12_worked 242 = .ok (.goto 4, 3) := by decide +kernel
theorem dX12_worked_245 : decode cX12_worked 245 = .ok (.lconst 0, 1) := by decide +kernel
theorem dX12_worked_246 : decode cX12_worked 246 = .ok (.lreturn, 1) := by decide +kernel
theorem dX12_worked_247 : decode cX12_worked 247 = .ok (.lload_n 1, 1) := by decide +kernel
theorem dX12_worked_248 : decode cX12_worked 248 = .ok (.lload_n 3, 1) := by decide +kernel
theorem dX12_worked_249 : decode cX12_worked 249 = .ok (.lmul, 1) := by decide +kernel
theorem dX12_worked_250 : decode cX12_worked 250 = .ok (.lreturn, 1) := by decide +kernel
theorem dX12_worked_251 : decode cX12_worked 251 = .ok (.lload_n 1, 1) := by decide +kernel
theorem dX12_worked_252 : decode cX12_worked 252 = .ok (.lload_n 3, 1) := by decide +kernel
theorem dX12_worked_253 : decode cX12_worked 253 = .ok (.ladd, 1) := by decide +kernel
theorem dX12_worked_254 : decode cX12_worked 254 = .ok (.lconst 0, 1) := by decide +kernel
theorem dX12_worked_255 : decode cX12_worked 255 = .ok (.lcmp, 1) := by decide +kernel
theorem dX12_worked_256 : decode cX12_worked 256 = .ok (.ifCond .le 7, 3) := by decide +kernel
theorem dX12_worked_259 : decode cX12_worked 259 = .ok (.lconst 1, 1) := by decide +kernel
theorem dX12_worked_260 : decode cX12_worked 260 = .ok (.goto 4, 3) := by decide +kernel
theorem dX12_worked_263 : decode cX12_worked 263 = .ok (.lconst 0, 1) := by decide +kernel
theorem dX12_worked_264 : decode cX12_worked 264 = .ok (.lreturn, 1) := by decide +kernel
theorem dX12_tells_0 : decode cX12_tells 0 = .ok (.iconst 0, 1) := by decide +kernel
theorem dX12_tells_1 : decode cX12_tells 1 = .ok (.istore_n 2, 1) := by decide +kernel
theorem dX12_tells_2 : decode cX12_tells 2 = .ok (.iload_n 1, 1) := by decide +kernel
theorem dX12_tells_3 : decode cX12_tells 3 = .ok (.istore_n 3, 1) := by decide +kernel
theorem dX12_tells_4 : decode cX12_tells 4 = .ok (.aload_n 0, 1) := by decide +kernel
theorem dX12_tells_5 : decode cX12_tells 5 = .ok (.getfield 46, 3) := by decide +kernel
theorem dX12_tells_8 : decode cX12_tells 8 = .ok (.iload_n 3, 1) := by decide +kernel
theorem dX12_tells_9 : decode cX12_tells 9 = .ok (.iaload, 1) := by decide +kernel
theorem dX12_tells_10 : decode cX12_tells 10 = .ok (.sipush 408, 3) := by decide +kernel
theorem dX12_tells_13 : decode cX12_tells 13 = .ok (.if_icmp .eq 161, 3) := by decide +kernel
theorem dX12_tells_16 : decode cX12_tells 16 = .ok (.aload_n 0, 1) := by decide +kernel
theorem dX12_tells_17 : decode cX12_tells 17 = .ok (.getfield 46, 3) := by decide +kernel
theorem dX12_tells_20 : decode cX12_tells 20 = .ok (.iload_n 3, 1) := by decide +kernel
theorem dX12_tells_21 : decode cX12_tells 21 = .ok (.iaload, 1) := by decide +kernel
theorem dX12_tells_22 : decode cX12_tells 22 = .ok (.istore 4, 2) := by decide +kernel
theorem dX12_tells_24 : decode cX12_tells 24 = .ok (.iload 4, 2) := by decide +kernel
theorem dX12_tells_26 : decode cX12_tells 26 = .ok (.sipush 400, 3) := by decide +kernel
theorem dX12_tells_29 : decode cX12_tells 29 = .ok (.if_icmp .eq 11, 3) := by decide +kernel
theorem dX12_tells_32 : decode cX12_tells 32 = .ok (.iload 4, 2) := by decide +kernel
theorem dX12_tells_34 : decode cX12_tells 34 = .ok (.sipush 401, 3) := by decide +kernel
theorem dX12_tells_37 : decode cX12_tells 37 = .ok (.if_icmp .ne 44, 3) := by decide +kernel
theorem dX12_tells_40 : decode cX12_tells 40 = .ok (.aload_n 0, 1) := by decide +kernel
theorem dX12_tells_41 : decode cX12_tells 41 = .ok (.getfield 82, 3) := by decide +kernel
theorem dX12_tells_44 : decode cX12_tells 44 = .ok (.iload_n 2, 1) := by decide +kernel
theorem dX12_tells_45 : decode cX12_tells 45 = .ok (.iload 4, 2) := by decide +kernel
theorem dX12_tells_47 : decode cX12_tells 47 = .ok (.sipush 400, 3) := by decide +kernel
theorem dX12_tells_50 : decode cX12_tells 50 = .ok (.if_icmp .ne 13, 3) := by decide +kernel
theorem dX12_tells_53 : decode cX12_tells 53 = .ok (.aload_n 0, 1) := by decide +kernel
theorem dX12_tells_54 : decode cX12_tells 54 = .ok (.getfield 49, 3) := by decide +kernel
theorem dX12_tells_57 : decode cX12_tells 57 = .ok (.iload_n 3, 1) := by decide +kernel
theorem dX12_tells_58 : decode cX12_tells 58 = .ok (.iaload, 1) := by decide +kernel
theorem dX12_tells_59 : decode cX12_tells 59 = .ok (.i2l, 1) := by decide +kernel
theorem dX12_tells_60 : decode cX12_tells 60 = .ok (.goto 14, 3) := by decide +kernel
theorem dX12_tells_63 : decode cX12_tells 63 = .ok (.aload_n 0, 1) := by decide +kernel
theorem dX12_tells_64 : decode cX12_tells 64 = .ok (.getfield 79, 3) := by decide +kernel
theorem dX12_tells_67 : decode cX12_tells 67 = .ok (.aload_n 0, 1) := by decide +kernel
theorem dX12_tells_68 : decode cX12_tells 68 = .ok (.getfield 49, 3) := by decide +kernel
theorem dX12_tells_71 : decode cX12_tells 71 = .ok (.iload_n 3, 1) := by decide +kernel
theorem dX12_tells_72 : decode cX12_tells 72 = .ok (.iaload, 1) := by decide +kernel
theorem dX12_tells_73 : decode cX12_tells 73 = .ok (.laload, 1) := by decide +kernel
theorem dX12_tells_74 : decode cX12_tells 74 = .ok (.lastore, 1) := by decide +kernel
theorem dX12_tells_75 : decode cX12_tells 75 = .ok (.iinc 2 1, 3) := by decide +kernel
theorem dX12_tells_78 : decode cX12_tells 78 = .ok (.goto 90, 3) := by decide +kernel
theorem dX12_tells_81 : decode cX12_tells 81 = .ok (.iload 4, 2) := by decide +kernel
theorem dX12_tells_83 : decode cX12_tells 83 = .ok (.sipush 402, 3) := by decide +kernel
theorem dX12_tells_86 : decode cX12_tells 86 = .ok (.if_icmp .ne 23, 3) := by decide +kernel
theorem dX12_tells_89 : decode cX12_tells 89 = .ok (.aload_n 0, 1) := by decide +kernel
theorem dX12_tells_90 : decode cX12_tells 90 = .ok (.getfield 82, 3) := by decide +kernel
theorem dX12_tells_93 : decode cX12_tells 93 = .ok (.iload_n 2, 1) := by decide +kernel
theorem dX12_tells_94 : decode cX12_tells 94 = .ok (.iconst 1, 1) := by decide +kernel
theorem dX12_tells_95 : decode cX12_tells 95 = .ok (.isub, 1) := by decide +kernel
theorem dX12_tells_96 : decode cX12_tells 96 = .ok (.aload_n 0, 1) := by decide +kernel
theorem dX12_tells_97 : decode cX12_tells 97 = .ok (.getfield 82, 3) := by decide +kernel
theorem dX12_tells_100 : decode cX12_tells 100 = .ok (.iload_n 2, 1) := by decide +kernel
theorem dX12_tells_101 : decode cX12_tells 101 = .ok (.iconst 1, 1) := by decide +kernel
theorem dX12_tells_102 : decode cX12_tells 102 = .ok (.isub, 1) := by decide +kernel
theorem dX12_tells_103 : decode cX12_tells 103 = .ok (.laload, 1) := by decide +kernel
theorem dX12_tells_104 : decode cX12_tells 104 = .ok (.lneg, 1) := by decide +kernel
theorem dX12_tells_105 : decode cX12_tells 105 = .ok (.lastore, 1) := by decide +kernel
theorem dX12_tells_106 : decode cX12_tells 106 = .ok (.goto 62, 3) := by decide +kernel
theorem dX12_tells_109 : decode cX12_tells 109 = .ok (.iload 4, 2) := by decide +kernel
theorem dX12_tells_111 : decode cX12_tells 111 = .ok (.sipush 405, 3) := by decide +kernel
theorem dX12_tells_114 : decode cX12_tells 114 = .ok (.if_icmp .ne 24, 3) := by decide +kernel
theorem dX12_tells_117 : decode cX12_tells 117 = .ok (.aload_n 0, 1) := by decide +kernel
theorem dX12_tells_118 : decode cX12_tells 118 = .ok (.getfield 82, 3) := by decide +kernel
theorem dX12_tells_121 : decode cX12_tells 121 = .ok (.iload_n 2, 1) := by decide +kernel
theorem dX12_tells_122 : decode cX12_tells 122 = .ok (.iconst 1, 1) := by decide +kernel
theorem dX12_tells_123 : decode cX12_tells 123 = .ok (.isub, 1) := by decide +kernel
theorem dX12_tells_124 : decode cX12_tells 124 = .ok (.lconst 1, 1) := by decide +kernel
theorem dX12_tells_125 : decode cX12_tells 125 = .ok (.aload_n 0, 1) := by decide +kernel
theorem dX12_tells_126 : decode cX12_tells 126 = .ok (.getfield 82, 3) := by decide +kernel
theorem dX12_tells_129 : decode cX12_tells 129 = .ok (.iload_n 2, 1) := by decide +kernel
theorem dX12_tells_130 : decode cX12_tells 130 = .ok (.iconst 1, 1) := by decide +kernel
theorem dX12_tells_131 : decode cX12_tells 131 = .ok (.isub, 1) := by decide +kernel
theorem dX12_tells_132 : decode cX12_tells 132 = .ok (.laload, 1) := by decide +kernel
theorem dX12_tells_133 : decode cX12_tells 133 = .ok (.lsub, 1) := by decide +kernel
theorem dX12_tells_134 : decode cX12_tells 134 = .ok (.lastore, 1) := by decide +kernel
theorem dX12_tells_135 : decode cX12_tells 135 = .ok (.goto 33, 3) := by decide +kernel
theorem dX12_tells_138 : decode cX12_tells 138 = .ok (.iinc 2 (-1), 3) := by decide +kernel
theorem dX12_tells_141 : decode cX12_tells 141 = .ok (.aload_n 0, 1) := by decide +kernel
theorem dX12_tells_142 : decode cX12_tells 142 = .ok (.getfield 82, 3) := by decide +kernel
theorem dX12_tells_145 : decode cX12_tells 145 = .ok (.iload_n 2, 1) := by decide +kernel
theorem dX12_tells_146 : decode cX12_tells 146 = .ok (.iconst 1, 1) := by decide +kernel
theorem dX12_tells_147 : decode cX12_tells 147 = .ok (.isub, 1) := by decide +kernel
theorem dX12_tells_148 : decode cX12_tells 148 = .ok (.iload 4, 2) := by decide +kernel
theorem dX12_tells_150 : decode cX12_tells 150 = .ok (.aload_n 0, 1) := by decide +kernel
theorem dX12_tells_151 : decode cX12_tells 151 = .ok (.getfield 82, 3) := by decide +kernel
theorem dX12_tells_154 : decode cX12_tells 154 = .ok (.iload_n 2, 1) := by decide +kernel
theorem dX12_tells_155 : decode cX12_tells 155 = .ok (.iconst 1, 1) := by decide +kernel
theorem dX12_tells_156 : decode cX12_tells 156 = .ok (.isub, 1) := by decide +kernel
theorem dX12_tells_157 : decode cX12_tells 157 = .ok (.laload, 1) := by decide +kernel
theorem dX12_tells_158 : decode cX12_tells 158 = .ok (.aload_n 0, 1) := by decide +kernel
theorem dX12_tells_159 : decode cX12_tells 159 = .ok (.getfield 82, 3) := by decide +kernel
theorem dX12_tells_162 : decode cX12_tells 162 = .ok (.iload_n 2, 1) := by decide +kernel
theorem dX12_tells_163 : decode cX12_tells 163 = .ok (.laload, 1) := by decide +kernel
theorem dX12_tells_164 : decode cX12_tells 164 = .ok (.invokestatic 396, 3) := by decide +kernel
theorem dX12_tells_167 : decode cX12_tells 167 = .ok (.lastore, 1) := by decide +kernel
theorem dX12_tells_168 : decode cX12_tells 168 = .ok (.iinc 3 1, 3) := by decide +kernel
theorem dX12_tells_171 : decode cX12_tells 171 = .ok (.goto (-167), 3) := by decide +kernel
theorem dX12_tells_174 : decode cX12_tells 174 = .ok (.aload_n 0, 1) := by decide +kernel
theorem dX12_tells_175 : decode cX12_tells 175 = .ok (.getfield 82, 3) := by decide +kernel
theorem dX12_tells_178 : decode cX12_tells 178 = .ok (.iconst 0, 1) := by decide +kernel
theorem dX12_tells_179 : decode cX12_tells 179 = .ok (.laload, 1) := by decide +kernel
theorem dX12_tells_180 : decode cX12_tells 180 = .ok (.lreturn, 1) := by decide +kernel
theorem dX12_worthOf_0 : decode cX12_worthOf 0 = .ok (.lconst 0, 1) := by decide +kernel
theorem dX12_worthOf_1 : decode cX12_worthOf 1 = .ok (.lstore_n 2, 1) := by decide +kernel
theorem dX12_worthOf_2 : decode cX12_worthOf 2 = .ok (.iconst 0, 1) := by decide +kernel
theorem dX12_worthOf_3 : decode cX12_worthOf 3 = .ok (.istore 4, 2) := by decide +kernel
theorem dX12_worthOf_5 : decode cX12_worthOf 5 = .ok (.iload 4, 2) := by decide +kernel
theorem dX12_worthOf_7 : decode cX12_worthOf 7 = .ok (.aload_n 0, 1) := by decide +kernel
theorem dX12_worthOf_8 : decode cX12_worthOf 8 = .ok (.getfield 31, 3) := by decide +kernel
theorem dX12_worthOf_11 : decode cX12_worthOf 11 = .ok (.iload_n 1, 1) := by decide +kernel
theorem dX12_worthOf_12 : decode cX12_worthOf 12 = .ok (.iaload, 1) := by decide +kernel
theorem dX12_worthOf_13 : decode cX12_worthOf 13 = .ok (.if_icmp .ge 41, 3) := by decide +kernel
theorem dX12_worthOf_16 : decode cX12_worthOf 16 = .ok (.aload_n 0, 1) := by decide +kernel
theorem dX12_worthOf_17 : decode cX12_worthOf 17 = .ok (.getfield 34, 3) := by decide +kernel
theorem dX12_worthOf_20 : decode cX12_worthOf 20 = .ok (.bipush 12, 2) := by decide +kernel
theorem dX12_worthOf_22 : decode cX12_worthOf 22 = .ok (.iload_n 1, 1) := by decide +kernel
theorem dX12_worthOf_23 : decode cX12_worthOf 23 = .ok (.imul, 1) := by decide +kernel
theorem dX12_worthOf_24 : decode cX12_worthOf 24 = .ok (.iload 4, 2) := by decide +kernel
theorem dX12_worthOf_26 : decode cX12_worthOf 26 = .ok (.iadd, 1) := by decide +kernel
theorem dX12_worthOf_27 : decode cX12_worthOf 27 = .ok (.iaload, 1) := by decide +kernel
theorem dX12_worthOf_28 : decode cX12_worthOf 28 = .ok (.ifCond .ne 20, 3) := by decide +kernel
theorem dX12_worthOf_31 : decode cX12_worthOf 31 = .ok (.aload_n 0, 1) := by decide +kernel
theorem dX12_worthOf_32 : decode cX12_worthOf 32 = .ok (.aload_n 0, 1) := by decide +kernel
theorem dX12_worthOf_33 : decode cX12_worthOf 33 = .ok (.getfield 37, 3) := by decide +kernel
theorem dX12_worthOf_36 : decode cX12_worthOf 36 = .ok (.bipush 12, 2) := by decide +kernel
theorem dX12_worthOf_38 : decode cX12_worthOf 38 = .ok (.iload_n 1, 1) := by decide +kernel
theorem dX12_worthOf_39 : decode cX12_worthOf 39 = .ok (.imul, 1) := by decide +kernel
theorem dX12_worthOf_40 : decode cX12_worthOf 40 = .ok (.iload 4, 2) := by decide +kernel
theorem dX12_worthOf_42 : decode cX12_worthOf 42 = .ok (.iadd, 1) := by decide +kernel
theorem dX12_worthOf_43 : decode cX12_worthOf 43 = .ok (.iaload, 1) := by decide +kernel
theorem dX12_worthOf_44 : decode cX12_worthOf 44 = .ok (.invokevirtual 400, 3) := by decide +kernel
theorem dX12_worthOf_47 : decode cX12_worthOf 47 = .ok (.lstore_n 2, 1) := by decide +kernel
theorem dX12_worthOf_48 : decode cX12_worthOf 48 = .ok (.iinc 4 1, 3) := by decide +kernel
theorem dX12_worthOf_51 : decode cX12_worthOf 51 = .ok (.goto (-46), 3) := by decide +kernel
theorem dX12_worthOf_54 : decode cX12_worthOf 54 = .ok (.lload_n 2, 1) := by decide +kernel
theorem dX12_worthOf_55 : decode cX12_worthOf 55 = .ok (.lreturn, 1) := by decide +kernel
theorem dX12_isBarred_0 : decode cX12_isBarred 0 = .ok (.iconst 0, 1) := by decide +kernel
theorem dX12_isBarred_1 : decode cX12_isBarred 1 = .ok (.istore_n 2, 1) := by decide +kernel
theorem dX12_isBarred_2 : decode cX12_isBarred 2 = .ok (.iconst 0, 1) := by decide +kernel
theorem dX12_isBarred_3 : decode cX12_isBarred 3 = .ok (.istore_n 3, 1) := by decide +kernel
theorem dX12_isBarred_4 : decode cX12_isBarred 4 = .ok (.iload_n 3, 1) := by decide +kernel
theorem dX12_isBarred_5 : decode cX12_isBarred 5 = .ok (.aload_n 0, 1) := by decide +kernel
theorem dX12_isBarred_6 : decode cX12_isBarred 6 = .ok (.getfield 31, 3) := by decide +kernel
theorem dX12_isBarred_9 : decode cX12_isBarred 9 = .ok (.iload_n 1, 1) := by decide +kernel
theorem dX12_isBarred_10 : decode cX12_isBarred 10 = .ok (.iaload, 1) := by decide +kernel
theorem dX12_isBarred_11 : decode cX12_isBarred 11 = .ok (.if_icmp .ge 54, 3) := by decide +kernel
theorem dX12_isBarred_14 : decode cX12_isBarred 14 = .ok (.aload_n 0, 1) := by decide +kernel
theorem dX12_isBarred_15 : decode cX12_isBarred 15 = .ok (.getfield 34, 3) := by decide +kernel
theorem dX12_isBarred_18 : decode cX12_isBarred 18 = .ok (.bipush 12, 2) := by decide +kernel
theorem dX12_isBarred_20 : decode cX12_isBarred 20 = .ok (.iload_n 1, 1) := by decide +kernel
theorem dX12_isBarred_21 : decode cX12_isBarred 21 = .ok (.imul, 1) := by decide +kernel
theorem dX12_isBarred_22 : decode cX12_isBarred 22 = .ok (.iload_n 3, 1) := by decide +kernel
theorem dX12_isBarred_23 : decode cX12_isBarred 23 = .ok (.iadd, 1) := by decide +kernel
theorem dX12_isBarred_24 : decode cX12_isBarred 24 = .ok (.iaload, 1) := by decide +kernel
theorem dX12_isBarred_25 : decode cX12_isBarred 25 = .ok (.iconst 1, 1) := by decide +kernel
theorem dX12_isBarred_26 : decode cX12_isBarred 26 = .ok (.if_icmp .ne 33, 3) := by decide +kernel
theorem dX12_isBarred_29 : decode cX12_isBarred 29 = .ok (.iload_n 2, 1) := by decide +kernel
theorem dX12_isBarred_30 : decode cX12_isBarred 30 = .ok (.ifCond .ne 23, 3) := by decide +kernel
theorem dX12_isBarred_33 : decode cX12_isBarred 33 = .ok (.aload_n 0, 1) := by decide +kernel
theorem dX12_isBarred_34 : decode cX12_isBarred 34 = .ok (.aload_n 0, 1) := by decide +kernel
theorem dX12_isBarred_35 : decode cX12_isBarred 35 = .ok (.getfield 37, 3) := by decide +kernel
theorem dX12_isBarred_38 : decode cX12_isBarred 38 = .ok (.bipush 12, 2) := by decide +kernel
theorem dX12_isBarred_40 : decode cX12_isBarred 40 = .ok (.iload_n 1, 1) := by decide +kernel
theorem dX12_isBarred_41 : decode cX12_isBarred 41 = .ok (.imul, 1) := by decide +kernel
theorem dX12_isBarred_42 : decode cX12_isBarred 42 = .ok (.iload_n 3, 1) := by decide +kernel
theorem dX12_isBarred_43 : decode cX12_isBarred 43 = .ok (.iadd, 1) := by decide +kernel
theorem dX12_isBarred_44 : decode cX12_isBarred 44 = .ok (.iaload, 1) := by decide +kernel
theorem dX12_isBarred_45 : decode cX12_isBarred 45 = .ok (.invokevirtual 400, 3) := by decide +kernel
theorem dX12_isBarred_48 : decode cX12_isBarred 48 = .ok (.lconst 0, 1) := by decide +kernel
theorem dX12_isBarred_49 : decode cX12_isBarred 49 = .ok (.lcmp, 1) := by decide +kernel
theorem dX12_isBarred_50 : decode cX12_isBarred 50 = .ok (.ifCond .le 7, 3) := by decide +kernel
theorem dX12_isBarred_53 : decode cX12_isBarred 53 = .ok (.iconst 1, 1) := by decide +kernel
theorem dX12_isBarred_54 : decode cX12_isBarred 54 = .ok (.goto 4, 3) := by decide +kernel
theorem dX12_isBarred_57 : decode cX12_isBarred 57 = .ok (.iconst 0, 1) := by decide +kernel
theorem dX12_isBarred_58 : decode cX12_isBarred 58 = .ok (.istore_n 2, 1) := by decide +kernel
theorem dX12_isBarred_59 : decode cX12_isBarred 59 = .ok (.iinc 3 1, 3) := by decide +kernel
theorem dX12_isBarred_62 : decode cX12_isBarred 62 = .ok (.goto (-58), 3) := by decide +kernel
theorem dX12_isBarred_65 : decode cX12_isBarred 65 = .ok (.iload_n 2, 1) := by decide +kernel
theorem dX12_isBarred_66 : decode cX12_isBarred 66 = .ok (.ireturn, 1) := by decide +kernel
theorem dX12_by_0 : decode cX12_by 0 = .ok (.iload_n 1, 1) := by decide +kernel
theorem dX12_by_1 : decode cX12_by 1 = .ok (.iconst 0, 1) := by decide +kernel
theorem dX12_by_2 : decode cX12_by 2 = .ok (.iconst 1, 1) := by decide +kernel
theorem dX12_by_3 : decode cX12_by 3 = .ok (.invokestatic 152, 3) := by decide +kernel
theorem dX12_by_6 : decode cX12_by 6 = .ok (.ifCond .eq 16, 3) := by decide +kernel
theorem dX12_by_9 : decode cX12_by 9 = .ok (.iload_n 2, 1) := by decide +kernel
theorem dX12_by_10 : decode cX12_by 10 = .ok (.iconst (-1), 1) := by decide +kernel
theorem dX12_by_11 : decode cX12_by 11 = .ok (.if_icmp .eq 13, 3) := by decide +kernel
theorem dX12_by_14 : decode cX12_by 14 = .ok (.aload_n 0, 1) := by decide +kernel
theorem dX12_by_15 : decode cX12_by 15 = .ok (.iload_n 2, 1) := by decide +kernel
theorem dX12_by_16 : decode cX12_by 16 = .ok (.invokevirtual 404, 3) := by decide +kernel
theorem dX12_by_19 : decode cX12_by 19 = .ok (.ifCond .ne 5, 3) := by decide +kernel
theorem dX12_by_22 : decode cX12_by 22 = .ok (.iconst 0, 1) := by decide +kernel
theorem dX12_by_23 : decode cX12_by 23 = .ok (.ireturn, 1) := by decide +kernel
theorem dX12_by_24 : decode cX12_by 24 = .ok (.aload_n 0, 1) := by decide +kernel
theorem dX12_by_25 : decode cX12_by 25 = .ok (.getfield 7, 3) := by decide +kernel
theorem dX12_by_28 : decode cX12_by 28 = .ok (.bipush 7, 2) := by decide +kernel
theorem dX12_by_30 : decode cX12_by 30 = .ok (.iload_n 1, 1) := by decide +kernel
theorem dX12_by_31 : decode cX12_by 31 = .ok (.iadd, 1) := by decide +kernel
theorem dX12_by_32 : decode cX12_by 32 = .ok (.iload_n 2, 1) := by decide +kernel
theorem dX12_by_33 : decode cX12_by 33 = .ok (.iastore, 1) := by decide +kernel
theorem dX12_by_34 : decode cX12_by 34 = .ok (.iconst 1, 1) := by decide +kernel
theorem dX12_by_35 : decode cX12_by 35 = .ok (.ireturn, 1) := by decide +kernel
theorem dX12_years_0 : decode cX12_years 0 = .ok (.iload_n 1, 1) := by decide +kernel
theorem dX12_years_1 : decode cX12_years 1 = .ok (.iconst 1, 1) := by decide +kernel
theorem dX12_years_2 : decode cX12_years 2 = .ok (.bipush 20, 2) := by decide +kernel
theorem dX12_years_4 : decode cX12_years 4 = .ok (.invokestatic 152, 3) := by decide +kernel
theorem dX12_years_7 : decode cX12_years 7 = .ok (.ifCond .eq 16, 3) := by decide +kernel
theorem dX12_years_10 : decode cX12_years 10 = .ok (.aload_n 0, 1) := by decide +kernel
theorem dX12_years_11 : decode cX12_years 11 = .ok (.getfield 7, 3) := by decide +kernel
theorem dX12_years_14 : decode cX12_years 14 = .ok (.iconst 0, 1) := by decide +kernel
theorem dX12_years_15 : decode cX12_years 15 = .ok (.iaload, 1) := by decide +kernel
theorem dX12_years_16 : decode cX12_years 16 = .ok (.iload_n 1, 1) := by decide +kernel
theorem dX12_years_17 : decode cX12_years 17 = .ok (.iadd, 1) := by decide +kernel
theorem dX12_years_18 : decode cX12_years 18 = .ok (.bipush 61, 2) := by decide +kernel
theorem dX12_years_20 : decode cX12_years 20 = .ok (.if_icmp .le 5, 3) := by decide +kernel
theorem dX12_years_23 : decode cX12_years 23 = .ok (.iconst (-1), 1) := by decide +kernel
theorem dX12_years_24 : decode cX12_years 24 = .ok (.ireturn, 1) := by decide +kernel
theorem dX12_years_25 : decode cX12_years 25 = .ok (.iconst 0, 1) := by decide +kernel
theorem dX12_years_26 : decode cX12_years 26 = .ok (.istore_n 2, 1) := by decide +kernel
theorem dX12_years_27 : decode cX12_years 27 = .ok (.iload_n 2, 1) := by decide +kernel
theorem dX12_years_28 : decode cX12_years 28 = .ok (.iload_n 1, 1) := by decide +kernel
theorem dX12_years_29 : decode cX12_years 29 = .ok (.if_icmp .ge 100, 3) := by decide +kernel
theorem dX12_years_32 : decode cX12_years 32 = .ok (.sipush 1000, 3) := by decide +kernel
theorem dX12_years_35 : decode cX12_years 35 = .ok (.bipush 14, 2) := by decide +kernel
theorem dX12_years_37 : decode cX12_years 37 = .ok (.aload_n 0, 1) := by decide +kernel
theorem dX12_years_38 : decode cX12_years 38 = .ok (.getfield 7, 3) := by decide +kernel
theorem dX12_years_41 : decode cX12_years 41 = .ok (.iconst 0, 1) := by decide +kernel
theorem dX12_years_42 : decode cX12_years 42 = .ok (.iaload, 1) := by decide +kernel
theorem dX12_years_43 : decode cX12_years 43 = .ok (.imul, 1) := by decide +kernel
theorem dX12_years_44 : decode cX12_years 44 = .ok (.iadd, 1) := by decide +kernel
theorem dX12_years_45 : decode cX12_years 45 = .ok (.istore_n 3, 1) := by decide +kernel
theorem dX12_years_46 : decode cX12_years 46 = .ok (.iconst 0, 1) := by decide +kernel
theorem dX12_years_47 : decode cX12_years 47 = .ok (.istore 4, 2) := by decide +kernel
theorem dX12_years_49 : decode cX12_years 49 = .ok (.iload 4, 2) := by decide +kernel
theorem dX12_years_51 : decode cX12_years 51 = .ok (.bipush 12, 2) := by decide +kernel
theorem dX12_years_53 : decode cX12_years 53 = .ok (.if_icmp .ge 28, 3) := by decide +kernel
theorem dX12_years_56 : decode cX12_years 56 = .ok (.aload_n 0, 1) := by decide +kernel
theorem dX12_years_57 : decode cX12_years 57 = .ok (.getfield 7, 3) := by decide +kernel
theorem dX12_years_60 : decode cX12_years 60 = .ok (.iload_n 3, 1) := by decide +kernel
theorem dX12_years_61 : decode cX12_years 61 = .ok (.iload 4, 2) := by decide +kernel
theorem dX12_years_63 : decode cX12_years 63 = .ok (.iadd, 1) := by decide +kernel
theorem dX12_years_64 : decode cX12_years 64 = .ok (.aload_n 0, 1) := by decide +kernel
theorem dX12_years_65 : decode cX12_years 65 = .ok (.getfield 7, 3) := by decide +kernel
theorem dX12_years_68 : decode cX12_years 68 = .ok (.bipush 10, 2) := by decide +kernel
theorem dX12_years_70 : decode cX12_years 70 = .ok (.iload 4, 2) := by decide +kernel
theorem dX12_years_72 : decode cX12_years 72 = .ok (.iadd, 1) := by decide +kernel
theorem dX12_years_73 : decode cX12_years 73 = .ok (.iaload, 1) := by decide +kernel
theorem dX12_years_74 : decode cX12_years 74 = .ok (.iastore, 1) := by decide +kernel
theorem dX12_years_75 : decode cX12_years 75 = .ok (.iinc 4 1, 3) := by decide +kernel
theorem dX12_years_78 : decode cX12_years 78 = .ok (.goto (-29), 3) := by decide +kernel
theorem dX12_years_81 : decode cX12_years 81 = .ok (.aload_n 0, 1) := by decide +kernel
theorem dX12_years_82 : decode cX12_years 82 = .ok (.getfield 7, 3) := by decide +kernel
theorem dX12_years_85 : decode cX12_years 85 = .ok (.iload_n 3, 1) := by decide +kernel
theorem dX12_years_86 : decode cX12_years 86 = .ok (.bipush 12, 2) := by decide +kernel
theorem dX12_years_88 : decode cX12_years 88 = .ok (.iadd, 1) := by decide +kernel
theorem dX12_years_89 : decode cX12_years 89 = .ok (.aload_n 0, 1) := by decide +kernel
theorem dX12_years_90 : decode cX12_years 90 = .ok (.getfield 7, 3) := by decide +kernel
theorem dX12_years_93 : decode cX12_years 93 = .ok (.bipush 7, 2) := by decide +kernel
theorem dX12_years_95 : decode cX12_years 95 = .ok (.iaload, 1) := by decide +kernel
theorem dX12_years_96 : decode cX12_years 96 = .ok (.iastore, 1) := by decide +kernel
theorem dX12_years_97 : decode cX12_years 97 = .ok (.aload_n 0, 1) := by decide +kernel
theorem dX12_years_98 : decode cX12_years 98 = .ok (.getfield 7, 3) := by decide +kernel
theorem dX12_years_101 : decode cX12_years 101 = .ok (.iload_n 3, 1) := by decide +kernel
theorem dX12_years_102 : decode cX12_years 102 = .ok (.bipush 13, 2) := by decide +kernel
theorem dX12_years_104 : decode cX12_years 104 = .ok (.iadd, 1) := by decide +kernel
theorem dX12_years_105 : decode cX12_years 105 = .ok (.aload_n 0, 1) := by decide +kernel
theorem dX12_years_106 : decode cX12_years 106 = .ok (.getfield 7, 3) := by decide +kernel
theorem dX12_years_109 : decode cX12_years 109 = .ok (.bipush 8, 2) := by decide +kernel
theorem dX12_years_111 : decode cX12_years 111 = .ok (.iaload, 1) := by decide +kernel
theorem dX12_years_112 : decode cX12_years 112 = .ok (.iastore, 1) := by decide +kernel
theorem dX12_years_113 : decode cX12_years 113 = .ok (.aload_n 0, 1) := by decide +kernel
theorem dX12_years_114 : decode cX12_years 114 = .ok (.getfield 7, 3) := by decide +kernel
theorem dX12_years_117 : decode cX12_years 117 = .ok (.iconst 0, 1) := by decide +kernel
theorem dX12_years_118 : decode cX12_years 118 = .ok (.dup2, 1) := by decide +kernel
theorem dX12_years_119 : decode cX12_years 119 = .ok (.iaload, 1) := by decide +kernel
theorem dX12_years_120 : decode cX12_years 120 = .ok (.iconst 1, 1) := by decide +kernel
theorem dX12_years_121 : decode cX12_years 121 = .ok (.iadd, 1) := by decide +kernel
theorem dX12_years_122 : decode cX12_years 122 = .ok (.iastore, 1) := by decide +kernel
theorem dX12_years_123 : decode cX12_years 123 = .ok (.iinc 2 1, 3) := by decide +kernel
theorem dX12_years_126 : decode cX12_years 126 = .ok (.goto (-99), 3) := by decide +kernel
theorem dX12_years_129 : decode cX12_years 129 = .ok (.aload_n 0, 1) := by decide +kernel
theorem dX12_years_130 : decode cX12_years 130 = .ok (.getfield 7, 3) := by decide +kernel
theorem dX12_years_133 : decode cX12_years 133 = .ok (.iconst 0, 1) := by decide +kernel
theorem dX12_years_134 : decode cX12_years 134 = .ok (.iaload, 1) := by decide +kernel
theorem dX12_years_135 : decode cX12_years 135 = .ok (.ireturn, 1) := by decide +kernel
theorem dX12_gives_0 : decode cX12_gives 0 = .ok (.iload_n 1, 1) := by decide +kernel
theorem dX12_gives_1 : decode cX12_gives 1 = .ok (.bipush 40, 2) := by decide +kernel
theorem dX12_gives_3 : decode cX12_gives 3 = .ok (.iadd, 1) := by decide +kernel
theorem dX12_gives_4 : decode cX12_gives 4 = .ok (.istore 7, 2) := by decide +kernel
theorem dX12_gives_6 : decode cX12_gives 6 = .ok (.aload_n 0, 1) := by decide +kernel
theorem dX12_gives_7 : decode cX12_gives 7 = .ok (.getfield 85, 3) := by decide +kernel
theorem dX12_gives_10 : decode cX12_gives 10 = .ok (.sipush 192, 3) := by decide +kernel
theorem dX12_gives_13 : decode cX12_gives 13 = .ok (.iload 7, 2) := by decide +kernel
theorem dX12_gives_15 : decode cX12_gives 15 = .ok (.imul, 1) := by decide +kernel
theorem dX12_gives_16 : decode cX12_gives 16 = .ok (.bipush 16, 2) := by decide +kernel
theorem dX12_gives_18 : decode cX12_gives 18 = .ok (.iload_n 2, 1) := by decide +kernel
theorem dX12_gives_19 : decode cX12_gives 19 = .ok (.iload_n 3, 1) := by decide +kernel
theorem dX12_gives_20 : decode cX12_gives 20 = .ok (.iload 4, 2) := by decide +kernel
theorem dX12_gives_22 : decode cX12_gives 22 = .ok (.invokestatic 206, 3) := by decide +kernel
theorem dX12_gives_25 : decode cX12_gives 25 = .ok (.imul, 1) := by decide +kernel
theorem dX12_gives_26 : decode cX12_gives 26 = .ok (.iadd, 1) := by decide +kernel
theorem dX12_gives_27 : decode cX12_gives 27 = .ok (.iload 5, 2) := by decide +kernel
theorem dX12_gives_29 : decode cX12_gives 29 = .ok (.iadd, 1) := by decide +kernel
theorem dX12_gives_30 : decode cX12_gives 30 = .ok (.dup2, 1) := by decide +kernel
theorem dX12_gives_31 : decode cX12_gives 31 = .ok (.iaload, 1) := by decide +kernel
theorem dX12_gives_32 : decode cX12_gives 32 = .ok (.iload 6, 2) := by decide +kernel
theorem dX12_gives_34 : decode cX12_gives 34 = .ok (.iadd, 1) := by decide +kernel
theorem dX12_gives_35 : decode cX12_gives 35 = .ok (.iastore, 1) := by decide +kernel
theorem dX12_gives_36 : decode cX12_gives 36 = .ok (.aload_n 0, 1) := by decide +kernel
theorem dX12_gives_37 : decode cX12_gives 37 = .ok (.getfield 88, 3) := by decide +kernel
theorem dX12_gives_40 : decode cX12_gives 40 = .ok (.bipush 16, 2) := by decide +kernel
theorem dX12_gives_42 : decode cX12_gives 42 = .ok (.iload 7, 2) := by decide +kernel
theorem dX12_gives_44 : decode cX12_gives 44 = .ok (.imul, 1) := by decide +kernel
theorem dX12_gives_45 : decode cX12_gives 45 = .ok (.iload 5, 2) := by decide +kernel
theorem dX12_gives_47 : decode cX12_gives 47 = .ok (.iadd, 1) := by decide +kernel
theorem dX12_gives_48 : decode cX12_gives 48 = .ok (.dup2, 1) := by decide +kernel
theorem dX12_gives_49 : decode cX12_gives 49 = .ok (.iaload, 1) := by decide +kernel
theorem dX12_gives_50 : decode cX12_gives 50 = .ok (.iload 6, 2) := by decide +kernel
theorem dX12_gives_52 : decode cX12_gives 52 = .ok (.iadd, 1) := by decide +kernel
theorem dX12_gives_53 : decode cX12_gives 53 = .ok (.iastore, 1) := by decide +kernel
theorem dX12_gives_54 : decode cX12_gives 54 = .ok (.aload_n 0, 1) := by decide +kernel
theorem dX12_gives_55 : decode cX12_gives 55 = .ok (.getfield 91, 3) := by decide +kernel
theorem dX12_gives_58 : decode cX12_gives 58 = .ok (.bipush 48, 2) := by decide +kernel
theorem dX12_gives_60 : decode cX12_gives 60 = .ok (.iload 7, 2) := by decide +kernel
theorem dX12_gives_62 : decode cX12_gives 62 = .ok (.imul, 1) := by decide +kernel
theorem dX12_gives_63 : decode cX12_gives 63 = .ok (.bipush 16, 2) := by decide +kernel
theorem dX12_gives_65 : decode cX12_gives 65 = .ok (.iload_n 2, 1) := by decide +kernel
theorem dX12_gives_66 : decode cX12_gives 66 = .ok (.imul, 1) := by decide +kernel
theorem dX12_gives_67 : decode cX12_gives 67 = .ok (.iadd, 1) := by decide +kernel
theorem dX12_gives_68 : decode cX12_gives 68 = .ok (.iload 5, 2) := by decide +kernel
theorem dX12_gives_70 : decode cX12_gives 70 = .ok (.iadd, 1) := by decide +kernel
theorem dX12_gives_71 : decode cX12_gives 71 = .ok (.dup2, 1) := by decide +kernel
theorem dX12_gives_72 : decode cX12_gives 72 = .ok (.iaload, 1) := by decide +kernel
theorem dX12_gives_73 : decode cX12_gives 73 = .ok (.iload 6, 2) := by decide +kernel
theorem dX12_gives_75 : decode cX12_gives 75 = .ok (.iadd, 1) := by decide +kernel
theorem dX12_gives_76 : decode cX12_gives 76 = .ok (.iastore, 1) := by decide +kernel
theorem dX12_gives_77 : decode cX12_gives 77 = .ok (.aload_n 0, 1) := by decide +kernel
theorem dX12_gives_78 : decode cX12_gives 78 = .ok (.getfield 94, 3) := by decide +kernel
theorem dX12_gives_81 : decode cX12_gives 81 = .ok (.bipush 32, 2) := by decide +kernel
theorem dX12_gives_83 : decode cX12_gives 83 = .ok (.iload 7, 2) := by decide +kernel
theorem dX12_gives_85 : decode cX12_gives 85 = .ok (.imul, 1) := by decide +kernel
theorem dX12_gives_86 : decode cX12_gives 86 = .ok (.bipush 16, 2) := by decide +kernel
theorem dX12_gives_88 : decode cX12_gives 88 = .ok (.iload_n 3, 1) := by decide +kernel
theorem dX12_gives_89 : decode cX12_gives 89 = .ok (.imul, 1) := by decide +kernel
theorem dX12_gives_90 : decode cX12_gives 90 = .ok (.iadd, 1) := by decide +kernel
theorem dX12_gives_91 : decode cX12_gives 91 = .ok (.iload 5, 2) := by decide +kernel
theorem dX12_gives_93 : decode cX12_gives 93 = .ok (.iadd, 1) := by decide +kernel
theorem dX12_gives_94 : decode cX12_gives 94 = .ok (.dup2, 1) := by decide +kernel
theorem dX12_gives_95 : decode cX12_gives 95 = .ok (.iaload, 1) := by decide +kernel
theorem dX12_gives_96 : decode cX12_gives 96 = .ok (.iload 6, 2) := by decide +kernel
theorem dX12_gives_98 : decode cX12_gives 98 = .ok (.iadd, 1) := by decide +kernel
theorem dX12_gives_99 : decode cX12_gives 99 = .ok (.iastore, 1) := by decide +kernel
theorem dX12_gives_100 : decode cX12_gives 100 = .ok (.aload_n 0, 1) := by decide +kernel
theorem dX12_gives_101 : decode cX12_gives 101 = .ok (.getfield 97, 3) := by decide +kernel
theorem dX12_gives_104 : decode cX12_gives 104 = .ok (.bipush 32, 2) := by decide +kernel
theorem dX12_gives_106 : decode cX12_gives 106 = .ok (.iload 7, 2) := by decide +kernel
theorem dX12_gives_108 : decode cX12_gives 108 = .ok (.imul, 1) := by decide +kernel
theorem dX12_gives_109 : decode cX12_gives 109 = .ok (.bipush 16, 2) := by decide +kernel
theorem dX12_gives_111 : decode cX12_gives 111 = .ok (.iload 4, 2) := by decide +kernel
theorem dX12_gives_113 : decode cX12_gives 113 = .ok (.imul, 1) := by decide +kernel
theorem dX12_gives_114 : decode cX12_gives 114 = .ok (.iadd, 1) := by decide +kernel
theorem dX12_gives_115 : decode cX12_gives 115 = .ok (.iload 5, 2) := by decide +kernel
theorem dX12_gives_117 : decode cX12_gives 117 = .ok (.iadd, 1) := by decide +kernel
theorem dX12_gives_118 : decode cX12_gives 118 = .ok (.dup2, 1) := by decide +kernel
theorem dX12_gives_119 : decode cX12_gives 119 = .ok (.iaload, 1) := by decide +kernel
theorem dX12_gives_120 : decode cX12_gives 120 = .ok (.iload 6, 2) := by decide +kernel
theorem dX12_gives_122 : decode cX12_gives 122 = .ok (.iadd, 1) := by decide +kernel
theorem dX12_gives_123 : decode cX12_gives 123 = .ok (.iastore, 1) := by decide +kernel
theorem dX12_gives_124 : decode cX12_gives 124 = .ok (.return_, 1) := by decide +kernel
theorem dX12_clears_0 : decode cX12_clears 0 = .ok (.iconst 0, 1) := by decide +kernel
theorem dX12_clears_1 : decode cX12_clears 1 = .ok (.istore_n 1, 1) := by decide +kernel
theorem dX12_clears_2 : decode cX12_clears 2 = .ok (.iload_n 1, 1) := by decide +kernel
theorem dX12_clears_3 : decode cX12_clears 3 = .ok (.sipush 19392, 3) := by decide +kernel
theorem dX12_clears_6 : decode cX12_clears 6 = .ok (.if_icmp .ge 16, 3) := by decide +kernel
theorem dX12_clears_9 : decode cX12_clears 9 = .ok (.aload_n 0, 1) := by decide +kernel
theorem dX12_clears_10 : decode cX12_clears 10 = .ok (.getfield 85, 3) := by decide +kernel
theorem dX12_clears_13 : decode cX12_clears 13 = .ok (.iload_n 1, 1) := by decide +kernel
theorem dX12_clears_14 : decode cX12_clears 14 = .ok (.iconst 0, 1) := by decide +kernel
theorem dX12_clears_15 : decode cX12_clears 15 = .ok (.iastore, 1) := by decide +kernel
theorem dX12_clears_16 : decode cX12_clears 16 = .ok (.iinc 1 1, 3) := by decide +kernel
theorem dX12_clears_19 : decode cX12_clears 19 = .ok (.goto (-17), 3) := by decide +kernel
theorem dX12_clears_22 : decode cX12_clears 22 = .ok (.iconst 0, 1) := by decide +kernel
theorem dX12_clears_23 : decode cX12_clears 23 = .ok (.istore_n 1, 1) := by decide +kernel
theorem dX12_clears_24 : decode cX12_clears 24 = .ok (.iload_n 1, 1) := by decide +kernel
theorem dX12_clears_25 : decode cX12_clears 25 = .ok (.sipush 1616, 3) := by decide +kernel
theorem dX12_clears_28 : decode cX12_clears 28 = .ok (.if_icmp .ge 16, 3) := by decide +kernel
theorem dX12_clears_31 : decode cX12_clears 31 = .ok (.aload_n 0, 1) := by decide +kernel
theorem dX12_clears_32 : decode cX12_clears 32 = .ok (.getfield 88, 3) := by decide +kernel
theorem dX12_clears_35 : decode cX12_clears 35 = .ok (.iload_n 1, 1) := by decide +kernel
theorem dX12_clears_36 : decode cX12_clears 36 = .ok (.iconst 0, 1) := by decide +kernel
theorem dX12_clears_37 : decode cX12_clears 37 = .ok (.iastore, 1) := by decide +kernel
theorem dX12_clears_38 : decode cX12_clears 38 = .ok (.iinc 1 1, 3) := by decide +kernel
theorem dX12_clears_41 : decode cX12_clears 41 = .ok (.goto (-17), 3) := by decide +kernel
theorem dX12_clears_44 : decode cX12_clears 44 = .ok (.iconst 0, 1) := by decide +kernel
theorem dX12_clears_45 : decode cX12_clears 45 = .ok (.istore_n 1, 1) := by decide +kernel
theorem dX12_clears_46 : decode cX12_clears 46 = .ok (.iload_n 1, 1) := by decide +kernel
theorem dX12_clears_47 : decode cX12_clears 47 = .ok (.sipush 4848, 3) := by decide +kernel
theorem dX12_clears_50 : decode cX12_clears 50 = .ok (.if_icmp .ge 16, 3) := by decide +kernel
theorem dX12_clears_53 : decode cX12_clears 53 = .ok (.aload_n 0, 1) := by decide +kernel
theorem dX12_clears_54 : decode cX12_clears 54 = .ok (.getfield 91, 3) := by decide +kernel
theorem dX12_clears_57 : decode cX12_clears 57 = .ok (.iload_n 1, 1) := by decide +kernel
theorem dX12_clears_58 : decode cX12_clears 58 = .ok (.iconst 0, 1) := by decide +kernel
theorem dX12_clears_59 : decode cX12_clears 59 = .ok (.iastore, 1) := by decide +kernel
theorem dX12_clears_60 : decode cX12_clears 60 = .ok (.iinc 1 1, 3) := by decide +kernel
theorem dX12_clears_63 : decode cX12_clears 63 = .ok (.goto (-17), 3) := by decide +kernel
theorem dX12_clears_66 : decode cX12_clears 66 = .ok (.iconst 0, 1) := by decide +kernel
theorem dX12_clears_67 : decode cX12_clears 67 = .ok (.istore_n 1, 1) := by decide +kernel
theorem dX12_clears_68 : decode cX12_clears 68 = .ok (.iload_n 1, 1) := by decide +kernel
theorem dX12_clears_69 : decode cX12_clears 69 = .ok (.sipush 3232, 3) := by decide +kernel
theorem dX12_clears_72 : decode cX12_clears 72 = .ok (.if_icmp .ge 23, 3) := by decide +kernel
theorem dX12_clears_75 : decode cX12_clears 75 = .ok (.aload_n 0, 1) := by decide +kernel
theorem dX12_clears_76 : decode cX12_clears 76 = .ok (.getfield 94, 3) := by decide +kernel
theorem dX12_clears_79 : decode cX12_clears 79 = .ok (.iload_n 1, 1) := by decide +kernel
theorem dX12_clears_80 : decode cX12_clears 80 = .ok (.iconst 0, 1) := by decide +kernel
theorem dX12_clears_81 : decode cX12_clears 81 = .ok (.iastore, 1) := by decide +kernel
theorem dX12_clears_82 : decode cX12_clears 82 = .ok (.aload_n 0, 1) := by decide +kernel
theorem dX12_clears_83 : decode cX12_clears 83 = .ok (.getfield 97, 3) := by decide +kernel
theorem dX12_clears_86 : decode cX12_clears 86 = .ok (.iload_n 1, 1) := by decide +kernel
theorem dX12_clears_87 : decode cX12_clears 87 = .ok (.iconst 0, 1) := by decide +kernel
theorem dX12_clears_88 : decode cX12_clears 88 = .ok (.iastore, 1) := by decide +kernel
theorem dX12_clears_89 : decode cX12_clears 89 = .ok (.iinc 1 1, 3) := by decide +kernel
theorem dX12_clears_92 : decode cX12_clears 92 = .ok (.goto (-24), 3) := by decide +kernel
theorem dX12_clears_95 : decode cX12_clears 95 = .ok (.iconst 0, 1) := by decide +kernel
theorem dX12_clears_96 : decode cX12_clears 96 = .ok (.istore_n 1, 1) := by decide +kernel
theorem dX12_clears_97 : decode cX12_clears 97 = .ok (.iload_n 1, 1) := by decide +kernel
theorem dX12_clears_98 : decode cX12_clears 98 = .ok (.bipush 61, 2) := by decide +kernel
theorem dX12_clears_100 : decode cX12_clears 100 = .ok (.if_icmp .ge 16, 3) := by decide +kernel
theorem dX12_clears_103 : decode cX12_clears 103 = .ok (.aload_n 0, 1) := by decide +kernel
theorem dX12_clears_104 : decode cX12_clears 104 = .ok (.getfield 100, 3) := by decide +kernel
theorem dX12_clears_107 : decode cX12_clears 107 = .ok (.iload_n 1, 1) := by decide +kernel
theorem dX12_clears_108 : decode cX12_clears 108 = .ok (.iconst 0, 1) := by decide +kernel
theorem dX12_clears_109 : decode cX12_clears 109 = .ok (.iastore, 1) := by decide +kernel
theorem dX12_clears_110 : decode cX12_clears 110 = .ok (.iinc 1 1, 3) := by decide +kernel
theorem dX12_clears_113 : decode cX12_clears 113 = .ok (.goto (-16), 3) := by decide +kernel
theorem dX12_clears_116 : decode cX12_clears 116 = .ok (.return_, 1) := by decide +kernel
theorem dX12_all_0 : decode cX12_all 0 = .ok (.iload_n 1, 1) := by decide +kernel
theorem dX12_all_1 : decode cX12_all 1 = .ok (.bipush (-40), 2) := by decide +kernel
theorem dX12_all_3 : decode cX12_all 3 = .ok (.if_icmp .ge 7, 3) := by decide +kernel
theorem dX12_all_6 : decode cX12_all 6 = .ok (.iconst 0, 1) := by decide +kernel
theorem dX12_all_7 : decode cX12_all 7 = .ok (.goto 17, 3) := by decide +kernel
theorem dX12_all_10 : decode cX12_all 10 = .ok (.aload_n 0, 1) := by decide +kernel
theorem dX12_all_11 : decode cX12_all 11 = .ok (.getfield 88, 3) := by decide +kernel
theorem dX12_all_14 : decode cX12_all 14 = .ok (.bipush 16, 2) := by decide +kernel
theorem dX12_all_16 : decode cX12_all 16 = .ok (.iload_n 1, 1) := by decide +kernel
theorem dX12_all_17 : decode cX12_all 17 = .ok (.bipush 40, 2) := by decide +kernel
theorem dX12_all_19 : decode cX12_all 19 = .ok (.iadd, 1) := by decide +kernel
theorem dX12_all_20 : decode cX12_all 20 = .ok (.imul, 1) := by decide +kernel
theorem dX12_all_21 : decode cX12_all 21 = .ok (.iload_n 2, 1) := by decide +kernel
theorem dX12_all_22 : decode cX12_all 22 = .ok (.iadd, 1) := by decide +kernel
theorem dX12_all_23 : decode cX12_all 23 = .ok (.iaload, 1) := by decide +kernel
theorem dX12_all_24 : decode cX12_all 24 = .ok (.ireturn, 1) := by decide +kernel
theorem dX12_allOf_0 : decode cX12_allOf 0 = .ok (.iconst 0, 1) := by decide +kernel
theorem dX12_allOf_1 : decode cX12_allOf 1 = .ok (.istore_n 2, 1) := by decide +kernel
theorem dX12_allOf_2 : decode cX12_allOf 2 = .ok (.iconst 0, 1) := by decide +kernel
theorem dX12_allOf_3 : decode cX12_allOf 3 = .ok (.istore_n 3, 1) := by decide +kernel
theorem dX12_allOf_4 : decode cX12_allOf 4 = .ok (.iload_n 3, 1) := by decide +kernel
theorem dX12_allOf_5 : decode cX12_allOf 5 = .ok (.aload_n 0, 1) := by decide +kernel
theorem dX12_allOf_6 : decode cX12_allOf 6 = .ok (.getfield 7, 3) := by decide +kernel
theorem dX12_allOf_9 : decode cX12_allOf 9 = .ok (.iconst 1, 1) := by decide +kernel
theorem dX12_allOf_10 : decode cX12_allOf 10 = .ok (.iaload, 1) := by decide +kernel
theorem dX12_allOf_11 : decode cX12_allOf 11 = .ok (.if_icmp .ge 18, 3) := by decide +kernel
theorem dX12_allOf_14 : decode cX12_allOf 14 = .ok (.iload_n 2, 1) := by decide +kernel
theorem dX12_allOf_15 : decode cX12_allOf 15 = .ok (.aload_n 0, 1) := by decide +kernel
theorem dX12_allOf_16 : decode cX12_allOf 16 = .ok (.iload_n 1, 1) := by decide +kernel
theorem dX12_allOf_17 : decode cX12_allOf 17 = .ok (.iload_n 3, 1) := by decide +kernel
theorem dX12_allOf_18 : decode cX12_allOf 18 = .ok (.invokevirtual 407, 3) := by decide +kernel
theorem dX12_allOf_21 : decode cX12_allOf 21 = .ok (.iadd, 1) := by decide +kernel
theorem dX12_allOf_22 : decode cX12_allOf 22 = .ok (.istore_n 2, 1) := by decide +kernel
theorem dX12_allOf_23 : decode cX12_allOf 23 = .ok (.iinc 3 1, 3) := by decide +kernel
theorem dX12_allOf_26 : decode cX12_allOf 26 = .ok (.goto (-22), 3) := by decide +kernel
theorem dX12_allOf_29 : decode cX12_allOf 29 = .ok (.iload_n 2, 1) := by decide +kernel
theorem dX12_allOf_30 : decode cX12_allOf 30 = .ok (.ireturn, 1) := by decide +kernel
theorem dX12_living_0 : decode cX12_living 0 = .ok (.iconst 0, 1) := by decide +kernel
theorem dX12_living_1 : decode cX12_living 1 = .ok (.istore_n 3, 1) := by decide +kernel
theorem dX12_living_2 : decode cX12_living 2 = .ok (.bipush (-40), 2) := by decide +kernel
theorem dX12_living_4 : decode cX12_living 4 = .ok (.iload_n 2, 1) := by decide +kernel
theorem dX12_living_5 : decode cX12_living 5 = .ok (.aload_n 0, 1) := by decide +kernel
theorem dX12_living_6 : decode cX12_living 6 = .ok (.getfield 7, 3) := by decide +kernel
theorem dX12_living_9 : decode cX12_living 9 = .ok (.bipush 6, 2) := by decide +kernel
theorem dX12_living_11 : decode cX12_living 11 = .ok (.iaload, 1) := by decide +kernel
theorem dX12_living_12 : decode cX12_living 12 = .ok (.isub, 1) := by decide +kernel
theorem dX12_living_13 : decode cX12_living 13 = .ok (.iconst 1, 1) := by decide +kernel
theorem dX12_living_14 : decode cX12_living 14 = .ok (.iadd, 1) := by decide +kernel
theorem dX12_living_15 : decode cX12_living 15 = .ok (.invokestatic 410, 3) := by decide +kernel
theorem dX12_living_18 : decode cX12_living 18 = .ok (.istore 4, 2) := by decide +kernel
theorem dX12_living_20 : decode cX12_living 20 = .ok (.iload 4, 2) := by decide +kernel
theorem dX12_living_22 : decode cX12_living 22 = .ok (.iload_n 2, 1) := by decide +kernel
theorem dX12_living_23 : decode cX12_living 23 = .ok (.if_icmp .gt 19, 3) := by decide +kernel
theorem dX12_living_26 : decode cX12_living 26 = .ok (.iload_n 3, 1) := by decide +kernel
theorem dX12_living_27 : decode cX12_living 27 = .ok (.aload_n 0, 1) := by decide +kernel
theorem dX12_living_28 : decode cX12_living 28 = .ok (.iload 4, 2) := by decide +kernel
theorem dX12_living_30 : decode cX12_living 30 = .ok (.iload_n 1, 1) := by decide +kernel
theorem dX12_living_31 : decode cX12_living 31 = .ok (.invokevirtual 407, 3) := by decide +kernel
theorem dX12_living_34 : decode cX12_living 34 = .ok (.iadd, 1) := by decide +kernel
theorem dX12_living_35 : decode cX12_living 35 = .ok (.istore_n 3, 1) := by decide +kernel
theorem dX12_living_36 : decode cX12_living 36 = .ok (.iinc 4 1, 3) := by decide +kernel
theorem dX12_living_39 : decode cX12_living 39 = .ok (.goto (-19), 3) := by decide +kernel
theorem dX12_living_42 : decode cX12_living 42 = .ok (.iload_n 3, 1) := by decide +kernel
theorem dX12_living_43 : decode cX12_living 43 = .ok (.ireturn, 1) := by decide +kernel
theorem dX12_runs_0 : decode cX12_runs 0 = .ok (.aload_n 0, 1) := by decide +kernel
theorem dX12_runs_1 : decode cX12_runs 1 = .ok (.invokevirtual 413, 3) := by decide +kernel
theorem dX12_runs_4 : decode cX12_runs 4 = .ok (.iconst 1, 1) := by decide +kernel
theorem dX12_runs_5 : decode cX12_runs 5 = .ok (.istore 5, 2) := by decide +kernel
theorem dX12_runs_7 : decode cX12_runs 7 = .ok (.iload 5, 2) := by decide +kernel
theorem dX12_runs_9 : decode cX12_runs 9 = .ok (.bipush 40, 2) := by decide +kernel
theorem dX12_runs_11 : decode cX12_runs 11 = .ok (.if_icmp .gt 94, 3) := by decide +kernel
theorem dX12_runs_14 : decode cX12_runs 14 = .ok (.iconst 0, 1) := by decide +kernel
theorem dX12_runs_15 : decode cX12_runs 15 = .ok (.istore 6, 2) := by decide +kernel
theorem dX12_runs_17 : decode cX12_runs 17 = .ok (.iload 6, 2) := by decide +kernel
theorem dX12_runs_19 : decode cX12_runs 19 = .ok (.bipush 12, 2) := by decide +kernel
theorem dX12_runs_21 : decode cX12_runs 21 = .ok (.if_icmp .ge 78, 3) := by decide +kernel
theorem dX12_runs_24 : decode cX12_runs 24 = .ok (.iconst 0, 1) := by decide +kernel
theorem dX12_runs_25 : decode cX12_runs 25 = .ok (.istore 7, 2) := by decide +kernel
theorem dX12_runs_27 : decode cX12_runs 27 = .ok (.iload 7, 2) := by decide +kernel
theorem dX12_runs_29 : decode cX12_runs 29 = .ok (.aload_n 0, 1) := by decide +kernel
theorem dX12_runs_30 : decode cX12_runs 30 = .ok (.getfield 7, 3) := by decide +kernel
theorem dX12_runs_33 : decode cX12_runs 33 = .ok (.iconst 1, 1) := by decide +kernel
theorem dX12_runs_34 : decode cX12_runs 34 = .ok (.iaload, 1) := by decide +kernel
theorem dX12_runs_35 : decode cX12_runs 35 = .ok (.if_icmp .ge 58, 3) := by decide +kernel
theorem dX12_runs_38 : decode cX12_runs 38 = .ok (.aload_n 0, 1) := by decide +kernel
theorem dX12_runs_39 : decode cX12_runs 39 = .ok (.iload 5, 2) := by decide +kernel
theorem dX12_runs_41 : decode cX12_runs 41 = .ok (.ineg, 1) := by decide +kernel
theorem dX12_runs_42 : decode cX12_runs 42 = .ok (.iload 6, 2) := by decide +kernel
theorem dX12_runs_44 : decode cX12_runs 44 = .ok (.iconst 4, 1) := by decide +kernel
theorem dX12_runs_45 : decode cX12_runs 45 = .ok (.idiv, 1) := by decide +kernel
theorem dX12_runs_46 : decode cX12_runs 46 = .ok (.iload 6, 2) := by decide +kernel
theorem dX12_runs_48 : decode cX12_runs 48 = .ok (.iconst 2, 1) := by decide +kernel
theorem dX12_runs_49 : decode cX12_runs 49 = .ok (.idiv, 1) := by decide +kernel
theorem dX12_runs_50 : decode cX12_runs 50 = .ok (.iconst 2, 1) := by decide +kernel
theorem dX12_runs_51 : decode cX12_runs 51 = .ok (.irem, 1) := by decide +kernel
theorem dX12_runs_52 : decode cX12_runs 52 = .ok (.iload 6, 2) := by decide +kernel
theorem dX12_runs_54 : decode cX12_runs 54 = .ok (.iconst 2, 1) := by decide +kernel
theorem dX12_runs_55 : decode cX12_runs 55 = .ok (.irem, 1) := by decide +kernel
theorem dX12_runs_56 : decode cX12_runs 56 = .ok (.iload 7, 2) := by decide +kernel
theorem dX12_runs_58 : decode cX12_runs 58 = .ok (.aload_n 0, 1) := by decide +kernel
theorem dX12_runs_59 : decode cX12_runs 59 = .ok (.getfield 7, 3) := by decide +kernel
theorem dX12_runs_62 : decode cX12_runs 62 = .ok (.sipush 2000, 3) := by decide +kernel
theorem dX12_runs_65 : decode cX12_runs 65 = .ok (.iload 5, 2) := by decide +kernel
theorem dX12_runs_67 : decode cX12_runs 67 = .ok (.iconst 1, 1) := by decide +kernel
theorem dX12_runs_68 : decode cX12_runs 68 = .ok (.isub, 1) := by decide +kernel
theorem dX12_runs_69 : decode cX12_runs 69 = .ok (.sipush 192, 3) := by decide +kernel
theorem dX12_runs_72 : decode cX12_runs 72 = .ok (.imul, 1) := by decide +kernel
theorem dX12_runs_73 : decode cX12_runs 73 = .ok (.iadd, 1) := by decide +kernel
theorem dX12_runs_74 : decode cX12_runs 74 = .ok (.iload 6, 2) := by decide +kernel
theorem dX12_runs_76 : decode cX12_runs 76 = .ok (.bipush 16, 2) := by decide +kernel
theorem dX12_runs_78 : decode cX12_runs 78 = .ok (.imul, 1) := by decide +kernel
theorem dX12_runs_79 : decode cX12_runs 79 = .ok (.iadd, 1) := by decide +kernel
theorem dX12_runs_80 : decode cX12_runs 80 = .ok (.iload 7, 2) := by decide +kernel
theorem dX12_runs_82 : decode cX12_runs 82 = .ok (.iadd, 1) := by decide +kernel
theorem dX12_runs_83 : decode cX12_runs 83 = .ok (.iaload, 1) := by decide +kernel
theorem dX12_runs_84 : decode cX12_runs 84 = .ok (.invokevirtual 416, 3) := by decide +kernel
theorem dX12_runs_87 : decode cX12_runs 87 = .ok (.iinc 7 1, 3) := by decide +kernel
theorem dX12_runs_90 : decode cX12_runs 90 = .ok (.goto (-63), 3) := by decide +kernel
theorem dX12_runs_93 : decode cX12_runs 93 = .ok (.iinc 6 1, 3) := by decide +kernel
theorem dX12_runs_96 : decode cX12_runs 96 = .ok (.goto (-79), 3) := by decide +kernel
theorem dX12_runs_99 : decode cX12_runs 99 = .ok (.iinc 5 1, 3) := by decide +kernel
theorem dX12_runs_102 : decode cX12_runs 102 = .ok (.goto (-95), 3) := by decide +kernel
theorem dX12_runs_105 : decode cX12_runs 105 = .ok (.iconst 0, 1) := by decide +kernel
theorem dX12_runs_106 : decode cX12_runs 106 = .ok (.istore 5, 2) := by decide +kernel
theorem dX12_runs_108 : decode cX12_runs 108 = .ok (.iload 5, 2) := by decide +kernel
theorem dX12_runs_110 : decode cX12_runs 110 = .ok (.iload_n 1, 1) := by decide +kernel
theorem dX12_runs_111 : decode cX12_runs 111 = .ok (.if_icmp .ge 195, 3) := by decide +kernel
theorem dX12_runs_114 : decode cX12_runs 114 = .ok (.iload 5, 2) := by decide +kernel
theorem dX12_runs_116 : decode cX12_runs 116 = .ok (.aload_n 0, 1) := by decide +kernel
theorem dX12_runs_117 : decode cX12_runs 117 = .ok (.getfield 7, 3) := by decide +kernel
theorem dX12_runs_120 : decode cX12_runs 120 = .ok (.iconst 0, 1) := by decide +kernel
theorem dX12_runs_121 : decode cX12_runs 121 = .ok (.iaload, 1) := by decide +kernel
theorem dX12_runs_122 : decode cX12_runs 122 = .ok (.if_icmp .ge 7, 3) := by decide +kernel
theorem dX12_runs_125 : decode cX12_runs 125 = .ok (.iconst 1, 1) := by decide +kernel
theorem dX12_runs_126 : decode cX12_runs 126 = .ok (.goto 4, 3) := by decide +kernel
theorem dX12_runs_129 : decode cX12_runs 129 = .ok (.iconst 0, 1) := by decide +kernel
theorem dX12_runs_130 : decode cX12_runs 130 = .ok (.istore 6, 2) := by decide +kernel
theorem dX12_runs_132 : decode cX12_runs 132 = .ok (.iconst 0, 1) := by decide +kernel
theorem dX12_runs_133 : decode cX12_runs 133 = .ok (.istore 7, 2) := by decide +kernel
theorem dX12_runs_135 : decode cX12_runs 135 = .ok (.iload 7, 2) := by decide +kernel
theorem dX12_runs_137 : decode cX12_runs 137 = .ok (.iconst 2, 1) := by decide +kernel
theorem dX12_runs_138 : decode cX12_runs 138 = .ok (.if_icmp .ge 65, 3) := by decide +kernel
theorem dX12_runs_141 : decode cX12_runs 141 = .ok (.aload_n 0, 1) := by decide +kernel
theorem dX12_runs_142 : decode cX12_runs 142 = .ok (.getfield 103, 3) := by decide +kernel
theorem dX12_runs_145 : decode cX12_runs 145 = .ok (.iload 7, 2) := by decide +kernel
theorem dX12_runs_147 : decode cX12_runs 147 = .ok (.iload 4, 2) := by decide +kernel
theorem dX12_runs_149 : decode cX12_runs 149 = .ok (.iconst (-1), 1) := by decide +kernel
theorem dX12_runs_150 : decode cX12_runs 150 = .ok (.if_icmp .eq 8, 3) := by decide +kernel
theorem dX12_runs_153 : decode cX12_runs 153 = .ok (.iload 4, 2) := by decide +kernel
theorem dX12_runs_155 : decode cX12_runs 155 = .ok (.goto 41, 3) := by decide +kernel
theorem dX12_runs_158 : decode cX12_runs 158 = .ok (.iload 6, 2) := by decide +kernel
theorem dX12_runs_160 : decode cX12_runs 160 = .ok (.ifCond .eq 26, 3) := by decide +kernel
theorem dX12_runs_163 : decode cX12_runs 163 = .ok (.aload_n 0, 1) := by decide +kernel
theorem dX12_runs_164 : decode cX12_runs 164 = .ok (.getfield 7, 3) := by decide +kernel
theorem dX12_runs_167 : decode cX12_runs 167 = .ok (.sipush 1000, 3) := by decide +kernel
theorem dX12_runs_170 : decode cX12_runs 170 = .ok (.bipush 14, 2) := by decide +kernel
theorem dX12_runs_172 : decode cX12_runs 172 = .ok (.iload 5, 2) := by decide +kernel
theorem dX12_runs_174 : decode cX12_runs 174 = .ok (.imul, 1) := by decide +kernel
theorem dX12_runs_175 : decode cX12_runs 175 = .ok (.iadd, 1) := by decide +kernel
theorem dX12_runs_176 : decode cX12_runs 176 = .ok (.bipush 12, 2) := by decide +kernel
theorem dX12_runs_178 : decode cX12_runs 178 = .ok (.iadd, 1) := by decide +kernel
theorem dX12_runs_179 : decode cX12_runs 179 = .ok (.iload 7, 2) := by decide +kernel
theorem dX12_runs_181 : decode cX12_runs 181 = .ok (.iadd, 1) := by decide +kernel
theorem dX12_runs_182 : decode cX12_runs 182 = .ok (.iaload, 1) := by decide +kernel
theorem dX12_runs_183 : decode cX12_runs 183 = .ok (.goto 13, 3) := by decide +kernel
theorem dX12_runs_186 : decode cX12_runs 186 = .ok (.aload_n 0, 1) := by decide +kernel
theorem dX12_runs_187 : decode cX12_runs 187 = .ok (.getfield 7, 3) := by decide +kernel
theorem dX12_runs_190 : decode cX12_runs 190 = .ok (.bipush 7, 2) := by decide +kernel
theorem dX12_runs_192 : decode cX12_runs 192 = .ok (.iload 7, 2) := by decide +kernel
theorem dX12_runs_194 : decode cX12_runs 194 = .ok (.iadd, 1) := by decide +kernel
theorem dX12_runs_195 : decode cX12_runs 195 = .ok (.iaload, 1) := by decide +kernel
theorem dX12_runs_196 : decode cX12_runs 196 = .ok (.iastore, 1) := by decide +kernel
theorem dX12_runs_197 : decode cX12_runs 197 = .ok (.iinc 7 1, 3) := by decide +kernel
theorem dX12_runs_200 : decode cX12_runs 200 = .ok (.goto (-65), 3) := by decide +kernel
theorem dX12_runs_203 : decode cX12_runs 203 = .ok (.aload_n 0, 1) := by decide +kernel
theorem dX12_runs_204 : decode cX12_runs 204 = .ok (.iload 5, 2) := by decide +kernel
theorem dX12_runs_206 : decode cX12_runs 206 = .ok (.iload_n 2, 1) := by decide +kernel
theorem dX12_runs_207 : decode cX12_runs 207 = .ok (.iload_n 3, 1) := by decide +kernel
theorem dX12_runs_208 : decode cX12_runs 208 = .ok (.invokevirtual 420, 3) := by decide +kernel
theorem dX12_runs_211 : decode cX12_runs 211 = .ok (.iconst 0, 1) := by decide +kernel
theorem dX12_runs_212 : decode cX12_runs 212 = .ok (.istore 7, 2) := by decide +kernel
theorem dX12_runs_214 : decode cX12_runs 214 = .ok (.iload 7, 2) := by decide +kernel
theorem dX12_runs_216 : decode cX12_runs 216 = .ok (.bipush 12, 2) := by decide +kernel
theorem dX12_runs_218 : decode cX12_runs 218 = .ok (.if_icmp .ge 82, 3) := by decide +kernel
theorem dX12_runs_221 : decode cX12_runs 221 = .ok (.iload 6, 2) := by decide +kernel
theorem dX12_runs_223 : decode cX12_runs 223 = .ok (.ifCond .eq 23, 3) := by decide +kernel
theorem dX12_runs_226 : decode cX12_runs 226 = .ok (.aload_n 0, 1) := by decide +kernel
theorem dX12_runs_227 : decode cX12_runs 227 = .ok (.getfield 7, 3) := by decide +kernel
theorem dX12_runs_230 : decode cX12_runs 230 = .ok (.sipush 1000, 3) := by decide +kernel
theorem dX12_runs_233 : decode cX12_runs 233 = .ok (.bipush 14, 2) := by decide +kernel
theorem dX12_runs_235 : decode cX12_runs 235 = .ok (.iload 5, 2) := by decide +kernel
theorem dX12_runs_237 : decode cX12_runs 237 = .ok (.imul, 1) := by decide +kernel
theorem dX12_runs_238 : decode cX12_runs 238 = .ok (.iadd, 1) := by decide +kernel
theorem dX12_runs_239 : decode cX12_runs 239 = .ok (.iload 7, 2) := by decide +kernel
theorem dX12_runs_241 : decode cX12_runs 241 = .ok (.iadd, 1) := by decide +kernel
theorem dX12_runs_242 : decode cX12_runs 242 = .ok (.iaload, 1) := by decide +kernel
theorem dX12_runs_243 : decode cX12_runs 243 = .ok (.goto 13, 3) := by decide +kernel
theorem dX12_runs_246 : decode cX12_runs 246 = .ok (.aload_n 0, 1) := by decide +kernel
theorem dX12_runs_247 : decode cX12_runs 247 = .ok (.getfield 7, 3) := by decide +kernel
theorem dX12_runs_250 : decode cX12_runs 250 = .ok (.bipush 10, 2) := by decide +kernel
theorem dX12_runs_252 : decode cX12_runs 252 = .ok (.iload 7, 2) := by decide +kernel
theorem dX12_runs_254 : decode cX12_runs 254 = .ok (.iadd, 1) := by decide +kernel
theorem dX12_runs_255 : decode cX12_runs 255 = .ok (.iaload, 1) := by decide +kernel
theorem dX12_runs_256 : decode cX12_runs 256 = .ok (.istore 8, 2) := by decide +kernel
theorem dX12_runs_258 : decode cX12_runs 258 = .ok (.iconst 0, 1) := by decide +kernel
theorem dX12_runs_259 : decode cX12_runs 259 = .ok (.istore 9, 2) := by decide +kernel
theorem dX12_runs_261 : decode cX12_runs 261 = .ok (.iload 9, 2) := by decide +kernel
theorem dX12_runs_263 : decode cX12_runs 263 = .ok (.iload 8, 2) := by decide +kernel
theorem dX12_runs_265 : decode cX12_runs 265 = .ok (.if_icmp .ge 29, 3) := by decide +kernel
theorem dX12_runs_268 : decode cX12_runs 268 = .ok (.aload_n 0, 1) := by decide +kernel
theorem dX12_runs_269 : decode cX12_runs 269 = .ok (.iload 5, 2) := by decide +kernel
theorem dX12_runs_271 : decode cX12_runs 271 = .ok (.iload 7, 2) := by decide +kernel
theorem dX12_runs_273 : decode cX12_runs 273 = .ok (.iconst 4, 1) := by decide +kernel
theorem dX12_runs_274 : decode cX12_runs 274 = .ok (.idiv, 1) := by decide +kernel
theorem dX12_runs_275 : decode cX12_runs 275 = .ok (.iload 7, 2) := by decide +kernel
theorem dX12_runs_277 : decode cX12_runs 277 = .ok (.iconst 2, 1) := by decide +kernel
theorem dX12_runs_278 : decode cX12_runs 278 = .ok (.idiv, 1) := by decide +kernel
theorem dX12_runs_279 : decode cX12_runs 279 = .ok (.iconst 2, 1) := by decide +kernel
theorem dX12_runs_280 : decode cX12_runs 280 = .ok (.irem, 1) := by decide +kernel
theorem dX12_runs_281 : decode cX12_runs 281 = .ok (.iload 7, 2) := by decide +kernel
theorem dX12_runs_283 : decode cX12_runs 283 = .ok (.iconst 2, 1) := by decide +kernel
theorem dX12_runs_284 : decode cX12_runs 284 = .ok (.irem, 1) := by decide +kernel
theorem dX12_runs_285 : decode cX12_runs 285 = .ok (.invokevirtual 424, 3) := by decide +kernel
theorem dX12_runs_288 : decode cX12_runs 288 = .ok (.iinc 9 1, 3) := by decide +kernel
theorem dX12_runs_291 : decode cX12_runs 291 = .ok (.goto (-30), 3) := by decide +kernel
theorem dX12_runs_294 : decode cX12_runs 294 = .ok (.iinc 7 1, 3) := by decide +kernel
theorem dX12_runs_297 : decode cX12_runs 297 = .ok (.goto (-83), 3) := by decide +kernel
theorem dX12_runs_300 : decode cX12_runs 300 = .ok (.iinc 5 1, 3) := by decide +kernel
theorem dX12_runs_303 : decode cX12_runs 303 = .ok (.goto (-195), 3) := by decide +kernel
theorem dX12_runs_306 : decode cX12_runs 306 = .ok (.return_, 1) := by decide +kernel
theorem dX12_lays_0 : decode cX12_lays 0 = .ok (.iconst 0, 1) := by decide +kernel
theorem dX12_lays_1 : decode cX12_lays 1 = .ok (.istore 4, 2) := by decide +kernel
theorem dX12_lays_3 : decode cX12_lays 3 = .ok (.iload 4, 2) := by decide +kernel
theorem dX12_lays_5 : decode cX12_lays 5 = .ok (.aload_n 0, 1) := by decide +kernel
theorem dX12_lays_6 : decode cX12_lays 6 = .ok (.getfield 7, 3) := by decide +kernel
theorem dX12_lays_9 : decode cX12_lays 9 = .ok (.iconst 1, 1) := by decide +kernel
theorem dX12_lays_10 : decode cX12_lays 10 = .ok (.iaload, 1) := by decide +kernel
theorem dX12_lays_11 : decode cX12_lays 11 = .ok (.if_icmp .ge 330, 3) := by decide +kernel
theorem dX12_lays_14 : decode cX12_lays 14 = .ok (.iconst 0, 1) := by decide +kernel
theorem dX12_lays_15 : decode cX12_lays 15 = .ok (.istore 5, 2) := by decide +kernel
theorem dX12_lays_17 : decode cX12_lays 17 = .ok (.iconst 0, 1) := by decide +kernel
theorem dX12_lays_18 : decode cX12_lays 18 = .ok (.istore 6, 2) := by decide +kernel
theorem dX12_lays_20 : decode cX12_lays 20 = .ok (.bipush (-40), 2) := by decide +kernel
theorem dX12_lays_22 : decode cX12_lays 22 = .ok (.iload_n 1, 1) := by decide +kernel
theorem dX12_lays_23 : decode cX12_lays 23 = .ok (.aload_n 0, 1) := by decide +kernel
theorem dX12_lays_24 : decode cX12_lays 24 = .ok (.getfield 7, 3) := by decide +kernel
theorem dX12_lays_27 : decode cX12_lays 27 = .ok (.bipush 6, 2) := by decide +kernel
theorem dX12_lays_29 : decode cX12_lays 29 = .ok (.iaload, 1) := by decide +kernel
theorem dX12_lays_30 : decode cX12_lays 30 = .ok (.isub, 1) := by decide +kernel
theorem dX12_lays_31 : decode cX12_lays 31 = .ok (.iconst 1, 1) := by decide +kernel
theorem dX12_lays_32 : decode cX12_lays 32 = .ok (.iadd, 1) := by decide +kernel
theorem dX12_lays_33 : decode cX12_lays 33 = .ok (.invokestatic 410, 3) := by decide +kernel
theorem dX12_lays_36 : decode cX12_lays 36 = .ok (.istore 7, 2) := by decide +kernel
theorem dX12_lays_38 : decode cX12_lays 38 = .ok (.iload 7, 2) := by decide +kernel
theorem dX12_lays_40 : decode cX12_lays 40 = .ok (.iload_n 1, 1) := by decide +kernel
theorem dX12_lays_41 : decode cX12_lays 41 = .ok (.if_icmp .ge 54, 3) := by decide +kernel
theorem dX12_lays_44 : decode cX12_lays 44 = .ok (.iload 5, 2) := by decide +kernel
theorem dX12_lays_46 : decode cX12_lays 46 = .ok (.aload_n 0, 1) := by decide +kernel
theorem dX12_lays_47 : decode cX12_lays 47 = .ok (.getfield 97, 3) := by decide +kernel
theorem dX12_lays_50 : decode cX12_lays 50 = .ok (.bipush 32, 2) := by decide +kernel
theorem dX12_lays_52 : decode cX12_lays 52 = .ok (.iload 7, 2) := by decide +kernel
theorem dX12_lays_54 : decode cX12_lays 54 = .ok (.bipush 40, 2) := by decide +kernel
theorem dX12_lays_56 : decode cX12_lays 56 = .ok (.iadd, 1) := by decide +kernel
theorem dX12_lays_57 : decode cX12_lays 57 = .ok (.imul, 1) := by decide +kernel
theorem dX12_lays_58 : decode cX12_lays 58 = .ok (.iload 4, 2) := by decide +kernel
theorem dX12_lays_60 : decode cX12_lays 60 = .ok (.iadd, 1) := by decide +kernel
theorem dX12_lays_61 : decode cX12_lays 61 = .ok (.iaload, 1) := by decide +kernel
theorem dX12_lays_62 : decode cX12_lays 62 = .ok (.iadd, 1) := by decide +kernel
theorem dX12_lays_63 : decode cX12_lays 63 = .ok (.istore 5, 2) := by decide +kernel
theorem dX12_lays_65 : decode cX12_lays 65 = .ok (.iload 6, 2) := by decide +kernel
theorem dX12_lays_67 : decode cX12_lays 67 = .ok (.aload_n 0, 1) := by decide +kernel
theorem dX12_lays_68 : decode cX12_lays 68 = .ok (.getfield 97, 3) := by decide +kernel
theorem dX12_lays_71 : decode cX12_lays 71 = .ok (.bipush 32, 2) := by decide +kernel
theorem dX12_lays_73 : decode cX12_lays 73 = .ok (.iload 7, 2) := by decide +kernel
theorem dX12_lays_75 : decode cX12_lays 75 = .ok (.bipush 40, 2) := by decide +kernel
theorem dX12_lays_77 : decode cX12_lays 77 = .ok (.iadd, 1) := by decide +kernel
theorem dX12_lays_78 : decode cX12_lays 78 = .ok (.imul, 1) := by decide +kernel
theorem dX12_lays_79 : decode cX12_lays 79 = .ok (.bipush 16, 2) := by decide +kernel
theorem dX12_lays_81 : decode cX12_lays 81 = .ok (.iadd, 1) := by decide +kernel
theorem dX12_lays_82 : decode cX12_lays 82 = .ok (.iload 4, 2) := by decide +kernel
theorem dX12_lays_84 : decode cX12_lays 84 = .ok (.iadd, 1) := by decide +kernel
theorem dX12_lays_85 : decode cX12_lays 85 = .ok (.iaload, 1) := by decide +kernel
theorem dX12_lays_86 : decode cX12_lays 86 = .ok (.iadd, 1) := by decide +kernel
theorem dX12_lays_87 : decode cX12_lays 87 = .ok (.istore 6, 2) := by decide +kernel
theorem dX12_lays_89 : decode cX12_lays 89 = .ok (.iinc 7 1, 3) := by decide +kernel
theorem dX12_lays_92 : decode cX12_lays 92 = .ok (.goto (-54), 3) := by decide +kernel
theorem dX12_lays_95 : decode cX12_lays 95 = .ok (.aload_n 0, 1) := by decide +kernel
theorem dX12_lays_96 : decode cX12_lays 96 = .ok (.getfield 115, 3) := by decide +kernel
theorem dX12_lays_99 : decode cX12_lays 99 = .ok (.iload 4, 2) := by decide +kernel
theorem dX12_lays_101 : decode cX12_lays 101 = .ok (.iload 5, 2) := by decide +kernel
theorem dX12_lays_103 : decode cX12_lays 103 = .ok (.iastore, 1) := by decide +kernel
theorem dX12_lays_104 : decode cX12_lays 104 = .ok (.aload_n 0, 1) := by decide +kernel
theorem dX12_lays_105 : decode cX12_lays 105 = .ok (.getfield 115, 3) := by decide +kernel
theorem dX12_lays_108 : decode cX12_lays 108 = .ok (.bipush 16, 2) := by decide +kernel
theorem dX12_lays_110 : decode cX12_lays 110 = .ok (.iload 4, 2) := by decide +kernel
theorem dX12_lays_112 : decode cX12_lays 112 = .ok (.iadd, 1) := by decide +kernel
theorem dX12_lays_113 : decode cX12_lays 113 = .ok (.iload 6, 2) := by decide +kernel
theorem dX12_lays_115 : decode cX12_lays 115 = .ok (.iastore, 1) := by decide +kernel
theorem dX12_lays_116 : decode cX12_lays 116 = .ok (.iload_n 1, 1) := by decide +kernel
theorem dX12_lays_117 : decode cX12_lays 117 = .ok (.iconst 1, 1) := by decide +kernel
theorem dX12_lays_118 : decode cX12_lays 118 = .ok (.isub, 1) := by decide +kernel
theorem dX12_lays_119 : decode cX12_lays 119 = .ok (.istore 7, 2) := by decide +kernel
theorem dX12_lays_121 : decode cX12_lays 121 = .ok (.iload 7, 2) := by decide +kernel
theorem dX12_lays_123 : decode cX12_lays 123 = .ok (.bipush (-40), 2) := by decide +kernel
theorem dX12_lays_125 : decode cX12_lays 125 = .ok (.if_icmp .lt 20, 3) := by decide +kernel
theorem dX12_lays_128 : decode cX12_lays 128 = .ok (.aload_n 0, 1) := by decide +kernel
theorem dX12_lays_129 : decode cX12_lays 129 = .ok (.iload 7, 2) := by decide +kernel
theorem dX12_lays_131 : decode cX12_lays 131 = .ok (.iload 4, 2) := by decide +kernel
theorem dX12_lays_133 : decode cX12_lays 133 = .ok (.invokevirtual 407, 3) := by decide +kernel
theorem dX12_lays_136 : decode cX12_lays 136 = .ok (.ifCond .ne 9, 3) := by decide +kernel
theorem dX12_lays_139 : decode cX12_lays 139 = .ok (.iinc 7 (-1), 3) := by decide +kernel
theorem dX12_lays_142 : decode cX12_lays 142 = .ok (.goto (-21), 3) := by decide +kernel
theorem dX12_lays_145 : decode cX12_lays 145 = .ok (.aload_n 0, 1) := by decide +kernel
theorem dX12_lays_146 : decode cX12_lays 146 = .ok (.getfield 118, 3) := by decide +kernel
theorem dX12_lays_149 : decode cX12_lays 149 = .ok (.iload 4, 2) := by decide +kernel
theorem dX12_lays_151 : decode cX12_lays 151 = .ok (.iload 7, 2) := by decide +kernel
theorem dX12_lays_153 : decode cX12_lays 153 = .ok (.bipush (-40), 2) := by decide +kernel
theorem dX12_lays_155 : decode cX12_lays 155 = .ok (.if_icmp .ge 8, 3) := by decide +kernel
theorem dX12_lays_158 : decode cX12_lays 158 = .ok (.bipush 99, 2) := by decide +kernel
theorem dX12_lays_160 : decode cX12_lays 160 = .ok (.goto 12, 3) := by decide +kernel
theorem dX12_lays_163 : decode cX12_lays 163 = .ok (.bipush 99, 2) := by decide +kernel
theorem dX12_lays_165 : decode cX12_lays 165 = .ok (.iload_n 1, 1) := by decide +kernel
theorem dX12_lays_166 : decode cX12_lays 166 = .ok (.iload 7, 2) := by decide +kernel
theorem dX12_lays_168 : decode cX12_lays 168 = .ok (.isub, 1) := by decide +kernel
theorem dX12_lays_169 : decode cX12_lays 169 = .ok (.invokestatic 428, 3) := by decide +kernel
theorem dX12_lays_172 : decode cX12_lays 172 = .ok (.iastore, 1) := by decide +kernel
theorem dX12_lays_173 : decode cX12_lays 173 = .ok (.aload_n 0, 1) := by decide +kernel
theorem dX12_lays_174 : decode cX12_lays 174 = .ok (.getfield 121, 3) := by decide +kernel
theorem dX12_lays_177 : decode cX12_lays 177 = .ok (.iload 4, 2) := by decide +kernel
theorem dX12_lays_179 : decode cX12_lays 179 = .ok (.aload_n 0, 1) := by decide +kernel
theorem dX12_lays_180 : decode cX12_lays 180 = .ok (.iload_n 1, 1) := by decide +kernel
theorem dX12_lays_181 : decode cX12_lays 181 = .ok (.iconst 1, 1) := by decide +kernel
theorem dX12_lays_182 : decode cX12_lays 182 = .ok (.isub, 1) := by decide +kernel
theorem dX12_lays_183 : decode cX12_lays 183 = .ok (.iload 4, 2) := by decide +kernel
theorem dX12_lays_185 : decode cX12_lays 185 = .ok (.invokevirtual 407, 3) := by decide +kernel
theorem dX12_lays_188 : decode cX12_lays 188 = .ok (.aload_n 0, 1) := by decide +kernel
theorem dX12_lays_189 : decode cX12_lays 189 = .ok (.iload_n 1, 1) := by decide +kernel
theorem dX12_lays_190 : decode cX12_lays 190 = .ok (.iconst 2, 1) := by decide +kernel
theorem dX12_lays_191 : decode cX12_lays 191 = .ok (.isub, 1) := by decide +kernel
theorem dX12_lays_192 : decode cX12_lays 192 = .ok (.iload 4, 2) := by decide +kernel
theorem dX12_lays_194 : decode cX12_lays 194 = .ok (.invokevirtual 407, 3) := by decide +kernel
theorem dX12_lays_197 : decode cX12_lays 197 = .ok (.isub, 1) := by decide +kernel
theorem dX12_lays_198 : decode cX12_lays 198 = .ok (.iastore, 1) := by decide +kernel
theorem dX12_lays_199 : decode cX12_lays 199 = .ok (.aload_n 0, 1) := by decide +kernel
theorem dX12_lays_200 : decode cX12_lays 200 = .ok (.getfield 124, 3) := by decide +kernel
theorem dX12_lays_203 : decode cX12_lays 203 = .ok (.iload 4, 2) := by decide +kernel
theorem dX12_lays_205 : decode cX12_lays 205 = .ok (.iconst 0, 1) := by decide +kernel
theorem dX12_lays_206 : decode cX12_lays 206 = .ok (.iastore, 1) := by decide +kernel
theorem dX12_lays_207 : decode cX12_lays 207 = .ok (.iconst 0, 1) := by decide +kernel
theorem dX12_lays_208 : decode cX12_lays 208 = .ok (.istore 8, 2) := by decide +kernel
theorem dX12_lays_210 : decode cX12_lays 210 = .ok (.iload 8, 2) := by decide +kernel
theorem dX12_lays_212 : decode cX12_lays 212 = .ok (.aload_n 0, 1) := by decide +kernel
theorem dX12_lays_213 : decode cX12_lays 213 = .ok (.getfield 7, 3) := by decide +kernel
theorem dX12_lays_216 : decode cX12_lays 216 = .ok (.iconst 1, 1) := by decide +kernel
theorem dX12_lays_217 : decode cX12_lays 217 = .ok (.iaload, 1) := by decide +kernel
theorem dX12_lays_218 : decode cX12_lays 218 = .ok (.if_icmp .ge 67, 3) := by decide +kernel
