theorem dX11_born_28 : decode cX11_born 28 = .ok (.ifCond .ne 5, 3) := by decide +kernel
theorem dX11_born_31 : decode cX11_born 31 = .ok (.iconst (-1), 1) := by decide +kernel
theorem dX11_born_32 : decode cX11_born 32 = .ok (.ireturn, 1) := by decide +kernel
theorem dX11_born_33 : decode cX11_born 33 = .ok (.iload 5, 2) := by decide +kernel
theorem dX11_born_35 : decode cX11_born 35 = .ok (.iconst 1, 1) := by decide +kernel
theorem dX11_born_36 : decode cX11_born 36 = .ok (.bipush 40, 2) := by decide +kernel
theorem dX11_born_38 : decode cX11_born 38 = .ok (.invokestatic 105, 3) := by decide +kernel
theorem dX11_born_41 : decode cX11_born 41 = .ok (.ifCond .eq 14, 3) := by decide +kernel
theorem dX11_born_44 : decode cX11_born 44 = .ok (.iload 6, 2) := by decide +kernel
theorem dX11_born_46 : decode cX11_born 46 = .ok (.iconst 1, 1) := by decide +kernel
theorem dX11_born_47 : decode cX11_born 47 = .ok (.bipush 99, 2) := by decide +kernel
theorem dX11_born_49 : decode cX11_born 49 = .ok (.invokestatic 105, 3) := by decide +kernel
theorem dX11_born_52 : decode cX11_born 52 = .ok (.ifCond .ne 5, 3) := by decide +kernel
theorem dX11_born_55 : decode cX11_born 55 = .ok (.iconst (-1), 1) := by decide +kernel
theorem dX11_born_56 : decode cX11_born 56 = .ok (.ireturn, 1) := by decide +kernel
theorem dX11_born_57 : decode cX11_born 57 = .ok (.iload 5, 2) := by decide +kernel
theorem dX11_born_59 : decode cX11_born 59 = .ok (.ineg, 1) := by decide +kernel
theorem dX11_born_60 : decode cX11_born 60 = .ok (.iload_n 2, 1) := by decide +kernel
theorem dX11_born_61 : decode cX11_born 61 = .ok (.iload_n 3, 1) := by decide +kernel
theorem dX11_born_62 : decode cX11_born 62 = .ok (.iload 4, 2) := by decide +kernel
theorem dX11_born_64 : decode cX11_born 64 = .ok (.invokestatic 156, 3) := by decide +kernel
theorem dX11_born_67 : decode cX11_born 67 = .ok (.iload_n 1, 1) := by decide +kernel
theorem dX11_born_68 : decode cX11_born 68 = .ok (.invokestatic 160, 3) := by decide +kernel
theorem dX11_born_71 : decode cX11_born 71 = .ok (.istore 7, 2) := by decide +kernel
theorem dX11_born_73 : decode cX11_born 73 = .ok (.aload_n 0, 1) := by decide +kernel
theorem dX11_born_74 : decode cX11_born 74 = .ok (.getfield 19, 3) := by decide +kernel
theorem dX11_born_77 : decode cX11_born 77 = .ok (.getfield 163, 3) := by decide +kernel
theorem dX11_born_80 : decode cX11_born 80 = .ok (.iload 7, 2) := by decide +kernel
theorem dX11_born_82 : decode cX11_born 82 = .ok (.iaload, 1) := by decide +kernel
theorem dX11_born_83 : decode cX11_born 83 = .ok (.iload 6, 2) := by decide +kernel
theorem dX11_born_85 : decode cX11_born 85 = .ok (.iadd, 1) := by decide +kernel
theorem dX11_born_86 : decode cX11_born 86 = .ok (.sipush 9999, 3) := by decide +kernel
theorem dX11_born_89 : decode cX11_born 89 = .ok (.if_icmp .le 5, 3) := by decide +kernel
theorem dX11_born_92 : decode cX11_born 92 = .ok (.iconst (-1), 1) := by decide +kernel
theorem dX11_born_93 : decode cX11_born 93 = .ok (.ireturn, 1) := by decide +kernel
theorem dX11_born_94 : decode cX11_born 94 = .ok (.aload_n 0, 1) := by decide +kernel
theorem dX11_born_95 : decode cX11_born 95 = .ok (.getfield 19, 3) := by decide +kernel
theorem dX11_born_98 : decode cX11_born 98 = .ok (.getfield 163, 3) := by decide +kernel
theorem dX11_born_101 : decode cX11_born 101 = .ok (.iload 7, 2) := by decide +kernel
theorem dX11_born_103 : decode cX11_born 103 = .ok (.dup2, 1) := by decide +kernel
theorem dX11_born_104 : decode cX11_born 104 = .ok (.iaload, 1) := by decide +kernel
theorem dX11_born_105 : decode cX11_born 105 = .ok (.iload 6, 2) := by decide +kernel
theorem dX11_born_107 : decode cX11_born 107 = .ok (.iadd, 1) := by decide +kernel
theorem dX11_born_108 : decode cX11_born 108 = .ok (.iastore, 1) := by decide +kernel
theorem dX11_born_109 : decode cX11_born 109 = .ok (.aload_n 0, 1) := by decide +kernel
theorem dX11_born_110 : decode cX11_born 110 = .ok (.getfield 26, 3) := by decide +kernel
theorem dX11_born_113 : decode cX11_born 113 = .ok (.iload 5, 2) := by decide +kernel
theorem dX11_born_115 : decode cX11_born 115 = .ok (.ineg, 1) := by decide +kernel
theorem dX11_born_116 : decode cX11_born 116 = .ok (.iload_n 2, 1) := by decide +kernel
theorem dX11_born_117 : decode cX11_born 117 = .ok (.iload_n 3, 1) := by decide +kernel
theorem dX11_born_118 : decode cX11_born 118 = .ok (.iload 4, 2) := by decide +kernel
theorem dX11_born_120 : decode cX11_born 120 = .ok (.iload_n 1, 1) := by decide +kernel
theorem dX11_born_121 : decode cX11_born 121 = .ok (.iload 6, 2) := by decide +kernel
theorem dX11_born_123 : decode cX11_born 123 = .ok (.invokevirtual 166, 3) := by decide +kernel
theorem dX11_born_126 : decode cX11_born 126 = .ok (.aload_n 0, 1) := by decide +kernel
theorem dX11_born_127 : decode cX11_born 127 = .ok (.getfield 86, 3) := by decide +kernel
theorem dX11_born_130 : decode cX11_born 130 = .ok (.invokevirtual 117, 3) := by decide +kernel
theorem dX11_born_133 : decode cX11_born 133 = .ok (.aload_n 0, 1) := by decide +kernel
theorem dX11_born_134 : decode cX11_born 134 = .ok (.getfield 19, 3) := by decide +kernel
theorem dX11_born_137 : decode cX11_born 137 = .ok (.getfield 163, 3) := by decide +kernel
theorem dX11_born_140 : decode cX11_born 140 = .ok (.iload 7, 2) := by decide +kernel
theorem dX11_born_142 : decode cX11_born 142 = .ok (.iaload, 1) := by decide +kernel
theorem dX11_born_143 : decode cX11_born 143 = .ok (.ireturn, 1) := by decide +kernel
theorem dX11_life_0 : decode cX11_life 0 = .ok (.aload_n 0, 1) := by decide +kernel
theorem dX11_life_1 : decode cX11_life 1 = .ok (.getfield 19, 3) := by decide +kernel
theorem dX11_life_4 : decode cX11_life 4 = .ok (.getfield 120, 3) := by decide +kernel
theorem dX11_life_7 : decode cX11_life 7 = .ok (.ifCond .ne 14, 3) := by decide +kernel
theorem dX11_life_10 : decode cX11_life 10 = .ok (.iload_n 1, 1) := by decide +kernel
theorem dX11_life_11 : decode cX11_life 11 = .ok (.bipush 20, 2) := by decide +kernel
theorem dX11_life_13 : decode cX11_life 13 = .ok (.bipush 90, 2) := by decide +kernel
theorem dX11_life_15 : decode cX11_life 15 = .ok (.invokestatic 105, 3) := by decide +kernel
theorem dX11_life_18 : decode cX11_life 18 = .ok (.ifCond .ne 5, 3) := by decide +kernel
theorem dX11_life_21 : decode cX11_life 21 = .ok (.iconst 0, 1) := by decide +kernel
theorem dX11_life_22 : decode cX11_life 22 = .ok (.ireturn, 1) := by decide +kernel
theorem dX11_life_23 : decode cX11_life 23 = .ok (.aload_n 0, 1) := by decide +kernel
theorem dX11_life_24 : decode cX11_life 24 = .ok (.getfield 19, 3) := by decide +kernel
theorem dX11_life_27 : decode cX11_life 27 = .ok (.iload_n 1, 1) := by decide +kernel
theorem dX11_life_28 : decode cX11_life 28 = .ok (.putfield 170, 3) := by decide +kernel
theorem dX11_life_31 : decode cX11_life 31 = .ok (.aload_n 0, 1) := by decide +kernel
theorem dX11_life_32 : decode cX11_life 32 = .ok (.getfield 86, 3) := by decide +kernel
theorem dX11_life_35 : decode cX11_life 35 = .ok (.invokevirtual 117, 3) := by decide +kernel
theorem dX11_life_38 : decode cX11_life 38 = .ok (.iconst 1, 1) := by decide +kernel
theorem dX11_life_39 : decode cX11_life 39 = .ok (.ireturn, 1) := by decide +kernel
theorem dX11_cradles_0 : decode cX11_cradles 0 = .ok (.iload_n 1, 1) := by decide +kernel
theorem dX11_cradles_1 : decode cX11_cradles 1 = .ok (.iload_n 2, 1) := by decide +kernel
theorem dX11_cradles_2 : decode cX11_cradles 2 = .ok (.iload_n 3, 1) := by decide +kernel
theorem dX11_cradles_3 : decode cX11_cradles 3 = .ok (.invokestatic 153, 3) := by decide +kernel
theorem dX11_cradles_6 : decode cX11_cradles 6 = .ok (.ifCond .eq 14, 3) := by decide +kernel
theorem dX11_cradles_9 : decode cX11_cradles 9 = .ok (.iload 4, 2) := by decide +kernel
theorem dX11_cradles_11 : decode cX11_cradles 11 = .ok (.iconst 0, 1) := by decide +kernel
theorem dX11_cradles_12 : decode cX11_cradles 12 = .ok (.bipush 6, 2) := by decide +kernel
theorem dX11_cradles_14 : decode cX11_cradles 14 = .ok (.invokestatic 105, 3) := by decide +kernel
theorem dX11_cradles_17 : decode cX11_cradles 17 = .ok (.ifCond .ne 5, 3) := by decide +kernel
theorem dX11_cradles_20 : decode cX11_cradles 20 = .ok (.iconst 0, 1) := by decide +kernel
theorem dX11_cradles_21 : decode cX11_cradles 21 = .ok (.ireturn, 1) := by decide +kernel
theorem dX11_cradles_22 : decode cX11_cradles 22 = .ok (.aload_n 0, 1) := by decide +kernel
theorem dX11_cradles_23 : decode cX11_cradles 23 = .ok (.getfield 19, 3) := by decide +kernel
theorem dX11_cradles_26 : decode cX11_cradles 26 = .ok (.getfield 173, 3) := by decide +kernel
theorem dX11_cradles_29 : decode cX11_cradles 29 = .ok (.iload_n 1, 1) := by decide +kernel
theorem dX11_cradles_30 : decode cX11_cradles 30 = .ok (.iload_n 2, 1) := by decide +kernel
theorem dX11_cradles_31 : decode cX11_cradles 31 = .ok (.iload_n 3, 1) := by decide +kernel
theorem dX11_cradles_32 : decode cX11_cradles 32 = .ok (.invokestatic 156, 3) := by decide +kernel
theorem dX11_cradles_35 : decode cX11_cradles 35 = .ok (.iload 4, 2) := by decide +kernel
theorem dX11_cradles_37 : decode cX11_cradles 37 = .ok (.iastore, 1) := by decide +kernel
theorem dX11_cradles_38 : decode cX11_cradles 38 = .ok (.aload_n 0, 1) := by decide +kernel
theorem dX11_cradles_39 : decode cX11_cradles 39 = .ok (.getfield 86, 3) := by decide +kernel
theorem dX11_cradles_42 : decode cX11_cradles 42 = .ok (.invokevirtual 117, 3) := by decide +kernel
theorem dX11_cradles_45 : decode cX11_cradles 45 = .ok (.iconst 1, 1) := by decide +kernel
theorem dX11_cradles_46 : decode cX11_cradles 46 = .ok (.ireturn, 1) := by decide +kernel
theorem dX11_list_0 : decode cX11_list 0 = .ok (.aload_n 0, 1) := by decide +kernel
theorem dX11_list_1 : decode cX11_list 1 = .ok (.getfield 19, 3) := by decide +kernel
theorem dX11_list_4 : decode cX11_list 4 = .ok (.getfield 176, 3) := by decide +kernel
theorem dX11_list_7 : decode cX11_list 7 = .ok (.bipush 8, 2) := by decide +kernel
theorem dX11_list_9 : decode cX11_list 9 = .ok (.if_icmp .ge 19, 3) := by decide +kernel
theorem dX11_list_12 : decode cX11_list 12 = .ok (.iload_n 1, 1) := by decide +kernel
theorem dX11_list_13 : decode cX11_list 13 = .ok (.aload_n 0, 1) := by decide +kernel
theorem dX11_list_14 : decode cX11_list 14 = .ok (.getfield 19, 3) := by decide +kernel
theorem dX11_list_17 : decode cX11_list 17 = .ok (.getfield 120, 3) := by decide +kernel
theorem dX11_list_20 : decode cX11_list 20 = .ok (.bipush 60, 2) := by decide +kernel
theorem dX11_list_22 : decode cX11_list 22 = .ok (.invokestatic 105, 3) := by decide +kernel
theorem dX11_list_25 : decode cX11_list 25 = .ok (.ifCond .ne 5, 3) := by decide +kernel
theorem dX11_list_28 : decode cX11_list 28 = .ok (.iconst (-1), 1) := by decide +kernel
theorem dX11_list_29 : decode cX11_list 29 = .ok (.ireturn, 1) := by decide +kernel
theorem dX11_list_30 : decode cX11_list 30 = .ok (.iconst 1, 1) := by decide +kernel
theorem dX11_list_31 : decode cX11_list 31 = .ok (.aload_n 0, 1) := by decide +kernel
theorem dX11_list_32 : decode cX11_list 32 = .ok (.getfield 10, 3) := by decide +kernel
theorem dX11_list_35 : decode cX11_list 35 = .ok (.getfield 109, 3) := by decide +kernel
theorem dX11_list_38 : decode cX11_list 38 = .ok (.ishl, 1) := by decide +kernel
theorem dX11_list_39 : decode cX11_list 39 = .ok (.iconst 1, 1) := by decide +kernel
theorem dX11_list_40 : decode cX11_list 40 = .ok (.isub, 1) := by decide +kernel
theorem dX11_list_41 : decode cX11_list 41 = .ok (.istore_n 3, 1) := by decide +kernel
theorem dX11_list_42 : decode cX11_list 42 = .ok (.aload_n 0, 1) := by decide +kernel
theorem dX11_list_43 : decode cX11_list 43 = .ok (.getfield 86, 3) := by decide +kernel
theorem dX11_list_46 : decode cX11_list 46 = .ok (.invokevirtual 117, 3) := by decide +kernel
theorem dX11_list_49 : decode cX11_list 49 = .ok (.aload_n 0, 1) := by decide +kernel
theorem dX11_list_50 : decode cX11_list 50 = .ok (.getfield 19, 3) := by decide +kernel
theorem dX11_list_53 : decode cX11_list 53 = .ok (.iload_n 1, 1) := by decide +kernel
theorem dX11_list_54 : decode cX11_list 54 = .ok (.iload_n 2, 1) := by decide +kernel
theorem dX11_list_55 : decode cX11_list 55 = .ok (.iload_n 3, 1) := by decide +kernel
theorem dX11_list_56 : decode cX11_list 56 = .ok (.iand, 1) := by decide +kernel
theorem dX11_list_57 : decode cX11_list 57 = .ok (.invokevirtual 179, 3) := by decide +kernel
theorem dX11_list_60 : decode cX11_list 60 = .ok (.ireturn, 1) := by decide +kernel
theorem dX11_film_0 : decode cX11_film 0 = .ok (.aload_n 0, 1) := by decide +kernel
theorem dX11_film_1 : decode cX11_film 1 = .ok (.getfield 19, 3) := by decide +kernel
theorem dX11_film_4 : decode cX11_film 4 = .ok (.getfield 182, 3) := by decide +kernel
theorem dX11_film_7 : decode cX11_film 7 = .ok (.bipush 8, 2) := by decide +kernel
theorem dX11_film_9 : decode cX11_film 9 = .ok (.if_icmp .ge 14, 3) := by decide +kernel
theorem dX11_film_12 : decode cX11_film 12 = .ok (.aload_n 0, 1) := by decide +kernel
theorem dX11_film_13 : decode cX11_film 13 = .ok (.getfield 10, 3) := by decide +kernel
theorem dX11_film_16 : decode cX11_film 16 = .ok (.iload_n 1, 1) := by decide +kernel
theorem dX11_film_17 : decode cX11_film 17 = .ok (.invokevirtual 127, 3) := by decide +kernel
theorem dX11_film_20 : decode cX11_film 20 = .ok (.ifCond .ne 5, 3) := by decide +kernel
theorem dX11_film_23 : decode cX11_film 23 = .ok (.iconst (-1), 1) := by decide +kernel
theorem dX11_film_24 : decode cX11_film 24 = .ok (.ireturn, 1) := by decide +kernel
theorem dX11_film_25 : decode cX11_film 25 = .ok (.iload_n 2, 1) := by decide +kernel
theorem dX11_film_26 : decode cX11_film 26 = .ok (.aload_n 0, 1) := by decide +kernel
theorem dX11_film_27 : decode cX11_film 27 = .ok (.getfield 19, 3) := by decide +kernel
theorem dX11_film_30 : decode cX11_film 30 = .ok (.getfield 120, 3) := by decide +kernel
theorem dX11_film_33 : decode cX11_film 33 = .ok (.bipush 60, 2) := by decide +kernel
theorem dX11_film_35 : decode cX11_film 35 = .ok (.invokestatic 105, 3) := by decide +kernel
theorem dX11_film_38 : decode cX11_film 38 = .ok (.ifCond .eq 14, 3) := by decide +kernel
theorem dX11_film_41 : decode cX11_film 41 = .ok (.iload_n 3, 1) := by decide +kernel
theorem dX11_film_42 : decode cX11_film 42 = .ok (.iconst 1, 1) := by decide +kernel
theorem dX11_film_43 : decode cX11_film 43 = .ok (.sipush 999, 3) := by decide +kernel
theorem dX11_film_46 : decode cX11_film 46 = .ok (.invokestatic 105, 3) := by decide +kernel
theorem dX11_film_49 : decode cX11_film 49 = .ok (.ifCond .ne 5, 3) := by decide +kernel
theorem dX11_film_52 : decode cX11_film 52 = .ok (.iconst (-1), 1) := by decide +kernel
theorem dX11_film_53 : decode cX11_film 53 = .ok (.ireturn, 1) := by decide +kernel
theorem dX11_film_54 : decode cX11_film 54 = .ok (.aload_n 0, 1) := by decide +kernel
theorem dX11_film_55 : decode cX11_film 55 = .ok (.getfield 86, 3) := by decide +kernel
theorem dX11_film_58 : decode cX11_film 58 = .ok (.invokevirtual 117, 3) := by decide +kernel
theorem dX11_film_61 : decode cX11_film 61 = .ok (.aload_n 0, 1) := by decide +kernel
theorem dX11_film_62 : decode cX11_film 62 = .ok (.getfield 19, 3) := by decide +kernel
theorem dX11_film_65 : decode cX11_film 65 = .ok (.iload_n 1, 1) := by decide +kernel
theorem dX11_film_66 : decode cX11_film 66 = .ok (.iload_n 2, 1) := by decide +kernel
theorem dX11_film_67 : decode cX11_film 67 = .ok (.iload_n 3, 1) := by decide +kernel
theorem dX11_film_68 : decode cX11_film 68 = .ok (.invokevirtual 185, 3) := by decide +kernel
theorem dX11_film_71 : decode cX11_film 71 = .ok (.ireturn, 1) := by decide +kernel
theorem dX11_feed_0 : decode cX11_feed 0 = .ok (.aload_n 0, 1) := by decide +kernel
theorem dX11_feed_1 : decode cX11_feed 1 = .ok (.getfield 45, 3) := by decide +kernel
theorem dX11_feed_4 : decode cX11_feed 4 = .ok (.invokevirtual 188, 3) := by decide +kernel
theorem dX11_feed_7 : decode cX11_feed 7 = .ok (.ifCond .ne 5, 3) := by decide +kernel
theorem dX11_feed_10 : decode cX11_feed 10 = .ok (.iconst (-1), 1) := by decide +kernel
theorem dX11_feed_11 : decode cX11_feed 11 = .ok (.ireturn, 1) := by decide +kernel
theorem dX11_feed_12 : decode cX11_feed 12 = .ok (.aload_n 0, 1) := by decide +kernel
theorem dX11_feed_13 : decode cX11_feed 13 = .ok (.getfield 45, 3) := by decide +kernel
theorem dX11_feed_16 : decode cX11_feed 16 = .ok (.iload_n 1, 1) := by decide +kernel
theorem dX11_feed_17 : decode cX11_feed 17 = .ok (.invokevirtual 192, 3) := by decide +kernel
theorem dX11_feed_20 : decode cX11_feed 20 = .ok (.aload_n 0, 1) := by decide +kernel
theorem dX11_feed_21 : decode cX11_feed 21 = .ok (.getfield 45, 3) := by decide +kernel
theorem dX11_feed_24 : decode cX11_feed 24 = .ok (.iload_n 2, 1) := by decide +kernel
theorem dX11_feed_25 : decode cX11_feed 25 = .ok (.invokevirtual 192, 3) := by decide +kernel
theorem dX11_feed_28 : decode cX11_feed 28 = .ok (.aload_n 0, 1) := by decide +kernel
theorem dX11_feed_29 : decode cX11_feed 29 = .ok (.getfield 45, 3) := by decide +kernel
theorem dX11_feed_32 : decode cX11_feed 32 = .ok (.iload_n 3, 1) := by decide +kernel
theorem dX11_feed_33 : decode cX11_feed 33 = .ok (.invokevirtual 192, 3) := by decide +kernel
theorem dX11_feed_36 : decode cX11_feed 36 = .ok (.aload_n 0, 1) := by decide +kernel
theorem dX11_feed_37 : decode cX11_feed 37 = .ok (.getfield 45, 3) := by decide +kernel
theorem dX11_feed_40 : decode cX11_feed 40 = .ok (.iload 4, 2) := by decide +kernel
theorem dX11_feed_42 : decode cX11_feed 42 = .ok (.invokevirtual 192, 3) := by decide +kernel
theorem dX11_feed_45 : decode cX11_feed 45 = .ok (.aload_n 0, 1) := by decide +kernel
theorem dX11_feed_46 : decode cX11_feed 46 = .ok (.getfield 45, 3) := by decide +kernel
theorem dX11_feed_49 : decode cX11_feed 49 = .ok (.iload 5, 2) := by decide +kernel
theorem dX11_feed_51 : decode cX11_feed 51 = .ok (.invokevirtual 192, 3) := by decide +kernel
theorem dX11_feed_54 : decode cX11_feed 54 = .ok (.aload_n 0, 1) := by decide +kernel
theorem dX11_feed_55 : decode cX11_feed 55 = .ok (.getfield 45, 3) := by decide +kernel
theorem dX11_feed_58 : decode cX11_feed 58 = .ok (.getfield 196, 3) := by decide +kernel
theorem dX11_feed_61 : decode cX11_feed 61 = .ok (.ireturn, 1) := by decide +kernel
theorem dX11_end_0 : decode cX11_end 0 = .ok (.iload_n 1, 1) := by decide +kernel
theorem dX11_end_1 : decode cX11_end 1 = .ok (.iconst 0, 1) := by decide +kernel
theorem dX11_end_2 : decode cX11_end 2 = .ok (.aload_n 0, 1) := by decide +kernel
theorem dX11_end_3 : decode cX11_end 3 = .ok (.getfield 45, 3) := by decide +kernel
theorem dX11_end_6 : decode cX11_end 6 = .ok (.getfield 196, 3) := by decide +kernel
theorem dX11_end_9 : decode cX11_end 9 = .ok (.invokestatic 105, 3) := by decide +kernel
theorem dX11_end_12 : decode cX11_end 12 = .ok (.ifCond .ne 5, 3) := by decide +kernel
theorem dX11_end_15 : decode cX11_end 15 = .ok (.iconst (-1), 1) := by decide +kernel
theorem dX11_end_16 : decode cX11_end 16 = .ok (.ireturn, 1) := by decide +kernel
theorem dX11_end_17 : decode cX11_end 17 = .ok (.aload_n 0, 1) := by decide +kernel
theorem dX11_end_18 : decode cX11_end 18 = .ok (.getfield 45, 3) := by decide +kernel
theorem dX11_end_21 : decode cX11_end 21 = .ok (.iload_n 1, 1) := by decide +kernel
theorem dX11_end_22 : decode cX11_end 22 = .ok (.putfield 196, 3) := by decide +kernel
theorem dX11_end_25 : decode cX11_end 25 = .ok (.iload_n 1, 1) := by decide +kernel
theorem dX11_end_26 : decode cX11_end 26 = .ok (.ireturn, 1) := by decide +kernel
theorem dX11_taste_0 : decode cX11_taste 0 = .ok (.aload_n 0, 1) := by decide +kernel
theorem dX11_taste_1 : decode cX11_taste 1 = .ok (.getfield 199, 3) := by decide +kernel
theorem dX11_taste_4 : decode cX11_taste 4 = .ok (.bipush 6, 2) := by decide +kernel
theorem dX11_taste_6 : decode cX11_taste 6 = .ok (.if_icmp .ge 22, 3) := by decide +kernel
theorem dX11_taste_9 : decode cX11_taste 9 = .ok (.aload_n 0, 1) := by decide +kernel
theorem dX11_taste_10 : decode cX11_taste 10 = .ok (.getfield 45, 3) := by decide +kernel
theorem dX11_taste_13 : decode cX11_taste 13 = .ok (.aload_n 0, 1) := by decide +kernel
theorem dX11_taste_14 : decode cX11_taste 14 = .ok (.getfield 35, 3) := by decide +kernel
theorem dX11_taste_17 : decode cX11_taste 17 = .ok (.aload_n 0, 1) := by decide +kernel
theorem dX11_taste_18 : decode cX11_taste 18 = .ok (.getfield 199, 3) := by decide +kernel
theorem dX11_taste_21 : decode cX11_taste 21 = .ok (.aaload, 1) := by decide +kernel
theorem dX11_taste_22 : decode cX11_taste 22 = .ok (.invokevirtual 202, 3) := by decide +kernel
theorem dX11_taste_25 : decode cX11_taste 25 = .ok (.ifCond .ne 5, 3) := by decide +kernel
theorem dX11_taste_28 : decode cX11_taste 28 = .ok (.iconst (-1), 1) := by decide +kernel
theorem dX11_taste_29 : decode cX11_taste 29 = .ok (.ireturn, 1) := by decide +kernel
theorem dX11_taste_30 : decode cX11_taste 30 = .ok (.aload_n 0, 1) := by decide +kernel
theorem dX11_taste_31 : decode cX11_taste 31 = .ok (.dup, 1) := by decide +kernel
theorem dX11_taste_32 : decode cX11_taste 32 = .ok (.getfield 199, 3) := by decide +kernel
theorem dX11_taste_35 : decode cX11_taste 35 = .ok (.iconst 1, 1) := by decide +kernel
theorem dX11_taste_36 : decode cX11_taste 36 = .ok (.iadd, 1) := by decide +kernel
theorem dX11_taste_37 : decode cX11_taste 37 = .ok (.putfield 199, 3) := by decide +kernel
theorem dX11_taste_40 : decode cX11_taste 40 = .ok (.aload_n 0, 1) := by decide +kernel
theorem dX11_taste_41 : decode cX11_taste 41 = .ok (.getfield 199, 3) := by decide +kernel
theorem dX11_taste_44 : decode cX11_taste 44 = .ok (.iconst 1, 1) := by decide +kernel
theorem dX11_taste_45 : decode cX11_taste 45 = .ok (.isub, 1) := by decide +kernel
theorem dX11_taste_46 : decode cX11_taste 46 = .ok (.ireturn, 1) := by decide +kernel
theorem dX11_fault_0 : decode cX11_fault 0 = .ok (.iload_n 1, 1) := by decide +kernel
theorem dX11_fault_1 : decode cX11_fault 1 = .ok (.ifCond .ne 11, 3) := by decide +kernel
theorem dX11_fault_4 : decode cX11_fault 4 = .ok (.aload_n 0, 1) := by decide +kernel
theorem dX11_fault_5 : decode cX11_fault 5 = .ok (.getfield 45, 3) := by decide +kernel
theorem dX11_fault_8 : decode cX11_fault 8 = .ok (.getfield 206, 3) := by decide +kernel
theorem dX11_fault_11 : decode cX11_fault 11 = .ok (.ireturn, 1) := by decide +kernel
theorem dX11_fault_12 : decode cX11_fault 12 = .ok (.iload_n 1, 1) := by decide +kernel
theorem dX11_fault_13 : decode cX11_fault 13 = .ok (.iconst 1, 1) := by decide +kernel
theorem dX11_fault_14 : decode cX11_fault 14 = .ok (.if_icmp .ne 13, 3) := by decide +kernel
theorem dX11_fault_17 : decode cX11_fault 17 = .ok (.aload_n 0, 1) := by decide +kernel
theorem dX11_fault_18 : decode cX11_fault 18 = .ok (.getfield 45, 3) := by decide +kernel
theorem dX11_fault_21 : decode cX11_fault 21 = .ok (.getfield 209, 3) := by decide +kernel
theorem dX11_fault_24 : decode cX11_fault 24 = .ok (.goto 4, 3) := by decide +kernel
theorem dX11_fault_27 : decode cX11_fault 27 = .ok (.iconst (-1), 1) := by decide +kernel
theorem dX11_fault_28 : decode cX11_fault 28 = .ok (.ireturn, 1) := by decide +kernel
theorem dX11_by_0 : decode cX11_by 0 = .ok (.iload_n 1, 1) := by decide +kernel
theorem dX11_by_1 : decode cX11_by 1 = .ok (.iconst 0, 1) := by decide +kernel
theorem dX11_by_2 : decode cX11_by 2 = .ok (.iconst 1, 1) := by decide +kernel
theorem dX11_by_3 : decode cX11_by 3 = .ok (.invokestatic 105, 3) := by decide +kernel
theorem dX11_by_6 : decode cX11_by 6 = .ok (.ifCond .eq 17, 3) := by decide +kernel
theorem dX11_by_9 : decode cX11_by 9 = .ok (.iload_n 2, 1) := by decide +kernel
theorem dX11_by_10 : decode cX11_by 10 = .ok (.iconst (-1), 1) := by decide +kernel
theorem dX11_by_11 : decode cX11_by 11 = .ok (.aload_n 0, 1) := by decide +kernel
theorem dX11_by_12 : decode cX11_by 12 = .ok (.getfield 199, 3) := by decide +kernel
theorem dX11_by_15 : decode cX11_by 15 = .ok (.iconst 1, 1) := by decide +kernel
theorem dX11_by_16 : decode cX11_by 16 = .ok (.isub, 1) := by decide +kernel
theorem dX11_by_17 : decode cX11_by 17 = .ok (.invokestatic 105, 3) := by decide +kernel
theorem dX11_by_20 : decode cX11_by 20 = .ok (.ifCond .ne 5, 3) := by decide +kernel
theorem dX11_by_23 : decode cX11_by 23 = .ok (.iconst 0, 1) := by decide +kernel
theorem dX11_by_24 : decode cX11_by 24 = .ok (.ireturn, 1) := by decide +kernel
theorem dX11_by_25 : decode cX11_by 25 = .ok (.aload_n 0, 1) := by decide +kernel
theorem dX11_by_26 : decode cX11_by 26 = .ok (.getfield 19, 3) := by decide +kernel
theorem dX11_by_29 : decode cX11_by 29 = .ok (.getfield 212, 3) := by decide +kernel
theorem dX11_by_32 : decode cX11_by 32 = .ok (.iload_n 1, 1) := by decide +kernel
theorem dX11_by_33 : decode cX11_by 33 = .ok (.iload_n 2, 1) := by decide +kernel
theorem dX11_by_34 : decode cX11_by 34 = .ok (.iastore, 1) := by decide +kernel
theorem dX11_by_35 : decode cX11_by 35 = .ok (.iconst 1, 1) := by decide +kernel
theorem dX11_by_36 : decode cX11_by 36 = .ok (.ireturn, 1) := by decide +kernel
theorem dX11_years_0 : decode cX11_years 0 = .ok (.iload_n 1, 1) := by decide +kernel
theorem dX11_years_1 : decode cX11_years 1 = .ok (.iconst 1, 1) := by decide +kernel
theorem dX11_years_2 : decode cX11_years 2 = .ok (.bipush 20, 2) := by decide +kernel
theorem dX11_years_4 : decode cX11_years 4 = .ok (.invokestatic 105, 3) := by decide +kernel
theorem dX11_years_7 : decode cX11_years 7 = .ok (.ifCond .eq 17, 3) := by decide +kernel
theorem dX11_years_10 : decode cX11_years 10 = .ok (.aload_n 0, 1) := by decide +kernel
theorem dX11_years_11 : decode cX11_years 11 = .ok (.getfield 19, 3) := by decide +kernel
theorem dX11_years_14 : decode cX11_years 14 = .ok (.getfield 120, 3) := by decide +kernel
theorem dX11_years_17 : decode cX11_years 17 = .ok (.iload_n 1, 1) := by decide +kernel
theorem dX11_years_18 : decode cX11_years 18 = .ok (.iadd, 1) := by decide +kernel
theorem dX11_years_19 : decode cX11_years 19 = .ok (.bipush 61, 2) := by decide +kernel
theorem dX11_years_21 : decode cX11_years 21 = .ok (.if_icmp .le 5, 3) := by decide +kernel
theorem dX11_years_24 : decode cX11_years 24 = .ok (.iconst (-1), 1) := by decide +kernel
theorem dX11_years_25 : decode cX11_years 25 = .ok (.ireturn, 1) := by decide +kernel
theorem dX11_years_26 : decode cX11_years 26 = .ok (.iconst 0, 1) := by decide +kernel
theorem dX11_years_27 : decode cX11_years 27 = .ok (.istore_n 2, 1) := by decide +kernel
theorem dX11_years_28 : decode cX11_years 28 = .ok (.iload_n 2, 1) := by decide +kernel
theorem dX11_years_29 : decode cX11_years 29 = .ok (.iload_n 1, 1) := by decide +kernel
theorem dX11_years_30 : decode cX11_years 30 = .ok (.if_icmp .ge 37, 3) := by decide +kernel
theorem dX11_years_33 : decode cX11_years 33 = .ok (.aload_n 0, 1) := by decide +kernel
theorem dX11_years_34 : decode cX11_years 34 = .ok (.getfield 63, 3) := by decide +kernel
theorem dX11_years_37 : decode cX11_years 37 = .ok (.aload_n 0, 1) := by decide +kernel
theorem dX11_years_38 : decode cX11_years 38 = .ok (.getfield 26, 3) := by decide +kernel
theorem dX11_years_41 : decode cX11_years 41 = .ok (.aload_n 0, 1) := by decide +kernel
theorem dX11_years_42 : decode cX11_years 42 = .ok (.getfield 19, 3) := by decide +kernel
theorem dX11_years_45 : decode cX11_years 45 = .ok (.getfield 120, 3) := by decide +kernel
theorem dX11_years_48 : decode cX11_years 48 = .ok (.iconst (-1), 1) := by decide +kernel
theorem dX11_years_49 : decode cX11_years 49 = .ok (.invokevirtual 215, 3) := by decide +kernel
theorem dX11_years_52 : decode cX11_years 52 = .ok (.istore_n 3, 1) := by decide +kernel
theorem dX11_years_53 : decode cX11_years 53 = .ok (.aload_n 0, 1) := by decide +kernel
theorem dX11_years_54 : decode cX11_years 54 = .ok (.getfield 19, 3) := by decide +kernel
theorem dX11_years_57 : decode cX11_years 57 = .ok (.iload_n 3, 1) := by decide +kernel
theorem dX11_years_58 : decode cX11_years 58 = .ok (.invokevirtual 219, 3) := by decide +kernel
theorem dX11_years_61 : decode cX11_years 61 = .ok (.iinc 2 1, 3) := by decide +kernel
theorem dX11_years_64 : decode cX11_years 64 = .ok (.goto (-36), 3) := by decide +kernel
theorem dX11_years_67 : decode cX11_years 67 = .ok (.aload_n 0, 1) := by decide +kernel
theorem dX11_years_68 : decode cX11_years 68 = .ok (.getfield 26, 3) := by decide +kernel
theorem dX11_years_71 : decode cX11_years 71 = .ok (.aload_n 0, 1) := by decide +kernel
theorem dX11_years_72 : decode cX11_years 72 = .ok (.getfield 19, 3) := by decide +kernel
theorem dX11_years_75 : decode cX11_years 75 = .ok (.getfield 120, 3) := by decide +kernel
theorem dX11_years_78 : decode cX11_years 78 = .ok (.invokevirtual 222, 3) := by decide +kernel
theorem dX11_years_81 : decode cX11_years 81 = .ok (.aload_n 0, 1) := by decide +kernel
theorem dX11_years_82 : decode cX11_years 82 = .ok (.getfield 19, 3) := by decide +kernel
theorem dX11_years_85 : decode cX11_years 85 = .ok (.getfield 120, 3) := by decide +kernel
theorem dX11_years_88 : decode cX11_years 88 = .ok (.ireturn, 1) := by decide +kernel
theorem dX11_given_0 : decode cX11_given 0 = .ok (.iload_n 1, 1) := by decide +kernel
theorem dX11_given_1 : decode cX11_given 1 = .ok (.bipush (-40), 2) := by decide +kernel
theorem dX11_given_3 : decode cX11_given 3 = .ok (.aload_n 0, 1) := by decide +kernel
theorem dX11_given_4 : decode cX11_given 4 = .ok (.getfield 19, 3) := by decide +kernel
theorem dX11_given_7 : decode cX11_given 7 = .ok (.getfield 120, 3) := by decide +kernel
theorem dX11_given_10 : decode cX11_given 10 = .ok (.iconst 1, 1) := by decide +kernel
theorem dX11_given_11 : decode cX11_given 11 = .ok (.isub, 1) := by decide +kernel
theorem dX11_given_12 : decode cX11_given 12 = .ok (.invokestatic 105, 3) := by decide +kernel
theorem dX11_given_15 : decode cX11_given 15 = .ok (.ifCond .eq 21, 3) := by decide +kernel
theorem dX11_given_18 : decode cX11_given 18 = .ok (.iload 5, 2) := by decide +kernel
theorem dX11_given_20 : decode cX11_given 20 = .ok (.iconst (-1), 1) := by decide +kernel
theorem dX11_given_21 : decode cX11_given 21 = .ok (.aload_n 0, 1) := by decide +kernel
theorem dX11_given_22 : decode cX11_given 22 = .ok (.getfield 10, 3) := by decide +kernel
theorem dX11_given_25 : decode cX11_given 25 = .ok (.getfield 109, 3) := by decide +kernel
theorem dX11_given_28 : decode cX11_given 28 = .ok (.iconst 1, 1) := by decide +kernel
theorem dX11_given_29 : decode cX11_given 29 = .ok (.isub, 1) := by decide +kernel
theorem dX11_given_30 : decode cX11_given 30 = .ok (.invokestatic 105, 3) := by decide +kernel
theorem dX11_given_33 : decode cX11_given 33 = .ok (.ifCond .ne 5, 3) := by decide +kernel
theorem dX11_given_36 : decode cX11_given 36 = .ok (.iconst (-1), 1) := by decide +kernel
theorem dX11_given_37 : decode cX11_given 37 = .ok (.ireturn, 1) := by decide +kernel
theorem dX11_given_38 : decode cX11_given 38 = .ok (.iload_n 2, 1) := by decide +kernel
theorem dX11_given_39 : decode cX11_given 39 = .ok (.iconst (-1), 1) := by decide +kernel
theorem dX11_given_40 : decode cX11_given 40 = .ok (.iconst 2, 1) := by decide +kernel
theorem dX11_given_41 : decode cX11_given 41 = .ok (.invokestatic 105, 3) := by decide +kernel
theorem dX11_given_44 : decode cX11_given 44 = .ok (.ifCond .eq 22, 3) := by decide +kernel
theorem dX11_given_47 : decode cX11_given 47 = .ok (.iload_n 3, 1) := by decide +kernel
theorem dX11_given_48 : decode cX11_given 48 = .ok (.iconst (-1), 1) := by decide +kernel
theorem dX11_given_49 : decode cX11_given 49 = .ok (.iconst 1, 1) := by decide +kernel
theorem dX11_given_50 : decode cX11_given 50 = .ok (.invokestatic 105, 3) := by decide +kernel
theorem dX11_given_53 : decode cX11_given 53 = .ok (.ifCond .eq 13, 3) := by decide +kernel
theorem dX11_given_56 : decode cX11_given 56 = .ok (.iload 4, 2) := by decide +kernel
theorem dX11_given_58 : decode cX11_given 58 = .ok (.iconst (-1), 1) := by decide +kernel
theorem dX11_given_59 : decode cX11_given 59 = .ok (.iconst 1, 1) := by decide +kernel
theorem dX11_given_60 : decode cX11_given 60 = .ok (.invokestatic 105, 3) := by decide +kernel
theorem dX11_given_63 : decode cX11_given 63 = .ok (.ifCond .ne 5, 3) := by decide +kernel
theorem dX11_given_66 : decode cX11_given 66 = .ok (.iconst (-1), 1) := by decide +kernel
theorem dX11_given_67 : decode cX11_given 67 = .ok (.ireturn, 1) := by decide +kernel
theorem dX11_given_68 : decode cX11_given 68 = .ok (.iconst 0, 1) := by decide +kernel
theorem dX11_given_69 : decode cX11_given 69 = .ok (.istore 6, 2) := by decide +kernel
theorem dX11_given_71 : decode cX11_given 71 = .ok (.iconst 0, 1) := by decide +kernel
theorem dX11_given_72 : decode cX11_given 72 = .ok (.istore 7, 2) := by decide +kernel
theorem dX11_given_74 : decode cX11_given 74 = .ok (.iload 7, 2) := by decide +kernel
theorem dX11_given_76 : decode cX11_given 76 = .ok (.bipush 12, 2) := by decide +kernel
theorem dX11_given_78 : decode cX11_given 78 = .ok (.if_icmp .ge 129, 3) := by decide +kernel
theorem dX11_given_81 : decode cX11_given 81 = .ok (.iload_n 2, 1) := by decide +kernel
theorem dX11_given_82 : decode cX11_given 82 = .ok (.iload 7, 2) := by decide +kernel
theorem dX11_given_84 : decode cX11_given 84 = .ok (.invokestatic 225, 3) := by decide +kernel
theorem dX11_given_87 : decode cX11_given 87 = .ok (.invokestatic 228, 3) := by decide +kernel
theorem dX11_given_90 : decode cX11_given 90 = .ok (.ifCond .eq 32, 3) := by decide +kernel
theorem dX11_given_93 : decode cX11_given 93 = .ok (.iload_n 3, 1) := by decide +kernel
theorem dX11_given_94 : decode cX11_given 94 = .ok (.iload 7, 2) := by decide +kernel
theorem dX11_given_96 : decode cX11_given 96 = .ok (.invokestatic 231, 3) := by decide +kernel
theorem dX11_given_99 : decode cX11_given 99 = .ok (.invokestatic 228, 3) := by decide +kernel
theorem dX11_given_102 : decode cX11_given 102 = .ok (.ifCond .eq 20, 3) := by decide +kernel
theorem dX11_given_105 : decode cX11_given 105 = .ok (.iload 4, 2) := by decide +kernel
theorem dX11_given_107 : decode cX11_given 107 = .ok (.iload 7, 2) := by decide +kernel
theorem dX11_given_109 : decode cX11_given 109 = .ok (.invokestatic 234, 3) := by decide +kernel
theorem dX11_given_112 : decode cX11_given 112 = .ok (.invokestatic 228, 3) := by decide +kernel
theorem dX11_given_115 : decode cX11_given 115 = .ok (.ifCond .eq 7, 3) := by decide +kernel
theorem dX11_given_118 : decode cX11_given 118 = .ok (.iconst 1, 1) := by decide +kernel
theorem dX11_given_119 : decode cX11_given 119 = .ok (.goto 4, 3) := by decide +kernel
theorem dX11_given_122 : decode cX11_given 122 = .ok (.iconst 0, 1) := by decide +kernel
theorem dX11_given_123 : decode cX11_given 123 = .ok (.istore 8, 2) := by decide +kernel
theorem dX11_given_125 : decode cX11_given 125 = .ok (.iconst 0, 1) := by decide +kernel
theorem dX11_given_126 : decode cX11_given 126 = .ok (.istore 9, 2) := by decide +kernel
theorem dX11_given_128 : decode cX11_given 128 = .ok (.iload 9, 2) := by decide +kernel
theorem dX11_given_130 : decode cX11_given 130 = .ok (.aload_n 0, 1) := by decide +kernel
theorem dX11_given_131 : decode cX11_given 131 = .ok (.getfield 10, 3) := by decide +kernel
theorem dX11_given_134 : decode cX11_given 134 = .ok (.getfield 109, 3) := by decide +kernel
theorem dX11_given_137 : decode cX11_given 137 = .ok (.if_icmp .ge 64, 3) := by decide +kernel
theorem dX11_given_140 : decode cX11_given 140 = .ok (.iload 8, 2) := by decide +kernel
theorem dX11_given_142 : decode cX11_given 142 = .ok (.ifCond .eq 59, 3) := by decide +kernel
theorem dX11_given_145 : decode cX11_given 145 = .ok (.iload 5, 2) := by decide +kernel
theorem dX11_given_147 : decode cX11_given 147 = .ok (.iload 9, 2) := by decide +kernel
theorem dX11_given_149 : decode cX11_given 149 = .ok (.invokestatic 228, 3) := by decide +kernel
theorem dX11_given_152 : decode cX11_given 152 = .ok (.ifCond .eq 43, 3) := by decide +kernel
theorem dX11_given_155 : decode cX11_given 155 = .ok (.iload 6, 2) := by decide +kernel
theorem dX11_given_157 : decode cX11_given 157 = .ok (.iload_n 1, 1) := by decide +kernel
theorem dX11_given_158 : decode cX11_given 158 = .ok (.ifCond .ge 22, 3) := by decide +kernel
theorem dX11_given_161 : decode cX11_given 161 = .ok (.aload_n 0, 1) := by decide +kernel
theorem dX11_given_162 : decode cX11_given 162 = .ok (.getfield 19, 3) := by decide +kernel
theorem dX11_given_165 : decode cX11_given 165 = .ok (.getfield 163, 3) := by decide +kernel
theorem dX11_given_168 : decode cX11_given 168 = .ok (.iload_n 1, 1) := by decide +kernel
theorem dX11_given_169 : decode cX11_given 169 = .ok (.iload 7, 2) := by decide +kernel
theorem dX11_given_171 : decode cX11_given 171 = .ok (.iload 9, 2) := by decide +kernel
theorem dX11_given_173 : decode cX11_given 173 = .ok (.invokestatic 160, 3) := by decide +kernel
theorem dX11_given_176 : decode cX11_given 176 = .ok (.iaload, 1) := by decide +kernel
theorem dX11_given_177 : decode cX11_given 177 = .ok (.goto 15, 3) := by decide +kernel
theorem dX11_given_180 : decode cX11_given 180 = .ok (.aload_n 0, 1) := by decide +kernel
theorem dX11_given_181 : decode cX11_given 181 = .ok (.getfield 26, 3) := by decide +kernel
theorem dX11_given_184 : decode cX11_given 184 = .ok (.iload_n 1, 1) := by decide +kernel
theorem dX11_given_185 : decode cX11_given 185 = .ok (.iload 7, 2) := by decide +kernel
theorem dX11_given_187 : decode cX11_given 187 = .ok (.iload 9, 2) := by decide +kernel
theorem dX11_given_189 : decode cX11_given 189 = .ok (.invokevirtual 237, 3) := by decide +kernel
theorem dX11_given_192 : decode cX11_given 192 = .ok (.iadd, 1) := by decide +kernel
theorem dX11_given_193 : decode cX11_given 193 = .ok (.istore 6, 2) := by decide +kernel
theorem dX11_given_195 : decode cX11_given 195 = .ok (.iinc 9 1, 3) := by decide +kernel
theorem dX11_given_198 : decode cX11_given 198 = .ok (.goto (-70), 3) := by decide +kernel
theorem dX11_given_201 : decode cX11_given 201 = .ok (.iinc 7 1, 3) := by decide +kernel
theorem dX11_given_204 : decode cX11_given 204 = .ok (.goto (-130), 3) := by decide +kernel
theorem dX11_given_207 : decode cX11_given 207 = .ok (.iload 6, 2) := by decide +kernel
theorem dX11_given_209 : decode cX11_given 209 = .ok (.ireturn, 1) := by decide +kernel
theorem dX11_unnamed_0 : decode cX11_unnamed 0 = .ok (.iload_n 1, 1) := by decide +kernel
theorem dX11_unnamed_1 : decode cX11_unnamed 1 = .ok (.iconst (-1), 1) := by decide +kernel
theorem dX11_unnamed_2 : decode cX11_unnamed 2 = .ok (.if_icmp .ne 38, 3) := by decide +kernel
theorem dX11_unnamed_5 : decode cX11_unnamed 5 = .ok (.iconst 0, 1) := by decide +kernel
theorem dX11_unnamed_6 : decode cX11_unnamed 6 = .ok (.istore_n 2, 1) := by decide +kernel
theorem dX11_unnamed_7 : decode cX11_unnamed 7 = .ok (.iconst 0, 1) := by decide +kernel
theorem dX11_unnamed_8 : decode cX11_unnamed 8 = .ok (.istore_n 3, 1) := by decide +kernel
theorem dX11_unnamed_9 : decode cX11_unnamed 9 = .ok (.iload_n 3, 1) := by decide +kernel
theorem dX11_unnamed_10 : decode cX11_unnamed 10 = .ok (.aload_n 0, 1) := by decide +kernel
theorem dX11_unnamed_11 : decode cX11_unnamed 11 = .ok (.getfield 19, 3) := by decide +kernel
theorem dX11_unnamed_14 : decode cX11_unnamed 14 = .ok (.getfield 120, 3) := by decide +kernel
theorem dX11_unnamed_17 : decode cX11_unnamed 17 = .ok (.if_icmp .ge 21, 3) := by decide +kernel
theorem dX11_unnamed_20 : decode cX11_unnamed 20 = .ok (.iload_n 2, 1) := by decide +kernel
theorem dX11_unnamed_21 : decode cX11_unnamed 21 = .ok (.aload_n 0, 1) := by decide +kernel
theorem dX11_unnamed_22 : decode cX11_unnamed 22 = .ok (.getfield 19, 3) := by decide +kernel
theorem dX11_unnamed_25 : decode cX11_unnamed 25 = .ok (.getfield 240, 3) := by decide +kernel
theorem dX11_unnamed_28 : decode cX11_unnamed 28 = .ok (.iload_n 3, 1) := by decide +kernel
theorem dX11_unnamed_29 : decode cX11_unnamed 29 = .ok (.iaload, 1) := by decide +kernel
theorem dX11_unnamed_30 : decode cX11_unnamed 30 = .ok (.iadd, 1) := by decide +kernel
theorem dX11_unnamed_31 : decode cX11_unnamed 31 = .ok (.istore_n 2, 1) := by decide +kernel
theorem dX11_unnamed_32 : decode cX11_unnamed 32 = .ok (.iinc 3 1, 3) := by decide +kernel
theorem dX11_unnamed_35 : decode cX11_unnamed 35 = .ok (.goto (-26), 3) := by decide +kernel
theorem dX11_unnamed_38 : decode cX11_unnamed 38 = .ok (.iload_n 2, 1) := by decide +kernel
theorem dX11_unnamed_39 : decode cX11_unnamed 39 = .ok (.ireturn, 1) := by decide +kernel
theorem dX11_unnamed_40 : decode cX11_unnamed 40 = .ok (.aload_n 0, 1) := by decide +kernel
theorem dX11_unnamed_41 : decode cX11_unnamed 41 = .ok (.getfield 19, 3) := by decide +kernel
theorem dX11_unnamed_44 : decode cX11_unnamed 44 = .ok (.iload_n 1, 1) := by decide +kernel
theorem dX11_unnamed_45 : decode cX11_unnamed 45 = .ok (.invokevirtual 243, 3) := by decide +kernel
theorem dX11_unnamed_48 : decode cX11_unnamed 48 = .ok (.ifCond .eq 15, 3) := by decide +kernel
theorem dX11_unnamed_51 : decode cX11_unnamed 51 = .ok (.aload_n 0, 1) := by decide +kernel
theorem dX11_unnamed_52 : decode cX11_unnamed 52 = .ok (.getfield 19, 3) := by decide +kernel
theorem dX11_unnamed_55 : decode cX11_unnamed 55 = .ok (.getfield 240, 3) := by decide +kernel
theorem dX11_unnamed_58 : decode cX11_unnamed 58 = .ok (.iload_n 1, 1) := by decide +kernel
theorem dX11_unnamed_59 : decode cX11_unnamed 59 = .ok (.iaload, 1) := by decide +kernel
theorem dX11_unnamed_60 : decode cX11_unnamed 60 = .ok (.goto 4, 3) := by decide +kernel
theorem dX11_unnamed_63 : decode cX11_unnamed 63 = .ok (.iconst (-1), 1) := by decide +kernel
theorem dX11_unnamed_64 : decode cX11_unnamed 64 = .ok (.ireturn, 1) := by decide +kernel
theorem dX11_now_0 : decode cX11_now 0 = .ok (.iload_n 1, 1) := by decide +kernel
theorem dX11_now_1 : decode cX11_now 1 = .ok (.iload_n 2, 1) := by decide +kernel
theorem dX11_now_2 : decode cX11_now 2 = .ok (.iload_n 3, 1) := by decide +kernel
theorem dX11_now_3 : decode cX11_now 3 = .ok (.invokestatic 153, 3) := by decide +kernel
theorem dX11_now_6 : decode cX11_now 6 = .ok (.ifCond .eq 13, 3) := by decide +kernel
theorem dX11_now_9 : decode cX11_now 9 = .ok (.aload_n 0, 1) := by decide +kernel
theorem dX11_now_10 : decode cX11_now 10 = .ok (.iload_n 1, 1) := by decide +kernel
theorem dX11_now_11 : decode cX11_now 11 = .ok (.iload_n 2, 1) := by decide +kernel
theorem dX11_now_12 : decode cX11_now 12 = .ok (.iload_n 3, 1) := by decide +kernel
theorem dX11_now_13 : decode cX11_now 13 = .ok (.invokevirtual 246, 3) := by decide +kernel
theorem dX11_now_16 : decode cX11_now 16 = .ok (.ifCond .ne 6, 3) := by decide +kernel
theorem dX11_now_19 : decode cX11_now 19 = .ok (.ldc 249, 2) := by decide +kernel
theorem dX11_now_21 : decode cX11_now 21 = .ok (.ireturn, 1) := by decide +kernel
theorem dX11_now_22 : decode cX11_now 22 = .ok (.iload 4, 2) := by decide +kernel
theorem dX11_now_24 : decode cX11_now 24 = .ok (.ifCond .ne 11, 3) := by decide +kernel
theorem dX11_now_27 : decode cX11_now 27 = .ok (.aload_n 0, 1) := by decide +kernel
theorem dX11_now_28 : decode cX11_now 28 = .ok (.getfield 54, 3) := by decide +kernel
theorem dX11_now_31 : decode cX11_now 31 = .ok (.invokevirtual 250, 3) := by decide +kernel
theorem dX11_now_34 : decode cX11_now 34 = .ok (.ireturn, 1) := by decide +kernel
theorem dX11_now_35 : decode cX11_now 35 = .ok (.iload 4, 2) := by decide +kernel
theorem dX11_now_37 : decode cX11_now 37 = .ok (.iconst 1, 1) := by decide +kernel
theorem dX11_now_38 : decode cX11_now 38 = .ok (.if_icmp .ne 34, 3) := by decide +kernel
theorem dX11_now_41 : decode cX11_now 41 = .ok (.aload_n 0, 1) := by decide +kernel
theorem dX11_now_42 : decode cX11_now 42 = .ok (.getfield 54, 3) := by decide +kernel
theorem dX11_now_45 : decode cX11_now 45 = .ok (.invokevirtual 250, 3) := by decide +kernel
theorem dX11_now_48 : decode cX11_now 48 = .ok (.istore 5, 2) := by decide +kernel
theorem dX11_now_50 : decode cX11_now 50 = .ok (.iload 5, 2) := by decide +kernel
theorem dX11_now_52 : decode cX11_now 52 = .ok (.iconst (-1), 1) := by decide +kernel
theorem dX11_now_53 : decode cX11_now 53 = .ok (.if_icmp .ne 8, 3) := by decide +kernel
theorem dX11_now_56 : decode cX11_now 56 = .ok (.ldc 249, 2) := by decide +kernel
theorem dX11_now_58 : decode cX11_now 58 = .ok (.goto 13, 3) := by decide +kernel
theorem dX11_now_61 : decode cX11_now 61 = .ok (.aload_n 0, 1) := by decide +kernel
theorem dX11_now_62 : decode cX11_now 62 = .ok (.getfield 54, 3) := by decide +kernel
theorem dX11_now_65 : decode cX11_now 65 = .ok (.getfield 254, 3) := by decide +kernel
theorem dX11_now_68 : decode cX11_now 68 = .ok (.iload 5, 2) := by decide +kernel
theorem dX11_now_70 : decode cX11_now 70 = .ok (.iaload, 1) := by decide +kernel
theorem dX11_now_71 : decode cX11_now 71 = .ok (.ireturn, 1) := by decide +kernel
theorem dX11_now_72 : decode cX11_now 72 = .ok (.iload 4, 2) := by decide +kernel
theorem dX11_now_74 : decode cX11_now 74 = .ok (.bipush 100, 2) := by decide +kernel
theorem dX11_now_76 : decode cX11_now 76 = .ok (.bipush 99, 2) := by decide +kernel
theorem dX11_now_78 : decode cX11_now 78 = .ok (.aload_n 0, 1) := by decide +kernel
theorem dX11_now_79 : decode cX11_now 79 = .ok (.getfield 10, 3) := by decide +kernel
theorem dX11_now_82 : decode cX11_now 82 = .ok (.getfield 109, 3) := by decide +kernel
theorem dX11_now_85 : decode cX11_now 85 = .ok (.iadd, 1) := by decide +kernel
theorem dX11_now_86 : decode cX11_now 86 = .ok (.invokestatic 105, 3) := by decide +kernel
theorem dX11_now_89 : decode cX11_now 89 = .ok (.ifCond .eq 17, 3) := by decide +kernel
theorem dX11_now_92 : decode cX11_now 92 = .ok (.aload_n 0, 1) := by decide +kernel
theorem dX11_now_93 : decode cX11_now 93 = .ok (.getfield 54, 3) := by decide +kernel
theorem dX11_now_96 : decode cX11_now 96 = .ok (.getfield 254, 3) := by decide +kernel
theorem dX11_now_99 : decode cX11_now 99 = .ok (.iload 4, 2) := by decide +kernel
theorem dX11_now_101 : decode cX11_now 101 = .ok (.bipush 100, 2) := by decide +kernel
theorem dX11_now_103 : decode cX11_now 103 = .ok (.isub, 1) := by decide +kernel
theorem dX11_now_104 : decode cX11_now 104 = .ok (.iaload, 1) := by decide +kernel
theorem dX11_now_105 : decode cX11_now 105 = .ok (.ireturn, 1) := by decide +kernel
theorem dX11_now_106 : decode cX11_now 106 = .ok (.iload 4, 2) := by decide +kernel
theorem dX11_now_108 : decode cX11_now 108 = .ok (.sipush 200, 3) := by decide +kernel
theorem dX11_now_111 : decode cX11_now 111 = .ok (.sipush 199, 3) := by decide +kernel
theorem dX11_now_114 : decode cX11_now 114 = .ok (.aload_n 0, 1) := by decide +kernel
theorem dX11_now_115 : decode cX11_now 115 = .ok (.getfield 10, 3) := by decide +kernel
theorem dX11_now_118 : decode cX11_now 118 = .ok (.getfield 109, 3) := by decide +kernel
theorem dX11_now_121 : decode cX11_now 121 = .ok (.iadd, 1) := by decide +kernel
theorem dX11_now_122 : decode cX11_now 122 = .ok (.invokestatic 105, 3) := by decide +kernel
theorem dX11_now_125 : decode cX11_now 125 = .ok (.ifCond .eq 26, 3) := by decide +kernel
theorem dX11_now_128 : decode cX11_now 128 = .ok (.aload_n 0, 1) := by decide +kernel
theorem dX11_now_129 : decode cX11_now 129 = .ok (.getfield 54, 3) := by decide +kernel
theorem dX11_now_132 : decode cX11_now 132 = .ok (.getfield 257, 3) := by decide +kernel
theorem dX11_now_135 : decode cX11_now 135 = .ok (.iload 4, 2) := by decide +kernel
theorem dX11_now_137 : decode cX11_now 137 = .ok (.sipush 200, 3) := by decide +kernel
theorem dX11_now_140 : decode cX11_now 140 = .ok (.isub, 1) := by decide +kernel
theorem dX11_now_141 : decode cX11_now 141 = .ok (.baload, 1) := by decide +kernel
theorem dX11_now_142 : decode cX11_now 142 = .ok (.ifCond .eq 7, 3) := by decide +kernel
theorem dX11_now_145 : decode cX11_now 145 = .ok (.iconst 1, 1) := by decide +kernel
theorem dX11_now_146 : decode cX11_now 146 = .ok (.goto 4, 3) := by decide +kernel
theorem dX11_now_149 : decode cX11_now 149 = .ok (.iconst 0, 1) := by decide +kernel
theorem dX11_now_150 : decode cX11_now 150 = .ok (.ireturn, 1) := by decide +kernel
theorem dX11_now_151 : decode cX11_now 151 = .ok (.ldc 249, 2) := by decide +kernel
theorem dX11_now_153 : decode cX11_now 153 = .ok (.ireturn, 1) := by decide +kernel
theorem dX11_shape_0 : decode cX11_shape 0 = .ok (.aload_n 0, 1) := by decide +kernel
theorem dX11_shape_1 : decode cX11_shape 1 = .ok (.getfield 10, 3) := by decide +kernel
theorem dX11_shape_4 : decode cX11_shape 4 = .ok (.iload_n 1, 1) := by decide +kernel
theorem dX11_shape_5 : decode cX11_shape 5 = .ok (.invokevirtual 127, 3) := by decide +kernel
theorem dX11_shape_8 : decode cX11_shape 8 = .ok (.ifCond .eq 12, 3) := by decide +kernel
theorem dX11_shape_11 : decode cX11_shape 11 = .ok (.iload_n 2, 1) := by decide +kernel
theorem dX11_shape_12 : decode cX11_shape 12 = .ok (.iconst 0, 1) := by decide +kernel
theorem dX11_shape_13 : decode cX11_shape 13 = .ok (.iconst 3, 1) := by decide +kernel
theorem dX11_shape_14 : decode cX11_shape 14 = .ok (.invokestatic 105, 3) := by decide +kernel
theorem dX11_shape_17 : decode cX11_shape 17 = .ok (.ifCond .ne 5, 3) := by decide +kernel
theorem dX11_shape_20 : decode cX11_shape 20 = .ok (.iconst (-1), 1) := by decide +kernel
theorem dX11_shape_21 : decode cX11_shape 21 = .ok (.ireturn, 1) := by decide +kernel
theorem dX11_shape_22 : decode cX11_shape 22 = .ok (.aload_n 0, 1) := by decide +kernel
theorem dX11_shape_23 : decode cX11_shape 23 = .ok (.getfield 72, 3) := by decide +kernel
theorem dX11_shape_26 : decode cX11_shape 26 = .ok (.iload_n 1, 1) := by decide +kernel
theorem dX11_shape_27 : decode cX11_shape 27 = .ok (.invokevirtual 261, 3) := by decide +kernel
theorem dX11_shape_30 : decode cX11_shape 30 = .ok (.istore_n 3, 1) := by decide +kernel
theorem dX11_shape_31 : decode cX11_shape 31 = .ok (.iload_n 3, 1) := by decide +kernel
theorem dX11_shape_32 : decode cX11_shape 32 = .ok (.iconst (-1), 1) := by decide +kernel
theorem dX11_shape_33 : decode cX11_shape 33 = .ok (.if_icmp .eq 7, 3) := by decide +kernel
theorem dX11_shape_36 : decode cX11_shape 36 = .ok (.iload_n 2, 1) := by decide +kernel
theorem dX11_shape_37 : decode cX11_shape 37 = .ok (.ifCond .ne 5, 3) := by decide +kernel
theorem dX11_shape_40 : decode cX11_shape 40 = .ok (.iload_n 3, 1) := by decide +kernel
theorem dX11_shape_41 : decode cX11_shape 41 = .ok (.ireturn, 1) := by decide +kernel
theorem dX11_shape_42 : decode cX11_shape 42 = .ok (.iload_n 2, 1) := by decide +kernel
theorem dX11_shape_43 : decode cX11_shape 43 = .ok (.iconst 1, 1) := by decide +kernel
theorem dX11_shape_44 : decode cX11_shape 44 = .ok (.if_icmp .ne 13, 3) := by decide +kernel
theorem dX11_shape_47 : decode cX11_shape 47 = .ok (.aload_n 0, 1) := by decide +kernel
theorem dX11_shape_48 : decode cX11_shape 48 = .ok (.getfield 72, 3) := by decide +kernel
theorem dX11_shape_51 : decode cX11_shape 51 = .ok (.iload_n 1, 1) := by decide +kernel
theorem dX11_shape_52 : decode cX11_shape 52 = .ok (.iload_n 3, 1) := by decide +kernel
theorem dX11_shape_53 : decode cX11_shape 53 = .ok (.invokevirtual 264, 3) := by decide +kernel
theorem dX11_shape_56 : decode cX11_shape 56 = .ok (.ireturn, 1) := by decide +kernel
theorem dX11_shape_57 : decode cX11_shape 57 = .ok (.aload_n 0, 1) := by decide +kernel
theorem dX11_shape_58 : decode cX11_shape 58 = .ok (.getfield 72, 3) := by decide +kernel
theorem dX11_shape_61 : decode cX11_shape 61 = .ok (.iload_n 1, 1) := by decide +kernel
theorem dX11_shape_62 : decode cX11_shape 62 = .ok (.iload_n 3, 1) := by decide +kernel
theorem dX11_shape_63 : decode cX11_shape 63 = .ok (.iload_n 2, 1) := by decide +kernel
theorem dX11_shape_64 : decode cX11_shape 64 = .ok (.iconst 2, 1) := by decide +kernel
theorem dX11_shape_65 : decode cX11_shape 65 = .ok (.if_icmp .ne 7, 3) := by decide +kernel
theorem dX11_shape_68 : decode cX11_shape 68 = .ok (.iconst (-1), 1) := by decide +kernel
theorem dX11_shape_69 : decode cX11_shape 69 = .ok (.goto 4, 3) := by decide +kernel
theorem dX11_shape_72 : decode cX11_shape 72 = .ok (.iconst 1, 1) := by decide +kernel
theorem dX11_shape_73 : decode cX11_shape 73 = .ok (.invokevirtual 267, 3) := by decide +kernel
theorem dX11_shape_76 : decode cX11_shape 76 = .ok (.ireturn, 1) := by decide +kernel
theorem dX11_shapes_0 : decode cX11_shapes 0 = .ok (.iload_n 1, 1) := by decide +kernel
theorem dX11_shapes_1 : decode cX11_shapes 1 = .ok (.iconst 0, 1) := by decide +kernel
theorem dX11_shapes_2 : decode cX11_shapes 2 = .ok (.iconst 1, 1) := by decide +kernel
theorem dX11_shapes_3 : decode cX11_shapes 3 = .ok (.invokestatic 105, 3) := by decide +kernel
theorem dX11_shapes_6 : decode cX11_shapes 6 = .ok (.ifCond .eq 22, 3) := by decide +kernel
theorem dX11_shapes_9 : decode cX11_shapes 9 = .ok (.aload_n 0, 1) := by decide +kernel
theorem dX11_shapes_10 : decode cX11_shapes 10 = .ok (.getfield 72, 3) := by decide +kernel
theorem dX11_shapes_13 : decode cX11_shapes 13 = .ok (.iload_n 1, 1) := by decide +kernel
theorem dX11_shapes_14 : decode cX11_shapes 14 = .ok (.ifCond .ne 7, 3) := by decide +kernel
theorem dX11_shapes_17 : decode cX11_shapes 17 = .ok (.iconst 1, 1) := by decide +kernel
theorem dX11_shapes_18 : decode cX11_shapes 18 = .ok (.goto 4, 3) := by decide +kernel
theorem dX11_shapes_21 : decode cX11_shapes 21 = .ok (.iconst 0, 1) := by decide +kernel
theorem dX11_shapes_22 : decode cX11_shapes 22 = .ok (.invokevirtual 270, 3) := by decide +kernel
theorem dX11_shapes_25 : decode cX11_shapes 25 = .ok (.goto 4, 3) := by decide +kernel
theorem dX11_shapes_28 : decode cX11_shapes 28 = .ok (.iconst (-1), 1) := by decide +kernel
theorem dX11_shapes_29 : decode cX11_shapes 29 = .ok (.ireturn, 1) := by decide +kernel
theorem dX11_lag_0 : decode cX11_lag 0 = .ok (.aload_n 0, 1) := by decide +kernel
theorem dX11_lag_1 : decode cX11_lag 1 = .ok (.getfield 19, 3) := by decide +kernel
theorem dX11_lag_4 : decode cX11_lag 4 = .ok (.getfield 120, 3) := by decide +kernel
theorem dX11_lag_7 : decode cX11_lag 7 = .ok (.ifCond .ne 5, 3) := by decide +kernel
theorem dX11_lag_10 : decode cX11_lag 10 = .ok (.iconst (-1), 1) := by decide +kernel
theorem dX11_lag_11 : decode cX11_lag 11 = .ok (.ireturn, 1) := by decide +kernel
theorem dX11_lag_12 : decode cX11_lag 12 = .ok (.aload_n 0, 1) := by decide +kernel
theorem dX11_lag_13 : decode cX11_lag 13 = .ok (.getfield 72, 3) := by decide +kernel
theorem dX11_lag_16 : decode cX11_lag 16 = .ok (.invokevirtual 274, 3) := by decide +kernel
theorem dX11_lag_19 : decode cX11_lag 19 = .ok (.iload_n 1, 1) := by decide +kernel
theorem dX11_lag_20 : decode cX11_lag 20 = .ok (.bipush 10, 2) := by decide +kernel
theorem dX11_lag_22 : decode cX11_lag 22 = .ok (.bipush 30, 2) := by decide +kernel
theorem dX11_lag_24 : decode cX11_lag 24 = .ok (.invokestatic 105, 3) := by decide +kernel
theorem dX11_lag_27 : decode cX11_lag 27 = .ok (.ifCond .eq 15, 3) := by decide +kernel
theorem dX11_lag_30 : decode cX11_lag 30 = .ok (.aload_n 0, 1) := by decide +kernel
theorem dX11_lag_31 : decode cX11_lag 31 = .ok (.getfield 72, 3) := by decide +kernel
theorem dX11_lag_34 : decode cX11_lag 34 = .ok (.iload_n 1, 1) := by decide +kernel
theorem dX11_lag_35 : decode cX11_lag 35 = .ok (.bipush 10, 2) := by decide +kernel
theorem dX11_lag_37 : decode cX11_lag 37 = .ok (.isub, 1) := by decide +kernel
theorem dX11_lag_38 : decode cX11_lag 38 = .ok (.invokevirtual 277, 3) := by decide +kernel
theorem dX11_lag_41 : decode cX11_lag 41 = .ok (.ireturn, 1) := by decide +kernel
theorem dX11_lag_42 : decode cX11_lag 42 = .ok (.iload_n 1, 1) := by decide +kernel
theorem dX11_lag_43 : decode cX11_lag 43 = .ok (.iconst 0, 1) := by decide +kernel
theorem dX11_lag_44 : decode cX11_lag 44 = .ok (.iconst 1, 1) := by decide +kernel
theorem dX11_lag_45 : decode cX11_lag 45 = .ok (.invokestatic 105, 3) := by decide +kernel
theorem dX11_lag_48 : decode cX11_lag 48 = .ok (.ifCond .ne 5, 3) := by decide +kernel
theorem dX11_lag_51 : decode cX11_lag 51 = .ok (.iconst (-1), 1) := by decide +kernel
theorem dX11_lag_52 : decode cX11_lag 52 = .ok (.ireturn, 1) := by decide +kernel
theorem dX11_lag_53 : decode cX11_lag 53 = .ok (.aload_n 0, 1) := by decide +kernel
theorem dX11_lag_54 : decode cX11_lag 54 = .ok (.getfield 72, 3) := by decide +kernel
theorem dX11_lag_57 : decode cX11_lag 57 = .ok (.invokevirtual 280, 3) := by decide +kernel
theorem dX11_lag_60 : decode cX11_lag 60 = .ok (.istore_n 2, 1) := by decide +kernel
theorem dX11_lag_61 : decode cX11_lag 61 = .ok (.iload_n 1, 1) := by decide +kernel
theorem dX11_lag_62 : decode cX11_lag 62 = .ok (.ifCond .ne 7, 3) := by decide +kernel
theorem dX11_lag_65 : decode cX11_lag 65 = .ok (.iload_n 2, 1) := by decide +kernel
theorem dX11_lag_66 : decode cX11_lag 66 = .ok (.goto 11, 3) := by decide +kernel
theorem dX11_lag_69 : decode cX11_lag 69 = .ok (.aload_n 0, 1) := by decide +kernel
theorem dX11_lag_70 : decode cX11_lag 70 = .ok (.getfield 72, 3) := by decide +kernel
theorem dX11_lag_73 : decode cX11_lag 73 = .ok (.iload_n 2, 1) := by decide +kernel
theorem dX11_lag_74 : decode cX11_lag 74 = .ok (.invokevirtual 277, 3) := by decide +kernel
theorem dX11_lag_77 : decode cX11_lag 77 = .ok (.ireturn, 1) := by decide +kernel
theorem dX11_together_0 : decode cX11_together 0 = .ok (.aload_n 0, 1) := by decide +kernel
theorem dX11_together_1 : decode cX11_together 1 = .ok (.getfield 10, 3) := by decide +kernel
theorem dX11_together_4 : decode cX11_together 4 = .ok (.iload_n 1, 1) := by decide +kernel
theorem dX11_together_5 : decode cX11_together 5 = .ok (.invokevirtual 127, 3) := by decide +kernel
theorem dX11_together_8 : decode cX11_together 8 = .ok (.ifCond .eq 14, 3) := by decide +kernel
theorem dX11_together_11 : decode cX11_together 11 = .ok (.aload_n 0, 1) := by decide +kernel
theorem dX11_together_12 : decode cX11_together 12 = .ok (.getfield 19, 3) := by decide +kernel
theorem dX11_together_15 : decode cX11_together 15 = .ok (.iload_n 2, 1) := by decide +kernel
theorem dX11_together_16 : decode cX11_together 16 = .ok (.invokevirtual 243, 3) := by decide +kernel
theorem dX11_together_19 : decode cX11_together 19 = .ok (.ifCond .ne 5, 3) := by decide +kernel
theorem dX11_together_22 : decode cX11_together 22 = .ok (.iconst (-1), 1) := by decide +kernel
theorem dX11_together_23 : decode cX11_together 23 = .ok (.ireturn, 1) := by decide +kernel
theorem dX11_together_24 : decode cX11_together 24 = .ok (.aload_n 0, 1) := by decide +kernel
theorem dX11_together_25 : decode cX11_together 25 = .ok (.getfield 72, 3) := by decide +kernel
theorem dX11_together_28 : decode cX11_together 28 = .ok (.iload_n 1, 1) := by decide +kernel
theorem dX11_together_29 : decode cX11_together 29 = .ok (.iload_n 2, 1) := by decide +kernel
theorem dX11_together_30 : decode cX11_together 30 = .ok (.invokevirtual 283, 3) := by decide +kernel
theorem dX11_together_33 : decode cX11_together 33 = .ok (.ireturn, 1) := by decide +kernel
theorem dX11_took_0 : decode cX11_took 0 = .ok (.iload_n 1, 1) := by decide +kernel
theorem dX11_took_1 : decode cX11_took 1 = .ok (.iconst 0, 1) := by decide +kernel
theorem dX11_took_2 : decode cX11_took 2 = .ok (.aload_n 0, 1) := by decide +kernel
theorem dX11_took_3 : decode cX11_took 3 = .ok (.getfield 19, 3) := by decide +kernel
theorem dX11_took_6 : decode cX11_took 6 = .ok (.getfield 182, 3) := by decide +kernel
theorem dX11_took_9 : decode cX11_took 9 = .ok (.iconst 1, 1) := by decide +kernel
theorem dX11_took_10 : decode cX11_took 10 = .ok (.isub, 1) := by decide +kernel
theorem dX11_took_11 : decode cX11_took 11 = .ok (.invokestatic 105, 3) := by decide +kernel
theorem dX11_took_14 : decode cX11_took 14 = .ok (.ifCond .eq 25, 3) := by decide +kernel
theorem dX11_took_17 : decode cX11_took 17 = .ok (.aload_n 0, 1) := by decide +kernel
theorem dX11_took_18 : decode cX11_took 18 = .ok (.getfield 10, 3) := by decide +kernel
theorem dX11_took_21 : decode cX11_took 21 = .ok (.iload_n 2, 1) := by decide +kernel
theorem dX11_took_22 : decode cX11_took 22 = .ok (.invokevirtual 127, 3) := by decide +kernel
theorem dX11_took_25 : decode cX11_took 25 = .ok (.ifCond .eq 14, 3) := by decide +kernel
theorem dX11_took_28 : decode cX11_took 28 = .ok (.aload_n 0, 1) := by decide +kernel
theorem dX11_took_29 : decode cX11_took 29 = .ok (.getfield 19, 3) := by decide +kernel
theorem dX11_took_32 : decode cX11_took 32 = .ok (.iload_n 3, 1) := by decide +kernel
theorem dX11_took_33 : decode cX11_took 33 = .ok (.invokevirtual 243, 3) := by decide +kernel
theorem dX11_took_36 : decode cX11_took 36 = .ok (.ifCond .ne 7, 3) := by decide +kernel
theorem dX11_took_39 : decode cX11_took 39 = .ok (.sipush (-1000), 3) := by decide +kernel
theorem dX11_took_42 : decode cX11_took 42 = .ok (.ireturn, 1) := by decide +kernel
theorem dX11_took_43 : decode cX11_took 43 = .ok (.aload_n 0, 1) := by decide +kernel
theorem dX11_took_44 : decode cX11_took 44 = .ok (.iload_n 1, 1) := by decide +kernel
theorem dX11_took_45 : decode cX11_took 45 = .ok (.iconst 0, 1) := by decide +kernel
theorem dX11_took_46 : decode cX11_took 46 = .ok (.iload_n 2, 1) := by decide +kernel
theorem dX11_took_47 : decode cX11_took 47 = .ok (.iload_n 3, 1) := by decide +kernel
theorem dX11_took_48 : decode cX11_took 48 = .ok (.invokevirtual 286, 3) := by decide +kernel
theorem dX11_took_51 : decode cX11_took 51 = .ok (.ireturn, 1) := by decide +kernel
theorem dX11_sound_0 : decode cX11_sound 0 = .ok (.aload_n 0, 1) := by decide +kernel
theorem dX11_sound_1 : decode cX11_sound 1 = .ok (.getfield 10, 3) := by decide +kernel
theorem dX11_sound_4 : decode cX11_sound 4 = .ok (.iload_n 1, 1) := by decide +kernel
theorem dX11_sound_5 : decode cX11_sound 5 = .ok (.invokevirtual 127, 3) := by decide +kernel
theorem dX11_sound_8 : decode cX11_sound 8 = .ok (.ifCond .eq 14, 3) := by decide +kernel
theorem dX11_sound_11 : decode cX11_sound 11 = .ok (.aload_n 0, 1) := by decide +kernel
theorem dX11_sound_12 : decode cX11_sound 12 = .ok (.getfield 19, 3) := by decide +kernel
theorem dX11_sound_15 : decode cX11_sound 15 = .ok (.iload_n 2, 1) := by decide +kernel
theorem dX11_sound_16 : decode cX11_sound 16 = .ok (.invokevirtual 243, 3) := by decide +kernel
theorem dX11_sound_19 : decode cX11_sound 19 = .ok (.ifCond .ne 7, 3) := by decide +kernel
theorem dX11_sound_22 : decode cX11_sound 22 = .ok (.sipush (-1000), 3) := by decide +kernel
theorem dX11_sound_25 : decode cX11_sound 25 = .ok (.ireturn, 1) := by decide +kernel
theorem dX11_sound_26 : decode cX11_sound 26 = .ok (.aload_n 0, 1) := by decide +kernel
theorem dX11_sound_27 : decode cX11_sound 27 = .ok (.iconst (-1), 1) := by decide +kernel
theorem dX11_sound_28 : decode cX11_sound 28 = .ok (.iconst 1, 1) := by decide +kernel
theorem dX11_sound_29 : decode cX11_sound 29 = .ok (.iload_n 1, 1) := by decide +kernel
theorem dX11_sound_30 : decode cX11_sound 30 = .ok (.iload_n 2, 1) := by decide +kernel
theorem dX11_sound_31 : decode cX11_sound 31 = .ok (.invokevirtual 286, 3) := by decide +kernel
theorem dX11_sound_34 : decode cX11_sound 34 = .ok (.ireturn, 1) := by decide +kernel
theorem dX11_crossed_0 : decode cX11_crossed 0 = .ok (.aload_n 0, 1) := by decide +kernel
theorem dX11_crossed_1 : decode cX11_crossed 1 = .ok (.getfield 10, 3) := by decide +kernel
theorem dX11_crossed_4 : decode cX11_crossed 4 = .ok (.iload_n 1, 1) := by decide +kernel
theorem dX11_crossed_5 : decode cX11_crossed 5 = .ok (.invokevirtual 127, 3) := by decide +kernel
theorem dX11_crossed_8 : decode cX11_crossed 8 = .ok (.ifCond .eq 12, 3) := by decide +kernel
theorem dX11_crossed_11 : decode cX11_crossed 11 = .ok (.iload_n 2, 1) := by decide +kernel
theorem dX11_crossed_12 : decode cX11_crossed 12 = .ok (.iconst 0, 1) := by decide +kernel
theorem dX11_crossed_13 : decode cX11_crossed 13 = .ok (.iconst 1, 1) := by decide +kernel
theorem dX11_crossed_14 : decode cX11_crossed 14 = .ok (.invokestatic 105, 3) := by decide +kernel
theorem dX11_crossed_17 : decode cX11_crossed 17 = .ok (.ifCond .ne 5, 3) := by decide +kernel
theorem dX11_crossed_20 : decode cX11_crossed 20 = .ok (.iconst (-1), 1) := by decide +kernel
theorem dX11_crossed_21 : decode cX11_crossed 21 = .ok (.ireturn, 1) := by decide +kernel
theorem dX11_crossed_22 : decode cX11_crossed 22 = .ok (.aload_n 0, 1) := by decide +kernel
theorem dX11_crossed_23 : decode cX11_crossed 23 = .ok (.getfield 72, 3) := by decide +kernel
theorem dX11_crossed_26 : decode cX11_crossed 26 = .ok (.iload_n 1, 1) := by decide +kernel
theorem dX11_crossed_27 : decode cX11_crossed 27 = .ok (.invokevirtual 290, 3) := by decide +kernel
theorem dX11_crossed_30 : decode cX11_crossed 30 = .ok (.istore_n 3, 1) := by decide +kernel
theorem dX11_crossed_31 : decode cX11_crossed 31 = .ok (.iload_n 3, 1) := by decide +kernel
theorem dX11_crossed_32 : decode cX11_crossed 32 = .ok (.iconst (-1), 1) := by decide +kernel
theorem dX11_crossed_33 : decode cX11_crossed 33 = .ok (.if_icmp .eq 7, 3) := by decide +kernel
theorem dX11_crossed_36 : decode cX11_crossed 36 = .ok (.iload_n 2, 1) := by decide +kernel
theorem dX11_crossed_37 : decode cX11_crossed 37 = .ok (.ifCond .ne 5, 3) := by decide +kernel
theorem dX11_crossed_40 : decode cX11_crossed 40 = .ok (.iload_n 3, 1) := by decide +kernel
theorem dX11_crossed_41 : decode cX11_crossed 41 = .ok (.ireturn, 1) := by decide +kernel
theorem dX11_crossed_42 : decode cX11_crossed 42 = .ok (.aload_n 0, 1) := by decide +kernel
theorem dX11_crossed_43 : decode cX11_crossed 43 = .ok (.getfield 72, 3) := by decide +kernel
theorem dX11_crossed_46 : decode cX11_crossed 46 = .ok (.iload_n 1, 1) := by decide +kernel
theorem dX11_crossed_47 : decode cX11_crossed 47 = .ok (.iload_n 3, 1) := by decide +kernel
theorem dX11_crossed_48 : decode cX11_crossed 48 = .ok (.invokevirtual 293, 3) := by decide +kernel
theorem dX11_crossed_51 : decode cX11_crossed 51 = .ok (.ifCond .eq 7, 3) := by decide +kernel
theorem dX11_crossed_54 : decode cX11_crossed 54 = .ok (.iconst 1, 1) := by decide +kernel
theorem dX11_crossed_55 : decode cX11_crossed 55 = .ok (.goto 4, 3) := by decide +kernel
theorem dX11_crossed_58 : decode cX11_crossed 58 = .ok (.iconst 0, 1) := by decide +kernel
theorem dX11_crossed_59 : decode cX11_crossed 59 = .ok (.ireturn, 1) := by decide +kernel
theorem dX11_returned_0 : decode cX11_returned 0 = .ok (.aload_n 0, 1) := by decide +kernel
theorem dX11_returned_1 : decode cX11_returned 1 = .ok (.getfield 10, 3) := by decide +kernel
theorem dX11_returned_4 : decode cX11_returned 4 = .ok (.iload_n 1, 1) := by decide +kernel
theorem dX11_returned_5 : decode cX11_returned 5 = .ok (.invokevirtual 127, 3) := by decide +kernel
theorem dX11_returned_8 : decode cX11_returned 8 = .ok (.ifCond .eq 22, 3) := by decide +kernel
theorem dX11_returned_11 : decode cX11_returned 11 = .ok (.iload_n 2, 1) := by decide +kernel
theorem dX11_returned_12 : decode cX11_returned 12 = .ok (.iconst 1, 1) := by decide +kernel
theorem dX11_returned_13 : decode cX11_returned 13 = .ok (.bipush 60, 2) := by decide +kernel
theorem dX11_returned_15 : decode cX11_returned 15 = .ok (.invokestatic 105, 3) := by decide +kernel
theorem dX11_returned_18 : decode cX11_returned 18 = .ok (.ifCond .eq 12, 3) := by decide +kernel
theorem dX11_returned_21 : decode cX11_returned 21 = .ok (.iload_n 3, 1) := by decide +kernel
theorem dX11_returned_22 : decode cX11_returned 22 = .ok (.iconst 0, 1) := by decide +kernel
theorem dX11_returned_23 : decode cX11_returned 23 = .ok (.iconst 2, 1) := by decide +kernel
theorem dX11_returned_24 : decode cX11_returned 24 = .ok (.invokestatic 105, 3) := by decide +kernel
theorem dX11_returned_27 : decode cX11_returned 27 = .ok (.ifCond .ne 5, 3) := by decide +kernel
theorem dX11_returned_30 : decode cX11_returned 30 = .ok (.iconst (-1), 1) := by decide +kernel
theorem dX11_returned_31 : decode cX11_returned 31 = .ok (.ireturn, 1) := by decide +kernel
theorem dX11_returned_32 : decode cX11_returned 32 = .ok (.aload_n 0, 1) := by decide +kernel
theorem dX11_returned_33 : decode cX11_returned 33 = .ok (.getfield 72, 3) := by decide +kernel
theorem dX11_returned_36 : decode cX11_returned 36 = .ok (.iload_n 1, 1) := by decide +kernel
theorem dX11_returned_37 : decode cX11_returned 37 = .ok (.iload_n 2, 1) := by decide +kernel
theorem dX11_returned_38 : decode cX11_returned 38 = .ok (.invokevirtual 296, 3) := by decide +kernel
theorem dX11_returned_41 : decode cX11_returned 41 = .ok (.istore 4, 2) := by decide +kernel
theorem dX11_returned_43 : decode cX11_returned 43 = .ok (.iload 4, 2) := by decide +kernel
theorem dX11_returned_45 : decode cX11_returned 45 = .ok (.iconst (-1), 1) := by decide +kernel
theorem dX11_returned_46 : decode cX11_returned 46 = .ok (.if_icmp .eq 7, 3) := by decide +kernel
theorem dX11_returned_49 : decode cX11_returned 49 = .ok (.iload_n 3, 1) := by decide +kernel
theorem dX11_returned_50 : decode cX11_returned 50 = .ok (.ifCond .ne 6, 3) := by decide +kernel
theorem dX11_returned_53 : decode cX11_returned 53 = .ok (.iload 4, 2) := by decide +kernel
theorem dX11_returned_55 : decode cX11_returned 55 = .ok (.ireturn, 1) := by decide +kernel
theorem dX11_returned_56 : decode cX11_returned 56 = .ok (.iload_n 3, 1) := by decide +kernel
theorem dX11_returned_57 : decode cX11_returned 57 = .ok (.iconst 1, 1) := by decide +kernel
theorem dX11_returned_58 : decode cX11_returned 58 = .ok (.if_icmp .ne 16, 3) := by decide +kernel
theorem dX11_returned_61 : decode cX11_returned 61 = .ok (.aload_n 0, 1) := by decide +kernel
theorem dX11_returned_62 : decode cX11_returned 62 = .ok (.getfield 72, 3) := by decide +kernel
theorem dX11_returned_65 : decode cX11_returned 65 = .ok (.iload_n 1, 1) := by decide +kernel
theorem dX11_returned_66 : decode cX11_returned 66 = .ok (.iload 4, 2) := by decide +kernel
theorem dX11_returned_68 : decode cX11_returned 68 = .ok (.invokevirtual 299, 3) := by decide +kernel
theorem dX11_returned_71 : decode cX11_returned 71 = .ok (.goto 15, 3) := by decide +kernel
theorem dX11_returned_74 : decode cX11_returned 74 = .ok (.aload_n 0, 1) := by decide +kernel
theorem dX11_returned_75 : decode cX11_returned 75 = .ok (.getfield 72, 3) := by decide +kernel
theorem dX11_returned_78 : decode cX11_returned 78 = .ok (.iload_n 1, 1) := by decide +kernel
theorem dX11_returned_79 : decode cX11_returned 79 = .ok (.iload 4, 2) := by decide +kernel
theorem dX11_returned_81 : decode cX11_returned 81 = .ok (.iconst 1, 1) := by decide +kernel
theorem dX11_returned_82 : decode cX11_returned 82 = .ok (.isub, 1) := by decide +kernel
theorem dX11_returned_83 : decode cX11_returned 83 = .ok (.invokevirtual 145, 3) := by decide +kernel
theorem dX11_returned_86 : decode cX11_returned 86 = .ok (.ireturn, 1) := by decide +kernel
theorem dX11_room_0 : decode cX11_room 0 = .ok (.iload_n 1, 1) := by decide +kernel
theorem dX11_room_1 : decode cX11_room 1 = .ok (.iconst 0, 1) := by decide +kernel
theorem dX11_room_2 : decode cX11_room 2 = .ok (.iconst 2, 1) := by decide +kernel
theorem dX11_room_3 : decode cX11_room 3 = .ok (.invokestatic 105, 3) := by decide +kernel
theorem dX11_room_6 : decode cX11_room 6 = .ok (.ifCond .eq 24, 3) := by decide +kernel
theorem dX11_room_9 : decode cX11_room 9 = .ok (.aload_n 0, 1) := by decide +kernel
theorem dX11_room_10 : decode cX11_room 10 = .ok (.getfield 19, 3) := by decide +kernel
theorem dX11_room_13 : decode cX11_room 13 = .ok (.iload_n 2, 1) := by decide +kernel
theorem dX11_room_14 : decode cX11_room 14 = .ok (.invokevirtual 243, 3) := by decide +kernel
theorem dX11_room_17 : decode cX11_room 17 = .ok (.ifCond .eq 13, 3) := by decide +kernel
theorem dX11_room_20 : decode cX11_room 20 = .ok (.iload_n 3, 1) := by decide +kernel
theorem dX11_room_21 : decode cX11_room 21 = .ok (.iconst 2, 1) := by decide +kernel
theorem dX11_room_22 : decode cX11_room 22 = .ok (.bipush 8, 2) := by decide +kernel
theorem dX11_room_24 : decode cX11_room 24 = .ok (.invokestatic 105, 3) := by decide +kernel
theorem dX11_room_27 : decode cX11_room 27 = .ok (.ifCond .ne 5, 3) := by decide +kernel
theorem dX11_room_30 : decode cX11_room 30 = .ok (.iconst (-1), 1) := by decide +kernel
theorem dX11_room_31 : decode cX11_room 31 = .ok (.ireturn, 1) := by decide +kernel
theorem dX11_room_32 : decode cX11_room 32 = .ok (.aload_n 0, 1) := by decide +kernel
theorem dX11_room_33 : decode cX11_room 33 = .ok (.getfield 72, 3) := by decide +kernel
theorem dX11_room_36 : decode cX11_room 36 = .ok (.iload_n 1, 1) := by decide +kernel
theorem dX11_room_37 : decode cX11_room 37 = .ok (.iload_n 2, 1) := by decide +kernel
theorem dX11_room_38 : decode cX11_room 38 = .ok (.iload_n 3, 1) := by decide +kernel
theorem dX11_room_39 : decode cX11_room 39 = .ok (.iload 4, 2) := by decide +kernel
theorem dX11_room_41 : decode cX11_room 41 = .ok (.invokevirtual 302, 3) := by decide +kernel
theorem dX11_room_44 : decode cX11_room 44 = .ok (.ireturn, 1) := by decide +kernel
theorem dX11_best_0 : decode cX11_best 0 = .ok (.iload_n 1, 1) := by decide +kernel
theorem dX11_best_1 : decode cX11_best 1 = .ok (.iload_n 2, 1) := by decide +kernel
theorem dX11_best_2 : decode cX11_best 2 = .ok (.iload_n 3, 1) := by decide +kernel
theorem dX11_best_3 : decode cX11_best 3 = .ok (.invokestatic 153, 3) := by decide +kernel
theorem dX11_best_6 : decode cX11_best 6 = .ok (.ifCond .eq 23, 3) := by decide +kernel
theorem dX11_best_9 : decode cX11_best 9 = .ok (.iload 4, 2) := by decide +kernel
theorem dX11_best_11 : decode cX11_best 11 = .ok (.iconst 0, 1) := by decide +kernel
theorem dX11_best_12 : decode cX11_best 12 = .ok (.iconst 1, 1) := by decide +kernel
theorem dX11_best_13 : decode cX11_best 13 = .ok (.invokestatic 105, 3) := by decide +kernel
theorem dX11_best_16 : decode cX11_best 16 = .ok (.ifCond .eq 13, 3) := by decide +kernel
theorem dX11_best_19 : decode cX11_best 19 = .ok (.aload_n 0, 1) := by decide +kernel
theorem dX11_best_20 : decode cX11_best 20 = .ok (.getfield 19, 3) := by decide +kernel
theorem dX11_best_23 : decode cX11_best 23 = .ok (.getfield 120, 3) := by decide +kernel
theorem dX11_best_26 : decode cX11_best 26 = .ok (.ifCond .ne 5, 3) := by decide +kernel
theorem dX11_best_29 : decode cX11_best 29 = .ok (.iconst (-1), 1) := by decide +kernel
theorem dX11_best_30 : decode cX11_best 30 = .ok (.ireturn, 1) := by decide +kernel
theorem dX11_best_31 : decode cX11_best 31 = .ok (.aload_n 0, 1) := by decide +kernel
theorem dX11_best_32 : decode cX11_best 32 = .ok (.iload_n 1, 1) := by decide +kernel
theorem dX11_best_33 : decode cX11_best 33 = .ok (.iload_n 2, 1) := by decide +kernel
theorem dX11_best_34 : decode cX11_best 34 = .ok (.iload_n 3, 1) := by decide +kernel
theorem dX11_best_35 : decode cX11_best 35 = .ok (.invokevirtual 246, 3) := by decide +kernel
theorem dX11_best_38 : decode cX11_best 38 = .ok (.ifCond .ne 5, 3) := by decide +kernel
theorem dX11_best_41 : decode cX11_best 41 = .ok (.iconst (-1), 1) := by decide +kernel
theorem dX11_best_42 : decode cX11_best 42 = .ok (.ireturn, 1) := by decide +kernel
theorem dX11_best_43 : decode cX11_best 43 = .ok (.iconst (-1), 1) := by decide +kernel
theorem dX11_best_44 : decode cX11_best 44 = .ok (.istore 5, 2) := by decide +kernel
theorem dX11_best_46 : decode cX11_best 46 = .ok (.iconst 0, 1) := by decide +kernel
theorem dX11_best_47 : decode cX11_best 47 = .ok (.istore 6, 2) := by decide +kernel
theorem dX11_best_49 : decode cX11_best 49 = .ok (.iconst 0, 1) := by decide +kernel
theorem dX11_best_50 : decode cX11_best 50 = .ok (.istore 7, 2) := by decide +kernel
theorem dX11_best_52 : decode cX11_best 52 = .ok (.iload 7, 2) := by decide +kernel
theorem dX11_best_54 : decode cX11_best 54 = .ok (.aload_n 0, 1) := by decide +kernel
theorem dX11_best_55 : decode cX11_best 55 = .ok (.getfield 10, 3) := by decide +kernel
theorem dX11_best_58 : decode cX11_best 58 = .ok (.getfield 109, 3) := by decide +kernel
theorem dX11_best_61 : decode cX11_best 61 = .ok (.if_icmp .ge 97, 3) := by decide +kernel
theorem dX11_best_64 : decode cX11_best 64 = .ok (.aload_n 0, 1) := by decide +kernel
theorem dX11_best_65 : decode cX11_best 65 = .ok (.getfield 54, 3) := by decide +kernel
theorem dX11_best_68 : decode cX11_best 68 = .ok (.getfield 257, 3) := by decide +kernel
theorem dX11_best_71 : decode cX11_best 71 = .ok (.iload 7, 2) := by decide +kernel
theorem dX11_best_73 : decode cX11_best 73 = .ok (.baload, 1) := by decide +kernel
theorem dX11_best_74 : decode cX11_best 74 = .ok (.ifCond .eq 78, 3) := by decide +kernel
theorem dX11_best_77 : decode cX11_best 77 = .ok (.aload_n 0, 1) := by decide +kernel
theorem dX11_best_78 : decode cX11_best 78 = .ok (.getfield 72, 3) := by decide +kernel
theorem dX11_best_81 : decode cX11_best 81 = .ok (.iload_n 1, 1) := by decide +kernel
theorem dX11_best_82 : decode cX11_best 82 = .ok (.iload 7, 2) := by decide +kernel
theorem dX11_best_84 : decode cX11_best 84 = .ok (.invokevirtual 306, 3) := by decide +kernel
theorem dX11_best_87 : decode cX11_best 87 = .ok (.istore 8, 2) := by decide +kernel
theorem dX11_best_89 : decode cX11_best 89 = .ok (.iload 5, 2) := by decide +kernel
theorem dX11_best_91 : decode cX11_best 91 = .ok (.iconst (-1), 1) := by decide +kernel
theorem dX11_best_92 : decode cX11_best 92 = .ok (.if_icmp .eq 40, 3) := by decide +kernel
theorem dX11_best_95 : decode cX11_best 95 = .ok (.iload 8, 2) := by decide +kernel
theorem dX11_best_97 : decode cX11_best 97 = .ok (.iload 6, 2) := by decide +kernel
theorem dX11_best_99 : decode cX11_best 99 = .ok (.if_icmp .lt 33, 3) := by decide +kernel
theorem dX11_best_102 : decode cX11_best 102 = .ok (.iload 8, 2) := by decide +kernel
theorem dX11_best_104 : decode cX11_best 104 = .ok (.iload 6, 2) := by decide +kernel
theorem dX11_best_106 : decode cX11_best 106 = .ok (.if_icmp .ne 30, 3) := by decide +kernel
theorem dX11_best_109 : decode cX11_best 109 = .ok (.aload_n 0, 1) := by decide +kernel
theorem dX11_best_110 : decode cX11_best 110 = .ok (.getfield 54, 3) := by decide +kernel
theorem dX11_best_113 : decode cX11_best 113 = .ok (.getfield 254, 3) := by decide +kernel
theorem dX11_best_116 : decode cX11_best 116 = .ok (.iload 7, 2) := by decide +kernel
theorem dX11_best_118 : decode cX11_best 118 = .ok (.iaload, 1) := by decide +kernel
theorem dX11_best_119 : decode cX11_best 119 = .ok (.aload_n 0, 1) := by decide +kernel
theorem dX11_best_120 : decode cX11_best 120 = .ok (.getfield 54, 3) := by decide +kernel
theorem dX11_best_123 : decode cX11_best 123 = .ok (.getfield 254, 3) := by decide +kernel
theorem dX11_best_126 : decode cX11_best 126 = .ok (.iload 5, 2) := by decide +kernel
theorem dX11_best_128 : decode cX11_best 128 = .ok (.iaload, 1) := by decide +kernel
theorem dX11_best_129 : decode cX11_best 129 = .ok (.if_icmp .le 7, 3) := by decide +kernel
theorem dX11_best_132 : decode cX11_best 132 = .ok (.iconst 1, 1) := by decide +kernel
theorem dX11_best_133 : decode cX11_best 133 = .ok (.goto 4, 3) := by decide +kernel
theorem dX11_best_136 : decode cX11_best 136 = .ok (.iconst 0, 1) := by decide +kernel
theorem dX11_best_137 : decode cX11_best 137 = .ok (.istore 9, 2) := by decide +kernel
theorem dX11_best_139 : decode cX11_best 139 = .ok (.iload 9, 2) := by decide +kernel
theorem dX11_best_141 : decode cX11_best 141 = .ok (.ifCond .eq 11, 3) := by decide +kernel
theorem dX11_best_144 : decode cX11_best 144 = .ok (.iload 7, 2) := by decide +kernel
theorem dX11_best_146 : decode cX11_best 146 = .ok (.istore 5, 2) := by decide +kernel
theorem dX11_best_148 : decode cX11_best 148 = .ok (.iload 8, 2) := by decide +kernel
theorem dX11_best_150 : decode cX11_best 150 = .ok (.istore 6, 2) := by decide +kernel
theorem dX11_best_152 : decode cX11_best 152 = .ok (.iinc 7 1, 3) := by decide +kernel
theorem dX11_best_155 : decode cX11_best 155 = .ok (.goto (-103), 3) := by decide +kernel
theorem dX11_best_158 : decode cX11_best 158 = .ok (.iload 5, 2) := by decide +kernel
theorem dX11_best_160 : decode cX11_best 160 = .ok (.iconst (-1), 1) := by decide +kernel
theorem dX11_best_161 : decode cX11_best 161 = .ok (.if_icmp .eq 8, 3) := by decide +kernel
theorem dX11_best_164 : decode cX11_best 164 = .ok (.iload 4, 2) := by decide +kernel
theorem dX11_best_166 : decode cX11_best 166 = .ok (.ifCond .ne 8, 3) := by decide +kernel
theorem dX11_best_169 : decode cX11_best 169 = .ok (.iload 5, 2) := by decide +kernel
theorem dX11_best_171 : decode cX11_best 171 = .ok (.goto 5, 3) := by decide +kernel
theorem dX11_best_174 : decode cX11_best 174 = .ok (.iload 6, 2) := by decide +kernel
theorem dX11_best_176 : decode cX11_best 176 = .ok (.ireturn, 1) := by decide +kernel
theorem dX11_age_0 : decode cX11_age 0 = .ok (.aload_n 0, 1) := by decide +kernel
theorem dX11_age_1 : decode cX11_age 1 = .ok (.getfield 10, 3) := by decide +kernel
theorem dX11_age_4 : decode cX11_age 4 = .ok (.iload_n 1, 1) := by decide +kernel
theorem dX11_age_5 : decode cX11_age 5 = .ok (.invokevirtual 127, 3) := by decide +kernel
theorem dX11_age_8 : decode cX11_age 8 = .ok (.ifCond .eq 22, 3) := by decide +kernel
theorem dX11_age_11 : decode cX11_age 11 = .ok (.iload_n 2, 1) := by decide +kernel
theorem dX11_age_12 : decode cX11_age 12 = .ok (.iconst 1, 1) := by decide +kernel
theorem dX11_age_13 : decode cX11_age 13 = .ok (.bipush 100, 2) := by decide +kernel
theorem dX11_age_15 : decode cX11_age 15 = .ok (.invokestatic 105, 3) := by decide +kernel
theorem dX11_age_18 : decode cX11_age 18 = .ok (.ifCond .eq 12, 3) := by decide +kernel
theorem dX11_age_21 : decode cX11_age 21 = .ok (.iload_n 3, 1) := by decide +kernel
theorem dX11_age_22 : decode cX11_age 22 = .ok (.iconst 0, 1) := by decide +kernel
theorem dX11_age_23 : decode cX11_age 23 = .ok (.iconst 2, 1) := by decide +kernel
theorem dX11_age_24 : decode cX11_age 24 = .ok (.invokestatic 105, 3) := by decide +kernel
theorem dX11_age_27 : decode cX11_age 27 = .ok (.ifCond .ne 7, 3) := by decide +kernel
theorem dX11_age_30 : decode cX11_age 30 = .ok (.sipush (-1000), 3) := by decide +kernel
theorem dX11_age_33 : decode cX11_age 33 = .ok (.ireturn, 1) := by decide +kernel
theorem dX11_age_34 : decode cX11_age 34 = .ok (.aload_n 0, 1) := by decide +kernel
theorem dX11_age_35 : decode cX11_age 35 = .ok (.getfield 72, 3) := by decide +kernel
theorem dX11_age_38 : decode cX11_age 38 = .ok (.iload_n 1, 1) := by decide +kernel
theorem dX11_age_39 : decode cX11_age 39 = .ok (.aload_n 0, 1) := by decide +kernel
theorem dX11_age_40 : decode cX11_age 40 = .ok (.getfield 19, 3) := by decide +kernel
theorem dX11_age_43 : decode cX11_age 43 = .ok (.getfield 120, 3) := by decide +kernel
theorem dX11_age_46 : decode cX11_age 46 = .ok (.iconst 1, 1) := by decide +kernel
theorem dX11_age_47 : decode cX11_age 47 = .ok (.isub, 1) := by decide +kernel
theorem dX11_age_48 : decode cX11_age 48 = .ok (.invokevirtual 145, 3) := by decide +kernel
theorem dX11_age_51 : decode cX11_age 51 = .ok (.ifCond .ne 7, 3) := by decide +kernel
theorem dX11_age_54 : decode cX11_age 54 = .ok (.sipush (-1000), 3) := by decide +kernel
theorem dX11_age_57 : decode cX11_age 57 = .ok (.ireturn, 1) := by decide +kernel
theorem dX11_age_58 : decode cX11_age 58 = .ok (.iload_n 3, 1) := by decide +kernel
theorem dX11_age_59 : decode cX11_age 59 = .ok (.iconst 2, 1) := by decide +kernel
theorem dX11_age_60 : decode cX11_age 60 = .ok (.if_icmp .ne 12, 3) := by decide +kernel
theorem dX11_age_63 : decode cX11_age 63 = .ok (.aload_n 0, 1) := by decide +kernel
theorem dX11_age_64 : decode cX11_age 64 = .ok (.getfield 72, 3) := by decide +kernel
theorem dX11_age_67 : decode cX11_age 67 = .ok (.iload_n 1, 1) := by decide +kernel
theorem dX11_age_68 : decode cX11_age 68 = .ok (.invokevirtual 309, 3) := by decide +kernel
theorem dX11_age_71 : decode cX11_age 71 = .ok (.ireturn, 1) := by decide +kernel
theorem dX11_age_72 : decode cX11_age 72 = .ok (.aload_n 0, 1) := by decide +kernel
theorem dX11_age_73 : decode cX11_age 73 = .ok (.getfield 72, 3) := by decide +kernel
theorem dX11_age_76 : decode cX11_age 76 = .ok (.iload_n 1, 1) := by decide +kernel
theorem dX11_age_77 : decode cX11_age 77 = .ok (.iload_n 2, 1) := by decide +kernel
theorem dX11_age_78 : decode cX11_age 78 = .ok (.invokevirtual 312, 3) := by decide +kernel
theorem dX11_age_81 : decode cX11_age 81 = .ok (.istore 4, 2) := by decide +kernel
theorem dX11_age_83 : decode cX11_age 83 = .ok (.aload_n 0, 1) := by decide +kernel
theorem dX11_age_84 : decode cX11_age 84 = .ok (.getfield 72, 3) := by decide +kernel
theorem dX11_age_87 : decode cX11_age 87 = .ok (.iload_n 1, 1) := by decide +kernel
theorem dX11_age_88 : decode cX11_age 88 = .ok (.iload_n 2, 1) := by decide +kernel
theorem dX11_age_89 : decode cX11_age 89 = .ok (.iload 4, 2) := by decide +kernel
theorem dX11_age_91 : decode cX11_age 91 = .ok (.invokevirtual 315, 3) := by decide +kernel
theorem dX11_age_94 : decode cX11_age 94 = .ok (.istore 5, 2) := by decide +kernel
theorem dX11_age_96 : decode cX11_age 96 = .ok (.iload_n 3, 1) := by decide +kernel
theorem dX11_age_97 : decode cX11_age 97 = .ok (.ifCond .ne 8, 3) := by decide +kernel
theorem dX11_age_100 : decode cX11_age 100 = .ok (.iload 5, 2) := by decide +kernel
theorem dX11_age_102 : decode cX11_age 102 = .ok (.goto 10, 3) := by decide +kernel
theorem dX11_age_105 : decode cX11_age 105 = .ok (.iload 5, 2) := by decide +kernel
theorem dX11_age_107 : decode cX11_age 107 = .ok (.iload 4, 2) := by decide +kernel
theorem dX11_age_109 : decode cX11_age 109 = .ok (.iadd, 1) := by decide +kernel
theorem dX11_age_110 : decode cX11_age 110 = .ok (.iconst 1, 1) := by decide +kernel
theorem dX11_age_111 : decode cX11_age 111 = .ok (.isub, 1) := by decide +kernel
theorem dX11_age_112 : decode cX11_age 112 = .ok (.ireturn, 1) := by decide +kernel
theorem dX11_guess_0 : decode cX11_guess 0 = .ok (.aload_n 0, 1) := by decide +kernel
theorem dX11_guess_1 : decode cX11_guess 1 = .ok (.getfield 10, 3) := by decide +kernel
theorem dX11_guess_4 : decode cX11_guess 4 = .ok (.iload_n 1, 1) := by decide +kernel
theorem dX11_guess_5 : decode cX11_guess 5 = .ok (.invokevirtual 127, 3) := by decide +kernel
theorem dX11_guess_8 : decode cX11_guess 8 = .ok (.ifCond .eq 14, 3) := by decide +kernel
theorem dX11_guess_11 : decode cX11_guess 11 = .ok (.aload_n 0, 1) := by decide +kernel
theorem dX11_guess_12 : decode cX11_guess 12 = .ok (.getfield 72, 3) := by decide +kernel
theorem dX11_guess_15 : decode cX11_guess 15 = .ok (.iload_n 1, 1) := by decide +kernel
theorem dX11_guess_16 : decode cX11_guess 16 = .ok (.invokevirtual 318, 3) := by decide +kernel
theorem dX11_guess_19 : decode cX11_guess 19 = .ok (.goto 4, 3) := by decide +kernel
theorem dX11_guess_22 : decode cX11_guess 22 = .ok (.iconst (-1), 1) := by decide +kernel
theorem dX11_guess_23 : decode cX11_guess 23 = .ok (.ireturn, 1) := by decide +kernel
theorem dX11_chance_0 : decode cX11_chance 0 = .ok (.iload_n 2, 1) := by decide +kernel
theorem dX11_chance_1 : decode cX11_chance 1 = .ok (.iconst 1, 1) := by decide +kernel
theorem dX11_chance_2 : decode cX11_chance 2 = .ok (.aload_n 0, 1) := by decide +kernel
theorem dX11_chance_3 : decode cX11_chance 3 = .ok (.getfield 19, 3) := by decide +kernel
theorem dX11_chance_6 : decode cX11_chance 6 = .ok (.getfield 120, 3) := by decide +kernel
theorem dX11_chance_9 : decode cX11_chance 9 = .ok (.iconst 1, 1) := by decide +kernel
theorem dX11_chance_10 : decode cX11_chance 10 = .ok (.isub, 1) := by decide +kernel
theorem dX11_chance_11 : decode cX11_chance 11 = .ok (.invokestatic 105, 3) := by decide +kernel
theorem dX11_chance_14 : decode cX11_chance 14 = .ok (.ifCond .eq 14, 3) := by decide +kernel
theorem dX11_chance_17 : decode cX11_chance 17 = .ok (.iload_n 3, 1) := by decide +kernel
theorem dX11_chance_18 : decode cX11_chance 18 = .ok (.iconst 2, 1) := by decide +kernel
theorem dX11_chance_19 : decode cX11_chance 19 = .ok (.ldc_w 321, 3) := by decide +kernel
theorem dX11_chance_22 : decode cX11_chance 22 = .ok (.invokestatic 105, 3) := by decide +kernel
theorem dX11_chance_25 : decode cX11_chance 25 = .ok (.ifCond .ne 5, 3) := by decide +kernel
theorem dX11_chance_28 : decode cX11_chance 28 = .ok (.iconst (-1), 1) := by decide +kernel
theorem dX11_chance_29 : decode cX11_chance 29 = .ok (.ireturn, 1) := by decide +kernel
theorem dX11_chance_30 : decode cX11_chance 30 = .ok (.iload_n 1, 1) := by decide +kernel
theorem dX11_chance_31 : decode cX11_chance 31 = .ok (.iconst (-1), 1) := by decide +kernel
theorem dX11_chance_32 : decode cX11_chance 32 = .ok (.aload_n 0, 1) := by decide +kernel
theorem dX11_chance_33 : decode cX11_chance 33 = .ok (.getfield 10, 3) := by decide +kernel
theorem dX11_chance_36 : decode cX11_chance 36 = .ok (.getfield 109, 3) := by decide +kernel
theorem dX11_chance_39 : decode cX11_chance 39 = .ok (.iconst 1, 1) := by decide +kernel
theorem dX11_chance_40 : decode cX11_chance 40 = .ok (.isub, 1) := by decide +kernel
theorem dX11_chance_41 : decode cX11_chance 41 = .ok (.invokestatic 105, 3) := by decide +kernel
theorem dX11_chance_44 : decode cX11_chance 44 = .ok (.ifCond .ne 5, 3) := by decide +kernel
theorem dX11_chance_47 : decode cX11_chance 47 = .ok (.iconst (-1), 1) := by decide +kernel
theorem dX11_chance_48 : decode cX11_chance 48 = .ok (.ireturn, 1) := by decide +kernel
theorem dX11_chance_49 : decode cX11_chance 49 = .ok (.aload_n 0, 1) := by decide +kernel
theorem dX11_chance_50 : decode cX11_chance 50 = .ok (.getfield 26, 3) := by decide +kernel
theorem dX11_chance_53 : decode cX11_chance 53 = .ok (.bipush 6, 2) := by decide +kernel
theorem dX11_chance_55 : decode cX11_chance 55 = .ok (.iload_n 2, 1) := by decide +kernel
theorem dX11_chance_56 : decode cX11_chance 56 = .ok (.iload_n 2, 1) := by decide +kernel
theorem dX11_chance_57 : decode cX11_chance 57 = .ok (.invokevirtual 322, 3) := by decide +kernel
theorem dX11_chance_60 : decode cX11_chance 60 = .ok (.ifCond .eq 21, 3) := by decide +kernel
theorem dX11_chance_63 : decode cX11_chance 63 = .ok (.aload_n 0, 1) := by decide +kernel
theorem dX11_chance_64 : decode cX11_chance 64 = .ok (.getfield 26, 3) := by decide +kernel
theorem dX11_chance_67 : decode cX11_chance 67 = .ok (.bipush 6, 2) := by decide +kernel
theorem dX11_chance_69 : decode cX11_chance 69 = .ok (.iload_n 2, 1) := by decide +kernel
theorem dX11_chance_70 : decode cX11_chance 70 = .ok (.iconst 1, 1) := by decide +kernel
theorem dX11_chance_71 : decode cX11_chance 71 = .ok (.isub, 1) := by decide +kernel
theorem dX11_chance_72 : decode cX11_chance 72 = .ok (.iload_n 2, 1) := by decide +kernel
theorem dX11_chance_73 : decode cX11_chance 73 = .ok (.iconst 1, 1) := by decide +kernel
theorem dX11_chance_74 : decode cX11_chance 74 = .ok (.isub, 1) := by decide +kernel
theorem dX11_chance_75 : decode cX11_chance 75 = .ok (.invokevirtual 322, 3) := by decide +kernel
theorem dX11_chance_78 : decode cX11_chance 78 = .ok (.ifCond .ne 5, 3) := by decide +kernel
theorem dX11_chance_81 : decode cX11_chance 81 = .ok (.iconst (-1), 1) := by decide +kernel
theorem dX11_chance_82 : decode cX11_chance 82 = .ok (.ireturn, 1) := by decide +kernel
theorem dX11_chance_83 : decode cX11_chance 83 = .ok (.iload_n 1, 1) := by decide +kernel
theorem dX11_chance_84 : decode cX11_chance 84 = .ok (.iconst (-1), 1) := by decide +kernel
theorem dX11_chance_85 : decode cX11_chance 85 = .ok (.if_icmp .eq 11, 3) := by decide +kernel
theorem dX11_chance_88 : decode cX11_chance 88 = .ok (.aload_n 0, 1) := by decide +kernel
theorem dX11_chance_89 : decode cX11_chance 89 = .ok (.iload_n 1, 1) := by decide +kernel
theorem dX11_chance_90 : decode cX11_chance 90 = .ok (.iload_n 2, 1) := by decide +kernel
theorem dX11_chance_91 : decode cX11_chance 91 = .ok (.iload_n 3, 1) := by decide +kernel
theorem dX11_chance_92 : decode cX11_chance 92 = .ok (.invokevirtual 325, 3) := by decide +kernel
theorem dX11_chance_95 : decode cX11_chance 95 = .ok (.ireturn, 1) := by decide +kernel
theorem dX11_chance_96 : decode cX11_chance 96 = .ok (.iconst 0, 1) := by decide +kernel
theorem dX11_chance_97 : decode cX11_chance 97 = .ok (.istore 4, 2) := by decide +kernel
theorem dX11_chance_99 : decode cX11_chance 99 = .ok (.iconst 0, 1) := by decide +kernel
theorem dX11_chance_100 : decode cX11_chance 100 = .ok (.istore 5, 2) := by decide +kernel
theorem dX11_chance_102 : decode cX11_chance 102 = .ok (.iload 5, 2) := by decide +kernel
theorem dX11_chance_104 : decode cX11_chance 104 = .ok (.aload_n 0, 1) := by decide +kernel
theorem dX11_chance_105 : decode cX11_chance 105 = .ok (.getfield 10, 3) := by decide +kernel
theorem dX11_chance_108 : decode cX11_chance 108 = .ok (.getfield 109, 3) := by decide +kernel
theorem dX11_chance_111 : decode cX11_chance 111 = .ok (.if_icmp .ge 23, 3) := by decide +kernel
theorem dX11_chance_114 : decode cX11_chance 114 = .ok (.aload_n 0, 1) := by decide +kernel
theorem dX11_chance_115 : decode cX11_chance 115 = .ok (.iload 5, 2) := by decide +kernel
theorem dX11_chance_117 : decode cX11_chance 117 = .ok (.iload_n 2, 1) := by decide +kernel
theorem dX11_chance_118 : decode cX11_chance 118 = .ok (.iload_n 3, 1) := by decide +kernel
theorem dX11_chance_119 : decode cX11_chance 119 = .ok (.invokevirtual 325, 3) := by decide +kernel
theorem dX11_chance_122 : decode cX11_chance 122 = .ok (.ifCond .eq 6, 3) := by decide +kernel
theorem dX11_chance_125 : decode cX11_chance 125 = .ok (.iinc 4 1, 3) := by decide +kernel
theorem dX11_chance_128 : decode cX11_chance 128 = .ok (.iinc 5 1, 3) := by decide +kernel
theorem dX11_chance_131 : decode cX11_chance 131 = .ok (.goto (-29), 3) := by decide +kernel
theorem dX11_chance_134 : decode cX11_chance 134 = .ok (.iload 4, 2) := by decide +kernel
theorem dX11_chance_136 : decode cX11_chance 136 = .ok (.ireturn, 1) := by decide +kernel
theorem dX11_turnover_0 : decode cX11_turnover 0 = .ok (.aload_n 0, 1) := by decide +kernel
theorem dX11_turnover_1 : decode cX11_turnover 1 = .ok (.getfield 19, 3) := by decide +kernel
theorem dX11_turnover_4 : decode cX11_turnover 4 = .ok (.iload_n 1, 1) := by decide +kernel
theorem dX11_turnover_5 : decode cX11_turnover 5 = .ok (.invokevirtual 243, 3) := by decide +kernel
theorem dX11_turnover_8 : decode cX11_turnover 8 = .ok (.ifCond .eq 13, 3) := by decide +kernel
theorem dX11_turnover_11 : decode cX11_turnover 11 = .ok (.iload_n 2, 1) := by decide +kernel
theorem dX11_turnover_12 : decode cX11_turnover 12 = .ok (.iconst 1, 1) := by decide +kernel
theorem dX11_turnover_13 : decode cX11_turnover 13 = .ok (.bipush 16, 2) := by decide +kernel
theorem dX11_turnover_15 : decode cX11_turnover 15 = .ok (.invokestatic 105, 3) := by decide +kernel
theorem dX11_turnover_18 : decode cX11_turnover 18 = .ok (.ifCond .ne 5, 3) := by decide +kernel
theorem dX11_turnover_21 : decode cX11_turnover 21 = .ok (.iconst (-1), 1) := by decide +kernel
theorem dX11_turnover_22 : decode cX11_turnover 22 = .ok (.ireturn, 1) := by decide +kernel
theorem dX11_turnover_23 : decode cX11_turnover 23 = .ok (.aload_n 0, 1) := by decide +kernel
theorem dX11_turnover_24 : decode cX11_turnover 24 = .ok (.getfield 72, 3) := by decide +kernel
theorem dX11_turnover_27 : decode cX11_turnover 27 = .ok (.iload_n 1, 1) := by decide +kernel
theorem dX11_turnover_28 : decode cX11_turnover 28 = .ok (.iload_n 2, 1) := by decide +kernel
theorem dX11_turnover_29 : decode cX11_turnover 29 = .ok (.invokevirtual 328, 3) := by decide +kernel
theorem dX11_turnover_32 : decode cX11_turnover 32 = .ok (.aload_n 0, 1) := by decide +kernel
theorem dX11_turnover_33 : decode cX11_turnover 33 = .ok (.getfield 72, 3) := by decide +kernel
theorem dX11_turnover_36 : decode cX11_turnover 36 = .ok (.iload_n 1, 1) := by decide +kernel
theorem dX11_turnover_37 : decode cX11_turnover 37 = .ok (.iconst 1, 1) := by decide +kernel
theorem dX11_turnover_38 : decode cX11_turnover 38 = .ok (.isub, 1) := by decide +kernel
theorem dX11_turnover_39 : decode cX11_turnover 39 = .ok (.iload_n 2, 1) := by decide +kernel
theorem dX11_turnover_40 : decode cX11_turnover 40 = .ok (.invokevirtual 328, 3) := by decide +kernel
theorem dX11_turnover_43 : decode cX11_turnover 43 = .ok (.iconst (-1), 1) := by decide +kernel
theorem dX11_turnover_44 : decode cX11_turnover 44 = .ok (.ixor, 1) := by decide +kernel
theorem dX11_turnover_45 : decode cX11_turnover 45 = .ok (.iand, 1) := by decide +kernel
theorem dX11_turnover_46 : decode cX11_turnover 46 = .ok (.invokestatic 331, 3) := by decide +kernel
theorem dX11_turnover_49 : decode cX11_turnover 49 = .ok (.ireturn, 1) := by decide +kernel
theorem dX11_print_0 : decode cX11_print 0 = .ok (.aload_n 0, 1) := by decide +kernel
theorem dX11_print_1 : decode cX11_print 1 = .ok (.getfield 86, 3) := by decide +kernel
theorem dX11_print_4 : decode cX11_print 4 = .ok (.getfield 336, 3) := by decide +kernel
theorem dX11_print_7 : decode cX11_print 7 = .ok (.sipush 150, 3) := by decide +kernel
theorem dX11_print_10 : decode cX11_print 10 = .ok (.if_icmp .ge 26, 3) := by decide +kernel
theorem dX11_print_13 : decode cX11_print 13 = .ok (.aload_n 0, 1) := by decide +kernel
theorem dX11_print_14 : decode cX11_print 14 = .ok (.iload_n 1, 1) := by decide +kernel
theorem dX11_print_15 : decode cX11_print 15 = .ok (.iload_n 2, 1) := by decide +kernel
theorem dX11_print_16 : decode cX11_print 16 = .ok (.iload_n 3, 1) := by decide +kernel
theorem dX11_print_17 : decode cX11_print 17 = .ok (.iload 4, 2) := by decide +kernel
theorem dX11_print_19 : decode cX11_print 19 = .ok (.invokevirtual 337, 3) := by decide +kernel
theorem dX11_print_22 : decode cX11_print 22 = .ok (.ifCond .eq 14, 3) := by decide +kernel
theorem dX11_print_25 : decode cX11_print 25 = .ok (.iload 5, 2) := by decide +kernel
theorem dX11_print_27 : decode cX11_print 27 = .ok (.iconst 0, 1) := by decide +kernel
theorem dX11_print_28 : decode cX11_print 28 = .ok (.bipush 99, 2) := by decide +kernel
theorem dX11_print_30 : decode cX11_print 30 = .ok (.invokestatic 105, 3) := by decide +kernel
theorem dX11_print_33 : decode cX11_print 33 = .ok (.ifCond .ne 5, 3) := by decide +kernel
theorem dX11_print_36 : decode cX11_print 36 = .ok (.iconst (-1), 1) := by decide +kernel
theorem dX11_print_37 : decode cX11_print 37 = .ok (.ireturn, 1) := by decide +kernel
theorem dX11_print_38 : decode cX11_print 38 = .ok (.aload_n 0, 1) := by decide +kernel
theorem dX11_print_39 : decode cX11_print 39 = .ok (.getfield 86, 3) := by decide +kernel
theorem dX11_print_42 : decode cX11_print 42 = .ok (.iload_n 1, 1) := by decide +kernel
theorem dX11_print_43 : decode cX11_print 43 = .ok (.iload_n 2, 1) := by decide +kernel
theorem dX11_print_44 : decode cX11_print 44 = .ok (.iload_n 3, 1) := by decide +kernel
theorem dX11_print_45 : decode cX11_print 45 = .ok (.iload 4, 2) := by decide +kernel
theorem dX11_print_47 : decode cX11_print 47 = .ok (.invokestatic 341, 3) := by decide +kernel
theorem dX11_print_50 : decode cX11_print 50 = .ok (.iload 5, 2) := by decide +kernel
theorem dX11_print_52 : decode cX11_print 52 = .ok (.aload_n 0, 1) := by decide +kernel
theorem dX11_print_53 : decode cX11_print 53 = .ok (.getfield 19, 3) := by decide +kernel
theorem dX11_print_56 : decode cX11_print 56 = .ok (.getfield 120, 3) := by decide +kernel
theorem dX11_print_59 : decode cX11_print 59 = .ok (.invokevirtual 344, 3) := by decide +kernel
theorem dX11_print_62 : decode cX11_print 62 = .ok (.ireturn, 1) := by decide +kernel
theorem dX11_let_0 : decode cX11_let 0 = .ok (.iload_n 1, 1) := by decide +kernel
theorem dX11_let_1 : decode cX11_let 1 = .ok (.iconst (-1), 1) := by decide +kernel
theorem dX11_let_2 : decode cX11_let 2 = .ok (.aload_n 0, 1) := by decide +kernel
theorem dX11_let_3 : decode cX11_let 3 = .ok (.getfield 199, 3) := by decide +kernel
theorem dX11_let_6 : decode cX11_let 6 = .ok (.iconst 1, 1) := by decide +kernel
theorem dX11_let_7 : decode cX11_let 7 = .ok (.isub, 1) := by decide +kernel
theorem dX11_let_8 : decode cX11_let 8 = .ok (.invokestatic 105, 3) := by decide +kernel
theorem dX11_let_11 : decode cX11_let 11 = .ok (.ifCond .eq 13, 3) := by decide +kernel
theorem dX11_let_14 : decode cX11_let 14 = .ok (.iload_n 2, 1) := by decide +kernel
theorem dX11_let_15 : decode cX11_let 15 = .ok (.iconst 0, 1) := by decide +kernel
theorem dX11_let_16 : decode cX11_let 16 = .ok (.bipush 61, 2) := by decide +kernel
theorem dX11_let_18 : decode cX11_let 18 = .ok (.invokestatic 105, 3) := by decide +kernel
theorem dX11_let_21 : decode cX11_let 21 = .ok (.ifCond .ne 5, 3) := by decide +kernel
theorem dX11_let_24 : decode cX11_let 24 = .ok (.iconst (-1), 1) := by decide +kernel
theorem dX11_let_25 : decode cX11_let 25 = .ok (.ireturn, 1) := by decide +kernel
theorem dX11_let_26 : decode cX11_let 26 = .ok (.iload_n 1, 1) := by decide +kernel
theorem dX11_let_27 : decode cX11_let 27 = .ok (.iconst (-1), 1) := by decide +kernel
theorem dX11_let_28 : decode cX11_let 28 = .ok (.if_icmp .ne 7, 3) := by decide +kernel
theorem dX11_let_31 : decode cX11_let 31 = .ok (.iconst 0, 1) := by decide +kernel
theorem dX11_let_32 : decode cX11_let 32 = .ok (.goto 4, 3) := by decide +kernel
theorem dX11_let_35 : decode cX11_let 35 = .ok (.iload_n 1, 1) := by decide +kernel
theorem dX11_let_36 : decode cX11_let 36 = .ok (.istore_n 3, 1) := by decide +kernel
theorem dX11_let_37 : decode cX11_let 37 = .ok (.iload_n 1, 1) := by decide +kernel
theorem dX11_let_38 : decode cX11_let 38 = .ok (.iconst (-1), 1) := by decide +kernel
theorem dX11_let_39 : decode cX11_let 39 = .ok (.if_icmp .ne 12, 3) := by decide +kernel
theorem dX11_let_42 : decode cX11_let 42 = .ok (.aload_n 0, 1) := by decide +kernel
theorem dX11_let_43 : decode cX11_let 43 = .ok (.getfield 199, 3) := by decide +kernel
theorem dX11_let_46 : decode cX11_let 46 = .ok (.iconst 1, 1) := by decide +kernel
theorem dX11_let_47 : decode cX11_let 47 = .ok (.isub, 1) := by decide +kernel
theorem dX11_let_48 : decode cX11_let 48 = .ok (.goto 4, 3) := by decide +kernel
theorem dX11_let_51 : decode cX11_let 51 = .ok (.iload_n 1, 1) := by decide +kernel
theorem dX11_let_52 : decode cX11_let 52 = .ok (.istore 4, 2) := by decide +kernel
theorem dX11_let_54 : decode cX11_let 54 = .ok (.aload_n 0, 1) := by decide +kernel
theorem dX11_let_55 : decode cX11_let 55 = .ok (.iload_n 3, 1) := by decide +kernel
theorem dX11_let_56 : decode cX11_let 56 = .ok (.iload 4, 2) := by decide +kernel
theorem dX11_let_58 : decode cX11_let 58 = .ok (.invokevirtual 347, 3) := by decide +kernel
theorem dX11_let_61 : decode cX11_let 61 = .ok (.aload_n 0, 1) := by decide +kernel
theorem dX11_let_62 : decode cX11_let 62 = .ok (.getfield 86, 3) := by decide +kernel
theorem dX11_let_65 : decode cX11_let 65 = .ok (.iload_n 3, 1) := by decide +kernel
theorem dX11_let_66 : decode cX11_let 66 = .ok (.iload 4, 2) := by decide +kernel
theorem dX11_let_68 : decode cX11_let 68 = .ok (.iload_n 2, 1) := by decide +kernel
theorem dX11_let_69 : decode cX11_let 69 = .ok (.invokevirtual 351, 3) := by decide +kernel
theorem dX11_let_72 : decode cX11_let 72 = .ok (.invokestatic 331, 3) := by decide +kernel
theorem dX11_let_75 : decode cX11_let 75 = .ok (.ireturn, 1) := by decide +kernel
theorem dX11_span_0 : decode cX11_span 0 = .ok (.aload_n 0, 1) := by decide +kernel
theorem dX11_span_1 : decode cX11_span 1 = .ok (.iload_n 1, 1) := by decide +kernel
theorem dX11_span_2 : decode cX11_span 2 = .ok (.iload_n 2, 1) := by decide +kernel
theorem dX11_span_3 : decode cX11_span 3 = .ok (.iload_n 3, 1) := by decide +kernel
theorem dX11_span_4 : decode cX11_span 4 = .ok (.iload 4, 2) := by decide +kernel
theorem dX11_span_6 : decode cX11_span 6 = .ok (.invokevirtual 337, 3) := by decide +kernel
theorem dX11_span_9 : decode cX11_span 9 = .ok (.ifCond .ne 5, 3) := by decide +kernel
theorem dX11_span_12 : decode cX11_span 12 = .ok (.iconst (-1), 1) := by decide +kernel
theorem dX11_span_13 : decode cX11_span 13 = .ok (.ireturn, 1) := by decide +kernel
theorem dX11_span_14 : decode cX11_span 14 = .ok (.aload_n 0, 1) := by decide +kernel
theorem dX11_span_15 : decode cX11_span 15 = .ok (.iconst 0, 1) := by decide +kernel
theorem dX11_span_16 : decode cX11_span 16 = .ok (.aload_n 0, 1) := by decide +kernel
theorem dX11_span_17 : decode cX11_span 17 = .ok (.getfield 199, 3) := by decide +kernel
theorem dX11_span_20 : decode cX11_span 20 = .ok (.iconst 1, 1) := by decide +kernel
theorem dX11_span_21 : decode cX11_span 21 = .ok (.isub, 1) := by decide +kernel
theorem dX11_span_22 : decode cX11_span 22 = .ok (.invokevirtual 347, 3) := by decide +kernel
theorem dX11_span_25 : decode cX11_span 25 = .ok (.aload_n 0, 1) := by decide +kernel
theorem dX11_span_26 : decode cX11_span 26 = .ok (.getfield 86, 3) := by decide +kernel
theorem dX11_span_29 : decode cX11_span 29 = .ok (.iconst 0, 1) := by decide +kernel
theorem dX11_span_30 : decode cX11_span 30 = .ok (.aload_n 0, 1) := by decide +kernel
theorem dX11_span_31 : decode cX11_span 31 = .ok (.getfield 199, 3) := by decide +kernel
theorem dX11_span_34 : decode cX11_span 34 = .ok (.iconst 1, 1) := by decide +kernel
theorem dX11_span_35 : decode cX11_span 35 = .ok (.isub, 1) := by decide +kernel
theorem dX11_span_36 : decode cX11_span 36 = .ok (.aload_n 0, 1) := by decide +kernel
theorem dX11_span_37 : decode cX11_span 37 = .ok (.getfield 19, 3) := by decide +kernel
theorem dX11_span_40 : decode cX11_span 40 = .ok (.getfield 120, 3) := by decide +kernel
theorem dX11_span_43 : decode cX11_span 43 = .ok (.invokevirtual 351, 3) := by decide +kernel
theorem dX11_span_46 : decode cX11_span 46 = .ok (.istore 6, 2) := by decide +kernel
theorem dX11_span_48 : decode cX11_span 48 = .ok (.aload_n 0, 1) := by decide +kernel
theorem dX11_span_49 : decode cX11_span 49 = .ok (.getfield 86, 3) := by decide +kernel
theorem dX11_span_52 : decode cX11_span 52 = .ok (.iload 6, 2) := by decide +kernel
theorem dX11_span_54 : decode cX11_span 54 = .ok (.iload_n 1, 1) := by decide +kernel
theorem dX11_span_55 : decode cX11_span 55 = .ok (.iload_n 2, 1) := by decide +kernel
theorem dX11_span_56 : decode cX11_span 56 = .ok (.iload_n 3, 1) := by decide +kernel
theorem dX11_span_57 : decode cX11_span 57 = .ok (.iload 4, 2) := by decide +kernel
theorem dX11_span_59 : decode cX11_span 59 = .ok (.invokestatic 341, 3) := by decide +kernel
theorem dX11_span_62 : decode cX11_span 62 = .ok (.iload 5, 2) := by decide +kernel
theorem dX11_span_64 : decode cX11_span 64 = .ok (.invokevirtual 354, 3) := by decide +kernel
theorem dX11_span_67 : decode cX11_span 67 = .ok (.ireturn, 1) := by decide +kernel
theorem dX11_parts_0 : decode cX11_parts 0 = .ok (.iload_n 1, 1) := by decide +kernel
theorem dX11_parts_1 : decode cX11_parts 1 = .ok (.iconst 0, 1) := by decide +kernel
theorem dX11_parts_2 : decode cX11_parts 2 = .ok (.bipush 60, 2) := by decide +kernel
theorem dX11_parts_4 : decode cX11_parts 4 = .ok (.invokestatic 105, 3) := by decide +kernel
theorem dX11_parts_7 : decode cX11_parts 7 = .ok (.ifCond .eq 12, 3) := by decide +kernel
theorem dX11_parts_10 : decode cX11_parts 10 = .ok (.iload_n 2, 1) := by decide +kernel
theorem dX11_parts_11 : decode cX11_parts 11 = .ok (.iconst 0, 1) := by decide +kernel
theorem dX11_parts_12 : decode cX11_parts 12 = .ok (.iconst 3, 1) := by decide +kernel
theorem dX11_parts_13 : decode cX11_parts 13 = .ok (.invokestatic 105, 3) := by decide +kernel
theorem dX11_parts_16 : decode cX11_parts 16 = .ok (.ifCond .ne 5, 3) := by decide +kernel
theorem dX11_parts_19 : decode cX11_parts 19 = .ok (.iconst (-1), 1) := by decide +kernel
theorem dX11_parts_20 : decode cX11_parts 20 = .ok (.ireturn, 1) := by decide +kernel
theorem dX11_parts_21 : decode cX11_parts 21 = .ok (.aload_n 0, 1) := by decide +kernel
theorem dX11_parts_22 : decode cX11_parts 22 = .ok (.iconst 0, 1) := by decide +kernel
theorem dX11_parts_23 : decode cX11_parts 23 = .ok (.aload_n 0, 1) := by decide +kernel
theorem dX11_parts_24 : decode cX11_parts 24 = .ok (.getfield 199, 3) := by decide +kernel
theorem dX11_parts_27 : decode cX11_parts 27 = .ok (.iconst 1, 1) := by decide +kernel
theorem dX11_parts_28 : decode cX11_parts 28 = .ok (.isub, 1) := by decide +kernel
theorem dX11_parts_29 : decode cX11_parts 29 = .ok (.invokevirtual 347, 3) := by decide +kernel
theorem dX11_parts_32 : decode cX11_parts 32 = .ok (.aload_n 0, 1) := by decide +kernel
theorem dX11_parts_33 : decode cX11_parts 33 = .ok (.getfield 86, 3) := by decide +kernel
theorem dX11_parts_36 : decode cX11_parts 36 = .ok (.iconst 0, 1) := by decide +kernel
theorem dX11_parts_37 : decode cX11_parts 37 = .ok (.aload_n 0, 1) := by decide +kernel
theorem dX11_parts_38 : decode cX11_parts 38 = .ok (.getfield 199, 3) := by decide +kernel
theorem dX11_parts_41 : decode cX11_parts 41 = .ok (.iconst 1, 1) := by decide +kernel
theorem dX11_parts_42 : decode cX11_parts 42 = .ok (.isub, 1) := by decide +kernel
theorem dX11_parts_43 : decode cX11_parts 43 = .ok (.aload_n 0, 1) := by decide +kernel
theorem dX11_parts_44 : decode cX11_parts 44 = .ok (.getfield 19, 3) := by decide +kernel
theorem dX11_parts_47 : decode cX11_parts 47 = .ok (.getfield 120, 3) := by decide +kernel
theorem dX11_parts_50 : decode cX11_parts 50 = .ok (.invokevirtual 351, 3) := by decide +kernel
theorem dX11_parts_53 : decode cX11_parts 53 = .ok (.istore_n 3, 1) := by decide +kernel
theorem dX11_parts_54 : decode cX11_parts 54 = .ok (.aload_n 0, 1) := by decide +kernel
theorem dX11_parts_55 : decode cX11_parts 55 = .ok (.getfield 86, 3) := by decide +kernel
theorem dX11_parts_58 : decode cX11_parts 58 = .ok (.iload_n 3, 1) := by decide +kernel
theorem dX11_parts_59 : decode cX11_parts 59 = .ok (.iload_n 1, 1) := by decide +kernel
theorem dX11_parts_60 : decode cX11_parts 60 = .ok (.invokevirtual 357, 3) := by decide +kernel
theorem dX11_parts_63 : decode cX11_parts 63 = .ok (.istore 4, 2) := by decide +kernel
theorem dX11_parts_65 : decode cX11_parts 65 = .ok (.iload 4, 2) := by decide +kernel
theorem dX11_parts_67 : decode cX11_parts 67 = .ok (.iconst (-1), 1) := by decide +kernel
theorem dX11_parts_68 : decode cX11_parts 68 = .ok (.if_icmp .ne 5, 3) := by decide +kernel
theorem dX11_parts_71 : decode cX11_parts 71 = .ok (.iconst (-1), 1) := by decide +kernel
theorem dX11_parts_72 : decode cX11_parts 72 = .ok (.ireturn, 1) := by decide +kernel
theorem dX11_parts_73 : decode cX11_parts 73 = .ok (.iload_n 2, 1) := by decide +kernel
theorem dX11_parts_74 : decode cX11_parts 74 = .ok (.tableswitch 46 0 2 #[26, 32, 40], 26) := by decide +kernel
theorem dX11_parts_100 : decode cX11_parts 100 = .ok (.iload 4, 2) := by decide +kernel
theorem dX11_parts_102 : decode cX11_parts 102 = .ok (.bipush 32, 2) := by decide +kernel
theorem dX11_parts_104 : decode cX11_parts 104 = .ok (.idiv, 1) := by decide +kernel
theorem dX11_parts_105 : decode cX11_parts 105 = .ok (.ireturn, 1) := by decide +kernel
theorem dX11_parts_106 : decode cX11_parts 106 = .ok (.iload 4, 2) := by decide +kernel
theorem dX11_parts_108 : decode cX11_parts 108 = .ok (.bipush 16, 2) := by decide +kernel
theorem dX11_parts_110 : decode cX11_parts 110 = .ok (.idiv, 1) := by decide +kernel
theorem dX11_parts_111 : decode cX11_parts 111 = .ok (.iconst 2, 1) := by decide +kernel
theorem dX11_parts_112 : decode cX11_parts 112 = .ok (.irem, 1) := by decide +kernel
theorem dX11_parts_113 : decode cX11_parts 113 = .ok (.ireturn, 1) := by decide +kernel
theorem dX11_parts_114 : decode cX11_parts 114 = .ok (.iload 4, 2) := by decide +kernel
theorem dX11_parts_116 : decode cX11_parts 116 = .ok (.bipush 16, 2) := by decide +kernel
theorem dX11_parts_118 : decode cX11_parts 118 = .ok (.irem, 1) := by decide +kernel
theorem dX11_parts_119 : decode cX11_parts 119 = .ok (.ireturn, 1) := by decide +kernel
theorem dX11_parts_120 : decode cX11_parts 120 = .ok (.aload_n 0, 1) := by decide +kernel
theorem dX11_parts_121 : decode cX11_parts 121 = .ok (.getfield 86, 3) := by decide +kernel
theorem dX11_parts_124 : decode cX11_parts 124 = .ok (.iload_n 3, 1) := by decide +kernel
theorem dX11_parts_125 : decode cX11_parts 125 = .ok (.iload_n 1, 1) := by decide +kernel
theorem dX11_parts_126 : decode cX11_parts 126 = .ok (.iload 4, 2) := by decide +kernel
theorem dX11_parts_128 : decode cX11_parts 128 = .ok (.invokevirtual 360, 3) := by decide +kernel
theorem dX11_parts_131 : decode cX11_parts 131 = .ok (.ireturn, 1) := by decide +kernel
theorem dX11_image_0 : decode cX11_image 0 = .ok (.aload_n 0, 1) := by decide +kernel
theorem dX11_image_1 : decode cX11_image 1 = .ok (.getfield 93, 3) := by decide +kernel
theorem dX11_image_4 : decode cX11_image 4 = .ok (.aload_n 0, 1) := by decide +kernel
theorem dX11_image_5 : decode cX11_image 5 = .ok (.getfield 19, 3) := by decide +kernel
theorem dX11_image_8 : decode cX11_image 8 = .ok (.aload_n 0, 1) := by decide +kernel
theorem dX11_image_9 : decode cX11_image 9 = .ok (.getfield 26, 3) := by decide +kernel
theorem dX11_image_12 : decode cX11_image 12 = .ok (.invokevirtual 97, 3) := by decide +kernel
theorem dX11_image_15 : decode cX11_image 15 = .ok (.aload_n 0, 1) := by decide +kernel
theorem dX11_image_16 : decode cX11_image 16 = .ok (.getfield 93, 3) := by decide +kernel
theorem dX11_image_19 : decode cX11_image 19 = .ok (.aload_n 0, 1) := by decide +kernel
theorem dX11_image_20 : decode cX11_image 20 = .ok (.getfield 10, 3) := by decide +kernel
theorem dX11_image_23 : decode cX11_image 23 = .ok (.getfield 109, 3) := by decide +kernel
theorem dX11_image_26 : decode cX11_image 26 = .ok (.putfield 363, 3) := by decide +kernel
theorem dX11_image_29 : decode cX11_image 29 = .ok (.aload_n 0, 1) := by decide +kernel
theorem dX11_image_30 : decode cX11_image 30 = .ok (.getfield 93, 3) := by decide +kernel
theorem dX11_image_33 : decode cX11_image 33 = .ok (.aload_n 0, 1) := by decide +kernel
theorem dX11_image_34 : decode cX11_image 34 = .ok (.getfield 199, 3) := by decide +kernel
theorem dX11_image_37 : decode cX11_image 37 = .ok (.putfield 365, 3) := by decide +kernel
theorem dX11_image_40 : decode cX11_image 40 = .ok (.aload_n 0, 1) := by decide +kernel
theorem dX11_image_41 : decode cX11_image 41 = .ok (.getfield 93, 3) := by decide +kernel
theorem dX11_image_44 : decode cX11_image 44 = .ok (.aload_n 0, 1) := by decide +kernel
theorem dX11_image_45 : decode cX11_image 45 = .ok (.getfield 86, 3) := by decide +kernel
theorem dX11_image_48 : decode cX11_image 48 = .ok (.getfield 336, 3) := by decide +kernel
theorem dX11_image_51 : decode cX11_image 51 = .ok (.putfield 367, 3) := by decide +kernel
theorem dX11_image_54 : decode cX11_image 54 = .ok (.aload_n 0, 1) := by decide +kernel
theorem dX11_image_55 : decode cX11_image 55 = .ok (.getfield 19, 3) := by decide +kernel
theorem dX11_image_58 : decode cX11_image 58 = .ok (.getfield 120, 3) := by decide +kernel
theorem dX11_image_61 : decode cX11_image 61 = .ok (.ireturn, 1) := by decide +kernel
theorem dX11_back_0 : decode cX11_back 0 = .ok (.aload_n 0, 1) := by decide +kernel
theorem dX11_back_1 : decode cX11_back 1 = .ok (.getfield 93, 3) := by decide +kernel
theorem dX11_back_4 : decode cX11_back 4 = .ok (.aload_n 0, 1) := by decide +kernel
theorem dX11_back_5 : decode cX11_back 5 = .ok (.getfield 19, 3) := by decide +kernel
theorem dX11_back_8 : decode cX11_back 8 = .ok (.aload_n 0, 1) := by decide +kernel
theorem dX11_back_9 : decode cX11_back 9 = .ok (.getfield 26, 3) := by decide +kernel
theorem dX11_back_12 : decode cX11_back 12 = .ok (.invokevirtual 370, 3) := by decide +kernel
theorem dX11_back_15 : decode cX11_back 15 = .ok (.aload_n 0, 1) := by decide +kernel
theorem dX11_back_16 : decode cX11_back 16 = .ok (.getfield 10, 3) := by decide +kernel
theorem dX11_back_19 : decode cX11_back 19 = .ok (.aload_n 0, 1) := by decide +kernel
theorem dX11_back_20 : decode cX11_back 20 = .ok (.getfield 93, 3) := by decide +kernel
theorem dX11_back_23 : decode cX11_back 23 = .ok (.getfield 363, 3) := by decide +kernel
theorem dX11_back_26 : decode cX11_back 26 = .ok (.putfield 109, 3) := by decide +kernel
theorem dX11_back_29 : decode cX11_back 29 = .ok (.aload_n 0, 1) := by decide +kernel
theorem dX11_back_30 : decode cX11_back 30 = .ok (.aload_n 0, 1) := by decide +kernel
theorem dX11_back_31 : decode cX11_back 31 = .ok (.getfield 93, 3) := by decide +kernel
theorem dX11_back_34 : decode cX11_back 34 = .ok (.getfield 365, 3) := by decide +kernel
theorem dX11_back_37 : decode cX11_back 37 = .ok (.putfield 199, 3) := by decide +kernel
theorem dX11_back_40 : decode cX11_back 40 = .ok (.aload_n 0, 1) := by decide +kernel
theorem dX11_back_41 : decode cX11_back 41 = .ok (.getfield 86, 3) := by decide +kernel
theorem dX11_back_44 : decode cX11_back 44 = .ok (.aload_n 0, 1) := by decide +kernel
theorem dX11_back_45 : decode cX11_back 45 = .ok (.getfield 93, 3) := by decide +kernel
theorem dX11_back_48 : decode cX11_back 48 = .ok (.getfield 367, 3) := by decide +kernel
theorem dX11_back_51 : decode cX11_back 51 = .ok (.putfield 336, 3) := by decide +kernel
theorem dX11_back_54 : decode cX11_back 54 = .ok (.aload_n 0, 1) := by decide +kernel
theorem dX11_back_55 : decode cX11_back 55 = .ok (.getfield 86, 3) := by decide +kernel
theorem dX11_back_58 : decode cX11_back 58 = .ok (.invokevirtual 117, 3) := by decide +kernel
theorem dX11_back_61 : decode cX11_back 61 = .ok (.aload_n 0, 1) := by decide +kernel
theorem dX11_back_62 : decode cX11_back 62 = .ok (.getfield 19, 3) := by decide +kernel
theorem dX11_back_65 : decode cX11_back 65 = .ok (.getfield 120, 3) := by decide +kernel
theorem dX11_back_68 : decode cX11_back 68 = .ok (.ireturn, 1) := by decide +kernel
theorem dX11_about_0 : decode cX11_about 0 = .ok (.iload_n 1, 1) := by decide +kernel
theorem dX11_about_1 : decode cX11_about 1 = .ok (.tableswitch 144 0 11 #[63, 71, 79, 87, 95, 100, 108, 116, 144, 144, 124, 134], 63) := by decide +kernel
theorem dX11_about_64 : decode cX11_about 64 = .ok (.aload_n 0, 1) := by decide +kernel
theorem dX11_about_65 : decode cX11_about 65 = .ok (.getfield 19, 3) := by decide +kernel
theorem dX11_about_68 : decode cX11_about 68 = .ok (.getfield 120, 3) := by decide +kernel
theorem dX11_about_71 : decode cX11_about 71 = .ok (.ireturn, 1) := by decide +kernel
theorem dX11_about_72 : decode cX11_about 72 = .ok (.aload_n 0, 1) := by decide +kernel
theorem dX11_about_73 : decode cX11_about 73 = .ok (.getfield 10, 3) := by decide +kernel
theorem dX11_about_76 : decode cX11_about 76 = .ok (.getfield 109, 3) := by decide +kernel
theorem dX11_about_79 : decode cX11_about 79 = .ok (.ireturn, 1) := by decide +kernel
theorem dX11_about_80 : decode cX11_about 80 = .ok (.aload_n 0, 1) := by decide +kernel
theorem dX11_about_81 : decode cX11_about 81 = .ok (.getfield 19, 3) := by decide +kernel
theorem dX11_about_84 : decode cX11_about 84 = .ok (.getfield 176, 3) := by decide +kernel
theorem dX11_about_87 : decode cX11_about 87 = .ok (.ireturn, 1) := by decide +kernel
theorem dX11_about_88 : decode cX11_about 88 = .ok (.aload_n 0, 1) := by decide +kernel
theorem dX11_about_89 : decode cX11_about 89 = .ok (.getfield 19, 3) := by decide +kernel
theorem dX11_about_92 : decode cX11_about 92 = .ok (.getfield 182, 3) := by decide +kernel
theorem dX11_about_95 : decode cX11_about 95 = .ok (.ireturn, 1) := by decide +kernel
theorem dX11_about_96 : decode cX11_about 96 = .ok (.aload_n 0, 1) := by decide +kernel
theorem dX11_about_97 : decode cX11_about 97 = .ok (.getfield 199, 3) := by decide +kernel
theorem dX11_about_100 : decode cX11_about 100 = .ok (.ireturn, 1) := by decide +kernel
theorem dX11_about_101 : decode cX11_about 101 = .ok (.aload_n 0, 1) := by decide +kernel
theorem dX11_about_102 : decode cX11_about 102 = .ok (.getfield 86, 3) := by decide +kernel
theorem dX11_about_105 : decode cX11_about 105 = .ok (.getfield 336, 3) := by decide +kernel
theorem dX11_about_108 : decode cX11_about 108 = .ok (.ireturn, 1) := by decide +kernel
theorem dX11_about_109 : decode cX11_about 109 = .ok (.aload_n 0, 1) := by decide +kernel
theorem dX11_about_110 : decode cX11_about 110 = .ok (.getfield 45, 3) := by decide +kernel
theorem dX11_about_113 : decode cX11_about 113 = .ok (.getfield 196, 3) := by decide +kernel
theorem dX11_about_116 : decode cX11_about 116 = .ok (.ireturn, 1) := by decide +kernel
theorem dX11_about_117 : decode cX11_about 117 = .ok (.aload_n 0, 1) := by decide +kernel
theorem dX11_about_118 : decode cX11_about 118 = .ok (.getfield 19, 3) := by decide +kernel
theorem dX11_about_121 : decode cX11_about 121 = .ok (.getfield 170, 3) := by decide +kernel
theorem dX11_about_124 : decode cX11_about 124 = .ok (.ireturn, 1) := by decide +kernel
theorem dX11_about_125 : decode cX11_about 125 = .ok (.aload_n 0, 1) := by decide +kernel
theorem dX11_about_126 : decode cX11_about 126 = .ok (.getfield 19, 3) := by decide +kernel
theorem dX11_about_129 : decode cX11_about 129 = .ok (.getfield 212, 3) := by decide +kernel
theorem dX11_about_132 : decode cX11_about 132 = .ok (.iconst 0, 1) := by decide +kernel
theorem dX11_about_133 : decode cX11_about 133 = .ok (.iaload, 1) := by decide +kernel
theorem dX11_about_134 : decode cX11_about 134 = .ok (.ireturn, 1) := by decide +kernel
theorem dX11_about_135 : decode cX11_about 135 = .ok (.aload_n 0, 1) := by decide +kernel
theorem dX11_about_136 : decode cX11_about 136 = .ok (.getfield 19, 3) := by decide +kernel
theorem dX11_about_139 : decode cX11_about 139 = .ok (.getfield 212, 3) := by decide +kernel
theorem dX11_about_142 : decode cX11_about 142 = .ok (.iconst 1, 1) := by decide +kernel
theorem dX11_about_143 : decode cX11_about 143 = .ok (.iaload, 1) := by decide +kernel
theorem dX11_about_144 : decode cX11_about 144 = .ok (.ireturn, 1) := by decide +kernel
theorem dX11_about_145 : decode cX11_about 145 = .ok (.iload_n 1, 1) := by decide +kernel
theorem dX11_about_146 : decode cX11_about 146 = .ok (.bipush 20, 2) := by decide +kernel
theorem dX11_about_148 : decode cX11_about 148 = .ok (.bipush 31, 2) := by decide +kernel
theorem dX11_about_150 : decode cX11_about 150 = .ok (.invokestatic 105, 3) := by decide +kernel
theorem dX11_about_153 : decode cX11_about 153 = .ok (.ifCond .eq 18, 3) := by decide +kernel
theorem dX11_about_156 : decode cX11_about 156 = .ok (.aload_n 0, 1) := by decide +kernel
theorem dX11_about_157 : decode cX11_about 157 = .ok (.getfield 19, 3) := by decide +kernel
theorem dX11_about_160 : decode cX11_about 160 = .ok (.getfield 173, 3) := by decide +kernel
theorem dX11_about_163 : decode cX11_about 163 = .ok (.iload_n 1, 1) := by decide +kernel
theorem dX11_about_164 : decode cX11_about 164 = .ok (.bipush 20, 2) := by decide +kernel
theorem dX11_about_166 : decode cX11_about 166 = .ok (.isub, 1) := by decide +kernel
theorem dX11_about_167 : decode cX11_about 167 = .ok (.iaload, 1) := by decide +kernel
theorem dX11_about_168 : decode cX11_about 168 = .ok (.goto 4, 3) := by decide +kernel
theorem dX11_about_171 : decode cX11_about 171 = .ok (.iconst (-1), 1) := by decide +kernel
theorem dX11_about_172 : decode cX11_about 172 = .ok (.ireturn, 1) := by decide +kernel
theorem dX11_within_0 : decode cX11_within 0 = .ok (.iload_n 0, 1) := by decide +kernel
theorem dX11_within_1 : decode cX11_within 1 = .ok (.iload_n 1, 1) := by decide +kernel
theorem dX11_within_2 : decode cX11_within 2 = .ok (.if_icmp .lt 12, 3) := by decide +kernel
theorem dX11_within_5 : decode cX11_within 5 = .ok (.iload_n 0, 1) := by decide +kernel
theorem dX11_within_6 : decode cX11_within 6 = .ok (.iload_n 2, 1) := by decide +kernel
theorem dX11_within_7 : decode cX11_within 7 = .ok (.if_icmp .gt 7, 3) := by decide +kernel
theorem dX11_within_10 : decode cX11_within 10 = .ok (.iconst 1, 1) := by decide +kernel
theorem dX11_within_11 : decode cX11_within 11 = .ok (.goto 4, 3) := by decide +kernel
theorem dX11_within_14 : decode cX11_within 14 = .ok (.iconst 0, 1) := by decide +kernel
theorem dX11_within_15 : decode cX11_within 15 = .ok (.ireturn, 1) := by decide +kernel
theorem dX11_isOrAll_0 : decode cX11_isOrAll 0 = .ok (.iload_n 0, 1) := by decide +kernel
theorem dX11_isOrAll_1 : decode cX11_isOrAll 1 = .ok (.iconst (-1), 1) := by decide +kernel
theorem dX11_isOrAll_2 : decode cX11_isOrAll 2 = .ok (.if_icmp .eq 8, 3) := by decide +kernel
theorem dX11_isOrAll_5 : decode cX11_isOrAll 5 = .ok (.iload_n 0, 1) := by decide +kernel
theorem dX11_isOrAll_6 : decode cX11_isOrAll 6 = .ok (.iload_n 1, 1) := by decide +kernel
theorem dX11_isOrAll_7 : decode cX11_isOrAll 7 = .ok (.if_icmp .ne 7, 3) := by decide +kernel
theorem dX11_isOrAll_10 : decode cX11_isOrAll 10 = .ok (.iconst 1, 1) := by decide +kernel
theorem dX11_isOrAll_11 : decode cX11_isOrAll 11 = .ok (.goto 4, 3) := by decide +kernel
theorem dX11_isOrAll_14 : decode cX11_isOrAll 14 = .ok (.iconst 0, 1) := by decide +kernel
theorem dX11_isOrAll_15 : decode cX11_isOrAll 15 = .ok (.ireturn, 1) := by decide +kernel
theorem dX11_isRow_0 : decode cX11_isRow 0 = .ok (.iload_n 0, 1) := by decide +kernel
theorem dX11_isRow_1 : decode cX11_isRow 1 = .ok (.iconst 0, 1) := by decide +kernel
theorem dX11_isRow_2 : decode cX11_isRow 2 = .ok (.iconst 2, 1) := by decide +kernel
theorem dX11_isRow_3 : decode cX11_isRow 3 = .ok (.invokestatic 105, 3) := by decide +kernel
theorem dX11_isRow_6 : decode cX11_isRow 6 = .ok (.ifCond .eq 25, 3) := by decide +kernel
theorem dX11_isRow_9 : decode cX11_isRow 9 = .ok (.iload_n 1, 1) := by decide +kernel
theorem dX11_isRow_10 : decode cX11_isRow 10 = .ok (.iconst 0, 1) := by decide +kernel
theorem dX11_isRow_11 : decode cX11_isRow 11 = .ok (.iconst 1, 1) := by decide +kernel
theorem dX11_isRow_12 : decode cX11_isRow 12 = .ok (.invokestatic 105, 3) := by decide +kernel
theorem dX11_isRow_15 : decode cX11_isRow 15 = .ok (.ifCond .eq 16, 3) := by decide +kernel
theorem dX11_isRow_18 : decode cX11_isRow 18 = .ok (.iload_n 2, 1) := by decide +kernel
theorem dX11_isRow_19 : decode cX11_isRow 19 = .ok (.iconst 0, 1) := by decide +kernel
theorem dX11_isRow_20 : decode cX11_isRow 20 = .ok (.iconst 1, 1) := by decide +kernel
theorem dX11_isRow_21 : decode cX11_isRow 21 = .ok (.invokestatic 105, 3) := by decide +kernel
theorem dX11_isRow_24 : decode cX11_isRow 24 = .ok (.ifCond .eq 7, 3) := by decide +kernel
theorem dX11_isRow_27 : decode cX11_isRow 27 = .ok (.iconst 1, 1) := by decide +kernel
theorem dX11_isRow_28 : decode cX11_isRow 28 = .ok (.goto 4, 3) := by decide +kernel
theorem dX11_isRow_31 : decode cX11_isRow 31 = .ok (.iconst 0, 1) := by decide +kernel
theorem dX11_isRow_32 : decode cX11_isRow 32 = .ok (.ireturn, 1) := by decide +kernel
theorem dX11_isPrintable_0 : decode cX11_isPrintable 0 = .ok (.iload_n 1, 1) := by decide +kernel
theorem dX11_isPrintable_1 : decode cX11_isPrintable 1 = .ok (.iconst 0, 1) := by decide +kernel
theorem dX11_isPrintable_2 : decode cX11_isPrintable 2 = .ok (.bipush 60, 2) := by decide +kernel
theorem dX11_isPrintable_4 : decode cX11_isPrintable 4 = .ok (.invokestatic 105, 3) := by decide +kernel
theorem dX11_isPrintable_7 : decode cX11_isPrintable 7 = .ok (.ifCond .eq 28, 3) := by decide +kernel
theorem dX11_isPrintable_10 : decode cX11_isPrintable 10 = .ok (.iload_n 2, 1) := by decide +kernel
theorem dX11_isPrintable_11 : decode cX11_isPrintable 11 = .ok (.iconst 0, 1) := by decide +kernel
theorem dX11_isPrintable_12 : decode cX11_isPrintable 12 = .ok (.iload_n 3, 1) := by decide +kernel
theorem dX11_isPrintable_13 : decode cX11_isPrintable 13 = .ok (.invokestatic 153, 3) := by decide +kernel
theorem dX11_isPrintable_16 : decode cX11_isPrintable 16 = .ok (.ifCond .eq 19, 3) := by decide +kernel
theorem dX11_isPrintable_19 : decode cX11_isPrintable 19 = .ok (.aload_n 0, 1) := by decide +kernel
theorem dX11_isPrintable_20 : decode cX11_isPrintable 20 = .ok (.getfield 10, 3) := by decide +kernel
theorem dX11_isPrintable_23 : decode cX11_isPrintable 23 = .ok (.iload 4, 2) := by decide +kernel
theorem dX11_isPrintable_25 : decode cX11_isPrintable 25 = .ok (.invokevirtual 127, 3) := by decide +kernel
theorem dX11_isPrintable_28 : decode cX11_isPrintable 28 = .ok (.ifCond .eq 7, 3) := by decide +kernel
theorem dX11_isPrintable_31 : decode cX11_isPrintable 31 = .ok (.iconst 1, 1) := by decide +kernel
theorem dX11_isPrintable_32 : decode cX11_isPrintable 32 = .ok (.goto 4, 3) := by decide +kernel
theorem dX11_isPrintable_35 : decode cX11_isPrintable 35 = .ok (.iconst 0, 1) := by decide +kernel
theorem dX11_isPrintable_36 : decode cX11_isPrintable 36 = .ok (.ireturn, 1) := by decide +kernel
theorem dX11_weighAll_0 : decode cX11_weighAll 0 = .ok (.aload_n 0, 1) := by decide +kernel
theorem dX11_weighAll_1 : decode cX11_weighAll 1 = .ok (.getfield 19, 3) := by decide +kernel
theorem dX11_weighAll_4 : decode cX11_weighAll 4 = .ok (.getfield 212, 3) := by decide +kernel
theorem dX11_weighAll_7 : decode cX11_weighAll 7 = .ok (.iload_n 2, 1) := by decide +kernel
theorem dX11_weighAll_8 : decode cX11_weighAll 8 = .ok (.iaload, 1) := by decide +kernel
theorem dX11_weighAll_9 : decode cX11_weighAll 9 = .ok (.istore 4, 2) := by decide +kernel
theorem dX11_weighAll_11 : decode cX11_weighAll 11 = .ok (.iload 4, 2) := by decide +kernel
theorem dX11_weighAll_13 : decode cX11_weighAll 13 = .ok (.iconst (-1), 1) := by decide +kernel
theorem dX11_weighAll_14 : decode cX11_weighAll 14 = .ok (.if_icmp .eq 15, 3) := by decide +kernel
theorem dX11_weighAll_17 : decode cX11_weighAll 17 = .ok (.aload_n 0, 1) := by decide +kernel
theorem dX11_weighAll_18 : decode cX11_weighAll 18 = .ok (.getfield 19, 3) := by decide +kernel
theorem dX11_weighAll_21 : decode cX11_weighAll 21 = .ok (.getfield 120, 3) := by decide +kernel
theorem dX11_weighAll_24 : decode cX11_weighAll 24 = .ok (.bipush 60, 2) := by decide +kernel
theorem dX11_weighAll_26 : decode cX11_weighAll 26 = .ok (.if_icmp .le 5, 3) := by decide +kernel
theorem dX11_weighAll_29 : decode cX11_weighAll 29 = .ok (.iconst 0, 1) := by decide +kernel
theorem dX11_weighAll_30 : decode cX11_weighAll 30 = .ok (.ireturn, 1) := by decide +kernel
theorem dX11_weighAll_31 : decode cX11_weighAll 31 = .ok (.aload_n 0, 1) := by decide +kernel
theorem dX11_weighAll_32 : decode cX11_weighAll 32 = .ok (.getfield 54, 3) := by decide +kernel
theorem dX11_weighAll_35 : decode cX11_weighAll 35 = .ok (.aload_n 0, 1) := by decide +kernel
theorem dX11_weighAll_36 : decode cX11_weighAll 36 = .ok (.getfield 26, 3) := by decide +kernel
theorem dX11_weighAll_39 : decode cX11_weighAll 39 = .ok (.aload_n 0, 1) := by decide +kernel
theorem dX11_weighAll_40 : decode cX11_weighAll 40 = .ok (.getfield 19, 3) := by decide +kernel
theorem dX11_weighAll_43 : decode cX11_weighAll 43 = .ok (.getfield 120, 3) := by decide +kernel
theorem dX11_weighAll_46 : decode cX11_weighAll 46 = .ok (.iload_n 1, 1) := by decide +kernel
theorem dX11_weighAll_47 : decode cX11_weighAll 47 = .ok (.iload_n 2, 1) := by decide +kernel
theorem dX11_weighAll_48 : decode cX11_weighAll 48 = .ok (.iload_n 3, 1) := by decide +kernel
theorem dX11_weighAll_49 : decode cX11_weighAll 49 = .ok (.invokevirtual 373, 3) := by decide +kernel
theorem dX11_weighAll_52 : decode cX11_weighAll 52 = .ok (.aload_n 0, 1) := by decide +kernel
theorem dX11_weighAll_53 : decode cX11_weighAll 53 = .ok (.getfield 54, 3) := by decide +kernel
theorem dX11_weighAll_56 : decode cX11_weighAll 56 = .ok (.aload_n 0, 1) := by decide +kernel
theorem dX11_weighAll_57 : decode cX11_weighAll 57 = .ok (.getfield 35, 3) := by decide +kernel
theorem dX11_weighAll_60 : decode cX11_weighAll 60 = .ok (.iload 4, 2) := by decide +kernel
theorem dX11_weighAll_62 : decode cX11_weighAll 62 = .ok (.aaload, 1) := by decide +kernel
theorem dX11_weighAll_63 : decode cX11_weighAll 63 = .ok (.putfield 377, 3) := by decide +kernel
theorem dX11_weighAll_66 : decode cX11_weighAll 66 = .ok (.iconst 0, 1) := by decide +kernel
theorem dX11_weighAll_67 : decode cX11_weighAll 67 = .ok (.istore 5, 2) := by decide +kernel
theorem dX11_weighAll_69 : decode cX11_weighAll 69 = .ok (.iload 5, 2) := by decide +kernel
theorem dX11_weighAll_71 : decode cX11_weighAll 71 = .ok (.aload_n 0, 1) := by decide +kernel
theorem dX11_weighAll_72 : decode cX11_weighAll 72 = .ok (.getfield 10, 3) := by decide +kernel
theorem dX11_weighAll_75 : decode cX11_weighAll 75 = .ok (.getfield 109, 3) := by decide +kernel
theorem dX11_weighAll_78 : decode cX11_weighAll 78 = .ok (.if_icmp .ge 18, 3) := by decide +kernel
theorem dX11_weighAll_81 : decode cX11_weighAll 81 = .ok (.aload_n 0, 1) := by decide +kernel
theorem dX11_weighAll_82 : decode cX11_weighAll 82 = .ok (.getfield 54, 3) := by decide +kernel
theorem dX11_weighAll_85 : decode cX11_weighAll 85 = .ok (.iload 5, 2) := by decide +kernel
theorem dX11_weighAll_87 : decode cX11_weighAll 87 = .ok (.invokevirtual 381, 3) := by decide +kernel
theorem dX11_weighAll_90 : decode cX11_weighAll 90 = .ok (.iinc 5 1, 3) := by decide +kernel
theorem dX11_weighAll_93 : decode cX11_weighAll 93 = .ok (.goto (-24), 3) := by decide +kernel
theorem dX11_weighAll_96 : decode cX11_weighAll 96 = .ok (.iconst 1, 1) := by decide +kernel
theorem dX11_weighAll_97 : decode cX11_weighAll 97 = .ok (.ireturn, 1) := by decide +kernel
theorem dX11_broughtBy_0 : decode cX11_broughtBy 0 = .ok (.aload_n 0, 1) := by decide +kernel
theorem dX11_broughtBy_1 : decode cX11_broughtBy 1 = .ok (.getfield 54, 3) := by decide +kernel
theorem dX11_broughtBy_4 : decode cX11_broughtBy 4 = .ok (.iload_n 1, 1) := by decide +kernel
theorem dX11_broughtBy_5 : decode cX11_broughtBy 5 = .ok (.putfield 384, 3) := by decide +kernel
theorem dX11_broughtBy_8 : decode cX11_broughtBy 8 = .ok (.aload_n 0, 1) := by decide +kernel
theorem dX11_broughtBy_9 : decode cX11_broughtBy 9 = .ok (.getfield 54, 3) := by decide +kernel
theorem dX11_broughtBy_12 : decode cX11_broughtBy 12 = .ok (.iload_n 2, 1) := by decide +kernel
theorem dX11_broughtBy_13 : decode cX11_broughtBy 13 = .ok (.putfield 387, 3) := by decide +kernel
theorem dX11_broughtBy_16 : decode cX11_broughtBy 16 = .ok (.aload_n 0, 1) := by decide +kernel
theorem dX11_broughtBy_17 : decode cX11_broughtBy 17 = .ok (.getfield 30, 3) := by decide +kernel
theorem dX11_broughtBy_20 : decode cX11_broughtBy 20 = .ok (.aload_n 0, 1) := by decide +kernel
theorem dX11_broughtBy_21 : decode cX11_broughtBy 21 = .ok (.getfield 26, 3) := by decide +kernel
theorem dX11_broughtBy_24 : decode cX11_broughtBy 24 = .ok (.invokevirtual 391, 3) := by decide +kernel
theorem dX11_broughtBy_27 : decode cX11_broughtBy 27 = .ok (.iconst 0, 1) := by decide +kernel
theorem dX11_broughtBy_28 : decode cX11_broughtBy 28 = .ok (.istore 5, 2) := by decide +kernel
theorem dX11_broughtBy_30 : decode cX11_broughtBy 30 = .ok (.iload 5, 2) := by decide +kernel
theorem dX11_broughtBy_32 : decode cX11_broughtBy 32 = .ok (.iload 4, 2) := by decide +kernel
theorem dX11_broughtBy_34 : decode cX11_broughtBy 34 = .ok (.if_icmp .gt 24, 3) := by decide +kernel
theorem dX11_broughtBy_37 : decode cX11_broughtBy 37 = .ok (.aload_n 0, 1) := by decide +kernel
theorem dX11_broughtBy_38 : decode cX11_broughtBy 38 = .ok (.getfield 63, 3) := by decide +kernel
theorem dX11_broughtBy_41 : decode cX11_broughtBy 41 = .ok (.aload_n 0, 1) := by decide +kernel
theorem dX11_broughtBy_42 : decode cX11_broughtBy 42 = .ok (.getfield 30, 3) := by decide +kernel
theorem dX11_broughtBy_45 : decode cX11_broughtBy 45 = .ok (.iload 5, 2) := by decide +kernel
theorem dX11_broughtBy_47 : decode cX11_broughtBy 47 = .ok (.iconst (-1), 1) := by decide +kernel
theorem dX11_broughtBy_48 : decode cX11_broughtBy 48 = .ok (.invokevirtual 215, 3) := by decide +kernel
theorem dX11_broughtBy_51 : decode cX11_broughtBy 51 = .ok (.pop, 1) := by decide +kernel
theorem dX11_broughtBy_52 : decode cX11_broughtBy 52 = .ok (.iinc 5 1, 3) := by decide +kernel
theorem dX11_broughtBy_55 : decode cX11_broughtBy 55 = .ok (.goto (-25), 3) := by decide +kernel
theorem dX11_broughtBy_58 : decode cX11_broughtBy 58 = .ok (.aload_n 0, 1) := by decide +kernel
theorem dX11_broughtBy_59 : decode cX11_broughtBy 59 = .ok (.getfield 54, 3) := by decide +kernel
theorem dX11_broughtBy_62 : decode cX11_broughtBy 62 = .ok (.iconst (-1), 1) := by decide +kernel
theorem dX11_broughtBy_63 : decode cX11_broughtBy 63 = .ok (.putfield 384, 3) := by decide +kernel
theorem dX11_broughtBy_66 : decode cX11_broughtBy 66 = .ok (.aload_n 0, 1) := by decide +kernel
theorem dX11_broughtBy_67 : decode cX11_broughtBy 67 = .ok (.getfield 54, 3) := by decide +kernel
theorem dX11_broughtBy_70 : decode cX11_broughtBy 70 = .ok (.iconst 0, 1) := by decide +kernel
theorem dX11_broughtBy_71 : decode cX11_broughtBy 71 = .ok (.putfield 387, 3) := by decide +kernel
theorem dX11_broughtBy_74 : decode cX11_broughtBy 74 = .ok (.aload_n 0, 1) := by decide +kernel
theorem dX11_broughtBy_75 : decode cX11_broughtBy 75 = .ok (.getfield 26, 3) := by decide +kernel
theorem dX11_broughtBy_78 : decode cX11_broughtBy 78 = .ok (.bipush 6, 2) := by decide +kernel
theorem dX11_broughtBy_80 : decode cX11_broughtBy 80 = .ok (.iload_n 3, 1) := by decide +kernel
theorem dX11_broughtBy_81 : decode cX11_broughtBy 81 = .ok (.iload 4, 2) := by decide +kernel
theorem dX11_broughtBy_83 : decode cX11_broughtBy 83 = .ok (.iload 4, 2) := by decide +kernel
theorem dX11_broughtBy_85 : decode cX11_broughtBy 85 = .ok (.invokevirtual 395, 3) := by decide +kernel
theorem dX11_broughtBy_88 : decode cX11_broughtBy 88 = .ok (.aload_n 0, 1) := by decide +kernel
theorem dX11_broughtBy_89 : decode cX11_broughtBy 89 = .ok (.getfield 30, 3) := by decide +kernel
theorem dX11_broughtBy_92 : decode cX11_broughtBy 92 = .ok (.bipush 6, 2) := by decide +kernel
theorem dX11_broughtBy_94 : decode cX11_broughtBy 94 = .ok (.iload_n 3, 1) := by decide +kernel
theorem dX11_broughtBy_95 : decode cX11_broughtBy 95 = .ok (.iload 4, 2) := by decide +kernel
theorem dX11_broughtBy_97 : decode cX11_broughtBy 97 = .ok (.iload 4, 2) := by decide +kernel
theorem dX11_broughtBy_99 : decode cX11_broughtBy 99 = .ok (.invokevirtual 395, 3) := by decide +kernel
theorem dX11_broughtBy_102 : decode cX11_broughtBy 102 = .ok (.isub, 1) := by decide +kernel
theorem dX11_broughtBy_103 : decode cX11_broughtBy 103 = .ok (.ireturn, 1) := by decide +kernel
theorem dX11_beyondChance_0 : decode cX11_beyondChance 0 = .ok (.aload_n 0, 1) := by decide +kernel
theorem dX11_beyondChance_1 : decode cX11_beyondChance 1 = .ok (.getfield 26, 3) := by decide +kernel
theorem dX11_beyondChance_4 : decode cX11_beyondChance 4 = .ok (.bipush 6, 2) := by decide +kernel
theorem dX11_beyondChance_6 : decode cX11_beyondChance 6 = .ok (.iload_n 2, 1) := by decide +kernel
theorem dX11_beyondChance_7 : decode cX11_beyondChance 7 = .ok (.iload_n 2, 1) := by decide +kernel
theorem dX11_beyondChance_8 : decode cX11_beyondChance 8 = .ok (.invokevirtual 322, 3) := by decide +kernel
theorem dX11_beyondChance_11 : decode cX11_beyondChance 11 = .ok (.istore 4, 2) := by decide +kernel
theorem dX11_beyondChance_13 : decode cX11_beyondChance 13 = .ok (.aload_n 0, 1) := by decide +kernel
theorem dX11_beyondChance_14 : decode cX11_beyondChance 14 = .ok (.getfield 72, 3) := by decide +kernel
theorem dX11_beyondChance_17 : decode cX11_beyondChance 17 = .ok (.iload_n 1, 1) := by decide +kernel
theorem dX11_beyondChance_18 : decode cX11_beyondChance 18 = .ok (.iload_n 2, 1) := by decide +kernel
theorem dX11_beyondChance_19 : decode cX11_beyondChance 19 = .ok (.invokevirtual 264, 3) := by decide +kernel
theorem dX11_beyondChance_22 : decode cX11_beyondChance 22 = .ok (.istore 5, 2) := by decide +kernel
theorem dX11_beyondChance_24 : decode cX11_beyondChance 24 = .ok (.aload_n 0, 1) := by decide +kernel
theorem dX11_beyondChance_25 : decode cX11_beyondChance 25 = .ok (.getfield 72, 3) := by decide +kernel
theorem dX11_beyondChance_28 : decode cX11_beyondChance 28 = .ok (.iload_n 1, 1) := by decide +kernel
theorem dX11_beyondChance_29 : decode cX11_beyondChance 29 = .ok (.iload_n 2, 1) := by decide +kernel
theorem dX11_beyondChance_30 : decode cX11_beyondChance 30 = .ok (.iconst 1, 1) := by decide +kernel
theorem dX11_beyondChance_31 : decode cX11_beyondChance 31 = .ok (.isub, 1) := by decide +kernel
theorem dX11_beyondChance_32 : decode cX11_beyondChance 32 = .ok (.invokevirtual 264, 3) := by decide +kernel
theorem dX11_beyondChance_35 : decode cX11_beyondChance 35 = .ok (.istore 6, 2) := by decide +kernel
theorem dX11_beyondChance_37 : decode cX11_beyondChance 37 = .ok (.aload_n 0, 1) := by decide +kernel
theorem dX11_beyondChance_38 : decode cX11_beyondChance 38 = .ok (.getfield 26, 3) := by decide +kernel
theorem dX11_beyondChance_41 : decode cX11_beyondChance 41 = .ok (.bipush 6, 2) := by decide +kernel
theorem dX11_beyondChance_43 : decode cX11_beyondChance 43 = .ok (.iload_n 2, 1) := by decide +kernel
theorem dX11_beyondChance_44 : decode cX11_beyondChance 44 = .ok (.iconst 1, 1) := by decide +kernel
theorem dX11_beyondChance_45 : decode cX11_beyondChance 45 = .ok (.isub, 1) := by decide +kernel
theorem dX11_beyondChance_46 : decode cX11_beyondChance 46 = .ok (.iload_n 2, 1) := by decide +kernel
theorem dX11_beyondChance_47 : decode cX11_beyondChance 47 = .ok (.iconst 1, 1) := by decide +kernel
theorem dX11_beyondChance_48 : decode cX11_beyondChance 48 = .ok (.isub, 1) := by decide +kernel
theorem dX11_beyondChance_49 : decode cX11_beyondChance 49 = .ok (.invokevirtual 322, 3) := by decide +kernel
theorem dX11_beyondChance_52 : decode cX11_beyondChance 52 = .ok (.iload 6, 2) := by decide +kernel
theorem dX11_beyondChance_54 : decode cX11_beyondChance 54 = .ok (.isub, 1) := by decide +kernel
theorem dX11_beyondChance_55 : decode cX11_beyondChance 55 = .ok (.istore 7, 2) := by decide +kernel
theorem dX11_beyondChance_57 : decode cX11_beyondChance 57 = .ok (.aload_n 0, 1) := by decide +kernel
theorem dX11_beyondChance_58 : decode cX11_beyondChance 58 = .ok (.getfield 79, 3) := by decide +kernel
theorem dX11_beyondChance_61 : decode cX11_beyondChance 61 = .ok (.iload 4, 2) := by decide +kernel
theorem dX11_beyondChance_63 : decode cX11_beyondChance 63 = .ok (.iload 6, 2) := by decide +kernel
theorem dX11_beyondChance_65 : decode cX11_beyondChance 65 = .ok (.iload 7, 2) := by decide +kernel
theorem dX11_beyondChance_67 : decode cX11_beyondChance 67 = .ok (.invokevirtual 398, 3) := by decide +kernel
theorem dX11_beyondChance_70 : decode cX11_beyondChance 70 = .ok (.aload_n 0, 1) := by decide +kernel
theorem dX11_beyondChance_71 : decode cX11_beyondChance 71 = .ok (.getfield 79, 3) := by decide +kernel
theorem dX11_beyondChance_74 : decode cX11_beyondChance 74 = .ok (.iload 5, 2) := by decide +kernel
theorem dX11_beyondChance_76 : decode cX11_beyondChance 76 = .ok (.iload 4, 2) := by decide +kernel
theorem dX11_beyondChance_78 : decode cX11_beyondChance 78 = .ok (.iload_n 3, 1) := by decide +kernel
theorem dX11_beyondChance_79 : decode cX11_beyondChance 79 = .ok (.invokevirtual 402, 3) := by decide +kernel
theorem dX11_beyondChance_82 : decode cX11_beyondChance 82 = .ok (.ifCond .eq 5, 3) := by decide +kernel
theorem dX11_beyondChance_85 : decode cX11_beyondChance 85 = .ok (.iconst 1, 1) := by decide +kernel
theorem dX11_beyondChance_86 : decode cX11_beyondChance 86 = .ok (.ireturn, 1) := by decide +kernel
theorem dX11_beyondChance_87 : decode cX11_beyondChance 87 = .ok (.aload_n 0, 1) := by decide +kernel
theorem dX11_beyondChance_88 : decode cX11_beyondChance 88 = .ok (.getfield 79, 3) := by decide +kernel
theorem dX11_beyondChance_91 : decode cX11_beyondChance 91 = .ok (.iconst 0, 1) := by decide +kernel
theorem dX11_beyondChance_92 : decode cX11_beyondChance 92 = .ok (.iload 5, 2) := by decide +kernel
theorem dX11_beyondChance_94 : decode cX11_beyondChance 94 = .ok (.iload_n 3, 1) := by decide +kernel
theorem dX11_beyondChance_95 : decode cX11_beyondChance 95 = .ok (.invokevirtual 402, 3) := by decide +kernel
theorem dX11_beyondChance_98 : decode cX11_beyondChance 98 = .ok (.ifCond .eq 7, 3) := by decide +kernel
theorem dX11_beyondChance_101 : decode cX11_beyondChance 101 = .ok (.iconst 2, 1) := by decide +kernel
theorem dX11_beyondChance_102 : decode cX11_beyondChance 102 = .ok (.goto 4, 3) := by decide +kernel
theorem dX11_beyondChance_105 : decode cX11_beyondChance 105 = .ok (.iconst 0, 1) := by decide +kernel
theorem dX11_beyondChance_106 : decode cX11_beyondChance 106 = .ok (.ireturn, 1) := by decide +kernel
theorem dX11_runBy_0 : decode cX11_runBy 0 = .ok (.iload_n 1, 1) := by decide +kernel
theorem dX11_runBy_1 : decode cX11_runBy 1 = .ok (.istore_n 3, 1) := by decide +kernel
theorem dX11_runBy_2 : decode cX11_runBy 2 = .ok (.iload_n 3, 1) := by decide +kernel
theorem dX11_runBy_3 : decode cX11_runBy 3 = .ok (.iload_n 2, 1) := by decide +kernel
theorem dX11_runBy_4 : decode cX11_runBy 4 = .ok (.if_icmp .gt 74, 3) := by decide +kernel
theorem dX11_runBy_7 : decode cX11_runBy 7 = .ok (.aload_n 0, 1) := by decide +kernel
theorem dX11_runBy_8 : decode cX11_runBy 8 = .ok (.getfield 86, 3) := by decide +kernel
theorem dX11_runBy_11 : decode cX11_runBy 11 = .ok (.iload_n 3, 1) := by decide +kernel
theorem dX11_runBy_12 : decode cX11_runBy 12 = .ok (.invokevirtual 405, 3) := by decide +kernel
theorem dX11_runBy_15 : decode cX11_runBy 15 = .ok (.ifCond .ne 57, 3) := by decide +kernel
theorem dX11_runBy_18 : decode cX11_runBy 18 = .ok (.aload_n 0, 1) := by decide +kernel
theorem dX11_runBy_19 : decode cX11_runBy 19 = .ok (.getfield 30, 3) := by decide +kernel
theorem dX11_runBy_22 : decode cX11_runBy 22 = .ok (.aload_n 0, 1) := by decide +kernel
theorem dX11_runBy_23 : decode cX11_runBy 23 = .ok (.getfield 26, 3) := by decide +kernel
theorem dX11_runBy_26 : decode cX11_runBy 26 = .ok (.invokevirtual 391, 3) := by decide +kernel
theorem dX11_runBy_29 : decode cX11_runBy 29 = .ok (.iconst 0, 1) := by decide +kernel
theorem dX11_runBy_30 : decode cX11_runBy 30 = .ok (.istore 4, 2) := by decide +kernel
theorem dX11_runBy_32 : decode cX11_runBy 32 = .ok (.iload 4, 2) := by decide +kernel
theorem dX11_runBy_34 : decode cX11_runBy 34 = .ok (.bipush 60, 2) := by decide +kernel
theorem dX11_runBy_36 : decode cX11_runBy 36 = .ok (.if_icmp .gt 24, 3) := by decide +kernel
theorem dX11_runBy_39 : decode cX11_runBy 39 = .ok (.aload_n 0, 1) := by decide +kernel
theorem dX11_runBy_40 : decode cX11_runBy 40 = .ok (.getfield 63, 3) := by decide +kernel
theorem dX11_runBy_43 : decode cX11_runBy 43 = .ok (.aload_n 0, 1) := by decide +kernel
theorem dX11_runBy_44 : decode cX11_runBy 44 = .ok (.getfield 30, 3) := by decide +kernel
theorem dX11_runBy_47 : decode cX11_runBy 47 = .ok (.iload 4, 2) := by decide +kernel
theorem dX11_runBy_49 : decode cX11_runBy 49 = .ok (.iload_n 3, 1) := by decide +kernel
theorem dX11_runBy_50 : decode cX11_runBy 50 = .ok (.invokevirtual 215, 3) := by decide +kernel
theorem dX11_runBy_53 : decode cX11_runBy 53 = .ok (.pop, 1) := by decide +kernel
theorem dX11_runBy_54 : decode cX11_runBy 54 = .ok (.iinc 4 1, 3) := by decide +kernel
theorem dX11_runBy_57 : decode cX11_runBy 57 = .ok (.goto (-25), 3) := by decide +kernel
theorem dX11_runBy_60 : decode cX11_runBy 60 = .ok (.aload_n 0, 1) := by decide +kernel
theorem dX11_runBy_61 : decode cX11_runBy 61 = .ok (.getfield 86, 3) := by decide +kernel
theorem dX11_runBy_64 : decode cX11_runBy 64 = .ok (.iload_n 3, 1) := by decide +kernel
theorem dX11_runBy_65 : decode cX11_runBy 65 = .ok (.aload_n 0, 1) := by decide +kernel
theorem dX11_runBy_66 : decode cX11_runBy 66 = .ok (.getfield 30, 3) := by decide +kernel
theorem dX11_runBy_69 : decode cX11_runBy 69 = .ok (.invokevirtual 408, 3) := by decide +kernel
theorem dX11_runBy_72 : decode cX11_runBy 72 = .ok (.iinc 3 1, 3) := by decide +kernel
theorem dX11_runBy_75 : decode cX11_runBy 75 = .ok (.goto (-73), 3) := by decide +kernel
theorem dX11_runBy_78 : decode cX11_runBy 78 = .ok (.return_, 1) := by decide +kernel
theorem dX12_init_0 : decode cX12_init 0 = .ok (.aload_n 0, 1) := by decide +kernel
theorem dX12_init_1 : decode cX12_init 1 = .ok (.invokespecial 1, 3) := by decide +kernel
theorem dX12_init_4 : decode cX12_init 4 = .ok (.aload_n 0, 1) := by decide +kernel
theorem dX12_init_5 : decode cX12_init 5 = .ok (.sipush 9680, 3) := by decide +kernel
theorem dX12_init_8 : decode cX12_init 8 = .ok (.newarray .int, 2) := by decide +kernel
theorem dX12_init_10 : decode cX12_init 10 = .ok (.putfield 7, 3) := by decide +kernel
theorem dX12_init_13 : decode cX12_init 13 = .ok (.aload_n 0, 1) := by decide +kernel
theorem dX12_init_14 : decode cX12_init 14 = .ok (.sipush 9680, 3) := by decide +kernel
theorem dX12_init_17 : decode cX12_init 17 = .ok (.newarray .int, 2) := by decide +kernel
theorem dX12_init_19 : decode cX12_init 19 = .ok (.putfield 13, 3) := by decide +kernel
theorem dX12_init_22 : decode cX12_init 22 = .ok (.aload_n 0, 1) := by decide +kernel
theorem dX12_init_23 : decode cX12_init 23 = .ok (.bipush 16, 2) := by decide +kernel
theorem dX12_init_25 : decode cX12_init 25 = .ok (.newarray .long, 2) := by decide +kernel
theorem dX12_init_27 : decode cX12_init 27 = .ok (.putfield 16, 3) := by decide +kernel
theorem dX12_init_30 : decode cX12_init 30 = .ok (.aload_n 0, 1) := by decide +kernel
theorem dX12_init_31 : decode cX12_init 31 = .ok (.sipush 300, 3) := by decide +kernel
theorem dX12_init_34 : decode cX12_init 34 = .ok (.newarray .byte, 2) := by decide +kernel
theorem dX12_init_36 : decode cX12_init 36 = .ok (.putfield 20, 3) := by decide +kernel
theorem dX12_init_39 : decode cX12_init 39 = .ok (.aload_n 0, 1) := by decide +kernel
theorem dX12_init_40 : decode cX12_init 40 = .ok (.iconst (-1), 1) := by decide +kernel
theorem dX12_init_41 : decode cX12_init 41 = .ok (.putfield 24, 3) := by decide +kernel
theorem dX12_init_44 : decode cX12_init 44 = .ok (.aload_n 0, 1) := by decide +kernel
theorem dX12_init_45 : decode cX12_init 45 = .ok (.iconst (-1), 1) := by decide +kernel
theorem dX12_init_46 : decode cX12_init 46 = .ok (.putfield 28, 3) := by decide +kernel
theorem dX12_init_49 : decode cX12_init 49 = .ok (.aload_n 0, 1) := by decide +kernel
theorem dX12_init_50 : decode cX12_init 50 = .ok (.bipush 6, 2) := by decide +kernel
theorem dX12_init_52 : decode cX12_init 52 = .ok (.newarray .int, 2) := by decide +kernel
theorem dX12_init_54 : decode cX12_init 54 = .ok (.putfield 31, 3) := by decide +kernel
theorem dX12_init_57 : decode cX12_init 57 = .ok (.aload_n 0, 1) := by decide +kernel
theorem dX12_init_58 : decode cX12_init 58 = .ok (.bipush 72, 2) := by decide +kernel
theorem dX12_init_60 : decode cX12_init 60 = .ok (.newarray .int, 2) := by decide +kernel
theorem dX12_init_62 : decode cX12_init 62 = .ok (.putfield 34, 3) := by decide +kernel
theorem dX12_init_65 : decode cX12_init 65 = .ok (.aload_n 0, 1) := by decide +kernel
theorem dX12_init_66 : decode cX12_init 66 = .ok (.bipush 72, 2) := by decide +kernel
theorem dX12_init_68 : decode cX12_init 68 = .ok (.newarray .int, 2) := by decide +kernel
theorem dX12_init_70 : decode cX12_init 70 = .ok (.putfield 37, 3) := by decide +kernel
theorem dX12_init_73 : decode cX12_init 73 = .ok (.aload_n 0, 1) := by decide +kernel
theorem dX12_init_74 : decode cX12_init 74 = .ok (.bipush 6, 2) := by decide +kernel
theorem dX12_init_76 : decode cX12_init 76 = .ok (.newarray .int, 2) := by decide +kernel
theorem dX12_init_78 : decode cX12_init 78 = .ok (.putfield 40, 3) := by decide +kernel
theorem dX12_init_81 : decode cX12_init 81 = .ok (.aload_n 0, 1) := by decide +kernel
theorem dX12_init_82 : decode cX12_init 82 = .ok (.bipush 6, 2) := by decide +kernel
theorem dX12_init_84 : decode cX12_init 84 = .ok (.newarray .int, 2) := by decide +kernel
theorem dX12_init_86 : decode cX12_init 86 = .ok (.putfield 43, 3) := by decide +kernel
theorem dX12_init_89 : decode cX12_init 89 = .ok (.aload_n 0, 1) := by decide +kernel
theorem dX12_init_90 : decode cX12_init 90 = .ok (.sipush 2400, 3) := by decide +kernel
theorem dX12_init_93 : decode cX12_init 93 = .ok (.newarray .int, 2) := by decide +kernel
theorem dX12_init_95 : decode cX12_init 95 = .ok (.putfield 46, 3) := by decide +kernel
theorem dX12_init_98 : decode cX12_init 98 = .ok (.aload_n 0, 1) := by decide +kernel
theorem dX12_init_99 : decode cX12_init 99 = .ok (.sipush 2400, 3) := by decide +kernel
theorem dX12_init_102 : decode cX12_init 102 = .ok (.newarray .int, 2) := by decide +kernel
theorem dX12_init_104 : decode cX12_init 104 = .ok (.putfield 49, 3) := by decide +kernel
theorem dX12_init_107 : decode cX12_init 107 = .ok (.aload_n 0, 1) := by decide +kernel
theorem dX12_init_108 : decode cX12_init 108 = .ok (.bipush 40, 2) := by decide +kernel
theorem dX12_init_110 : decode cX12_init 110 = .ok (.newarray .int, 2) := by decide +kernel
theorem dX12_init_112 : decode cX12_init 112 = .ok (.putfield 52, 3) := by decide +kernel
theorem dX12_init_115 : decode cX12_init 115 = .ok (.aload_n 0, 1) := by decide +kernel
theorem dX12_init_116 : decode cX12_init 116 = .ok (.bipush 41, 2) := by decide +kernel
theorem dX12_init_118 : decode cX12_init 118 = .ok (.newarray .int, 2) := by decide +kernel
theorem dX12_init_120 : decode cX12_init 120 = .ok (.putfield 55, 3) := by decide +kernel
theorem dX12_init_123 : decode cX12_init 123 = .ok (.aload_n 0, 1) := by decide +kernel
theorem dX12_init_124 : decode cX12_init 124 = .ok (.bipush 41, 2) := by decide +kernel
theorem dX12_init_126 : decode cX12_init 126 = .ok (.newarray .int, 2) := by decide +kernel
theorem dX12_init_128 : decode cX12_init 128 = .ok (.putfield 58, 3) := by decide +kernel
theorem dX12_init_131 : decode cX12_init 131 = .ok (.aload_n 0, 1) := by decide +kernel
theorem dX12_init_132 : decode cX12_init 132 = .ok (.bipush 80, 2) := by decide +kernel
theorem dX12_init_134 : decode cX12_init 134 = .ok (.newarray .int, 2) := by decide +kernel
theorem dX12_init_136 : decode cX12_init 136 = .ok (.putfield 61, 3) := by decide +kernel
theorem dX12_init_139 : decode cX12_init 139 = .ok (.aload_n 0, 1) := by decide +kernel
theorem dX12_init_140 : decode cX12_init 140 = .ok (.bipush 80, 2) := by decide +kernel
theorem dX12_init_142 : decode cX12_init 142 = .ok (.newarray .int, 2) := by decide +kernel
theorem dX12_init_144 : decode cX12_init 144 = .ok (.putfield 64, 3) := by decide +kernel
theorem dX12_init_147 : decode cX12_init 147 = .ok (.aload_n 0, 1) := by decide +kernel
theorem dX12_init_148 : decode cX12_init 148 = .ok (.bipush 12, 2) := by decide +kernel
theorem dX12_init_150 : decode cX12_init 150 = .ok (.newarray .int, 2) := by decide +kernel
theorem dX12_init_152 : decode cX12_init 152 = .ok (.putfield 67, 3) := by decide +kernel
theorem dX12_init_155 : decode cX12_init 155 = .ok (.aload_n 0, 1) := by decide +kernel
theorem dX12_init_156 : decode cX12_init 156 = .ok (.bipush 12, 2) := by decide +kernel
theorem dX12_init_158 : decode cX12_init 158 = .ok (.newarray .int, 2) := by decide +kernel
theorem dX12_init_160 : decode cX12_init 160 = .ok (.putfield 70, 3) := by decide +kernel
theorem dX12_init_163 : decode cX12_init 163 = .ok (.aload_n 0, 1) := by decide +kernel
theorem dX12_init_164 : decode cX12_init 164 = .ok (.sipush 400, 3) := by decide +kernel
theorem dX12_init_167 : decode cX12_init 167 = .ok (.newarray .int, 2) := by decide +kernel
theorem dX12_init_169 : decode cX12_init 169 = .ok (.putfield 73, 3) := by decide +kernel
theorem dX12_init_172 : decode cX12_init 172 = .ok (.aload_n 0, 1) := by decide +kernel
theorem dX12_init_173 : decode cX12_init 173 = .ok (.sipush 400, 3) := by decide +kernel
theorem dX12_init_176 : decode cX12_init 176 = .ok (.newarray .int, 2) := by decide +kernel
theorem dX12_init_178 : decode cX12_init 178 = .ok (.putfield 76, 3) := by decide +kernel
theorem dX12_init_181 : decode cX12_init 181 = .ok (.aload_n 0, 1) := by decide +kernel
theorem dX12_init_182 : decode cX12_init 182 = .ok (.bipush 14, 2) := by decide +kernel
theorem dX12_init_184 : decode cX12_init 184 = .ok (.newarray .long, 2) := by decide +kernel
theorem dX12_init_186 : decode cX12_init 186 = .ok (.putfield 79, 3) := by decide +kernel
theorem dX12_init_189 : decode cX12_init 189 = .ok (.aload_n 0, 1) := by decide +kernel
theorem dX12_init_190 : decode cX12_init 190 = .ok (.sipush 200, 3) := by decide +kernel
theorem dX12_init_193 : decode cX12_init 193 = .ok (.newarray .long, 2) := by decide +kernel
theorem dX12_init_195 : decode cX12_init 195 = .ok (.putfield 82, 3) := by decide +kernel
theorem dX12_init_198 : decode cX12_init 198 = .ok (.aload_n 0, 1) := by decide +kernel
theorem dX12_init_199 : decode cX12_init 199 = .ok (.sipush 19392, 3) := by decide +kernel
theorem dX12_init_202 : decode cX12_init 202 = .ok (.newarray .int, 2) := by decide +kernel
theorem dX12_init_204 : decode cX12_init 204 = .ok (.putfield 85, 3) := by decide +kernel
theorem dX12_init_207 : decode cX12_init 207 = .ok (.aload_n 0, 1) := by decide +kernel
theorem dX12_init_208 : decode cX12_init 208 = .ok (.sipush 1616, 3) := by decide +kernel
theorem dX12_init_211 : decode cX12_init 211 = .ok (.newarray .int, 2) := by decide +kernel
theorem dX12_init_213 : decode cX12_init 213 = .ok (.putfield 88, 3) := by decide +kernel
theorem dX12_init_216 : decode cX12_init 216 = .ok (.aload_n 0, 1) := by decide +kernel
theorem dX12_init_217 : decode cX12_init 217 = .ok (.sipush 4848, 3) := by decide +kernel
theorem dX12_init_220 : decode cX12_init 220 = .ok (.newarray .int, 2) := by decide +kernel
theorem dX12_init_222 : decode cX12_init 222 = .ok (.putfield 91, 3) := by decide +kernel
theorem dX12_init_225 : decode cX12_init 225 = .ok (.aload_n 0, 1) := by decide +kernel
theorem dX12_init_226 : decode cX12_init 226 = .ok (.sipush 3232, 3) := by decide +kernel
theorem dX12_init_229 : decode cX12_init 229 = .ok (.newarray .int, 2) := by decide +kernel
theorem dX12_init_231 : decode cX12_init 231 = .ok (.putfield 94, 3) := by decide +kernel
theorem dX12_init_234 : decode cX12_init 234 = .ok (.aload_n 0, 1) := by decide +kernel
theorem dX12_init_235 : decode cX12_init 235 = .ok (.sipush 3232, 3) := by decide +kernel
theorem dX12_init_238 : decode cX12_init 238 = .ok (.newarray .int, 2) := by decide +kernel
theorem dX12_init_240 : decode cX12_init 240 = .ok (.putfield 97, 3) := by decide +kernel
theorem dX12_init_243 : decode cX12_init 243 = .ok (.aload_n 0, 1) := by decide +kernel
theorem dX12_init_244 : decode cX12_init 244 = .ok (.bipush 61, 2) := by decide +kernel
theorem dX12_init_246 : decode cX12_init 246 = .ok (.newarray .int, 2) := by decide +kernel
theorem dX12_init_248 : decode cX12_init 248 = .ok (.putfield 100, 3) := by decide +kernel
theorem dX12_init_251 : decode cX12_init 251 = .ok (.aload_n 0, 1) := by decide +kernel
theorem dX12_init_252 : decode cX12_init 252 = .ok (.iconst 2, 1) := by decide +kernel
theorem dX12_init_253 : decode cX12_init 253 = .ok (.newarray .int, 2) := by decide +kernel
theorem dX12_init_255 : decode cX12_init 255 = .ok (.putfield 103, 3) := by decide +kernel
theorem dX12_init_258 : decode cX12_init 258 = .ok (.aload_n 0, 1) := by decide +kernel
theorem dX12_init_259 : decode cX12_init 259 = .ok (.bipush 96, 2) := by decide +kernel
theorem dX12_init_261 : decode cX12_init 261 = .ok (.newarray .int, 2) := by decide +kernel
theorem dX12_init_263 : decode cX12_init 263 = .ok (.putfield 106, 3) := by decide +kernel
theorem dX12_init_266 : decode cX12_init 266 = .ok (.aload_n 0, 1) := by decide +kernel
theorem dX12_init_267 : decode cX12_init 267 = .ok (.bipush 64, 2) := by decide +kernel
theorem dX12_init_269 : decode cX12_init 269 = .ok (.newarray .int, 2) := by decide +kernel
theorem dX12_init_271 : decode cX12_init 271 = .ok (.putfield 109, 3) := by decide +kernel
theorem dX12_init_274 : decode cX12_init 274 = .ok (.aload_n 0, 1) := by decide +kernel
theorem dX12_init_275 : decode cX12_init 275 = .ok (.bipush 32, 2) := by decide +kernel
theorem dX12_init_277 : decode cX12_init 277 = .ok (.newarray .int, 2) := by decide +kernel
theorem dX12_init_279 : decode cX12_init 279 = .ok (.putfield 112, 3) := by decide +kernel
theorem dX12_init_282 : decode cX12_init 282 = .ok (.aload_n 0, 1) := by decide +kernel
theorem dX12_init_283 : decode cX12_init 283 = .ok (.bipush 32, 2) := by decide +kernel
theorem dX12_init_285 : decode cX12_init 285 = .ok (.newarray .int, 2) := by decide +kernel
theorem dX12_init_287 : decode cX12_init 287 = .ok (.putfield 115, 3) := by decide +kernel
theorem dX12_init_290 : decode cX12_init 290 = .ok (.aload_n 0, 1) := by decide +kernel
theorem dX12_init_291 : decode cX12_init 291 = .ok (.bipush 16, 2) := by decide +kernel
theorem dX12_init_293 : decode cX12_init 293 = .ok (.newarray .int, 2) := by decide +kernel
theorem dX12_init_295 : decode cX12_init 295 = .ok (.putfield 118, 3) := by decide +kernel
theorem dX12_init_298 : decode cX12_init 298 = .ok (.aload_n 0, 1) := by decide +kernel
theorem dX12_init_299 : decode cX12_init 299 = .ok (.bipush 16, 2) := by decide +kernel
theorem dX12_init_301 : decode cX12_init 301 = .ok (.newarray .int, 2) := by decide +kernel
theorem dX12_init_303 : decode cX12_init 303 = .ok (.putfield 121, 3) := by decide +kernel
theorem dX12_init_306 : decode cX12_init 306 = .ok (.aload_n 0, 1) := by decide +kernel
theorem dX12_init_307 : decode cX12_init 307 = .ok (.bipush 16, 2) := by decide +kernel
theorem dX12_init_309 : decode cX12_init 309 = .ok (.newarray .int, 2) := by decide +kernel
theorem dX12_init_311 : decode cX12_init 311 = .ok (.putfield 124, 3) := by decide +kernel
theorem dX12_init_314 : decode cX12_init 314 = .ok (.aload_n 0, 1) := by decide +kernel
theorem dX12_init_315 : decode cX12_init 315 = .ok (.bipush 16, 2) := by decide +kernel
theorem dX12_init_317 : decode cX12_init 317 = .ok (.newarray .int, 2) := by decide +kernel
theorem dX12_init_319 : decode cX12_init 319 = .ok (.putfield 127, 3) := by decide +kernel
theorem dX12_init_322 : decode cX12_init 322 = .ok (.aload_n 0, 1) := by decide +kernel
theorem dX12_init_323 : decode cX12_init 323 = .ok (.bipush 16, 2) := by decide +kernel
theorem dX12_init_325 : decode cX12_init 325 = .ok (.newarray .int, 2) := by decide +kernel
theorem dX12_init_327 : decode cX12_init 327 = .ok (.putfield 130, 3) := by decide +kernel
theorem dX12_init_330 : decode cX12_init 330 = .ok (.aload_n 0, 1) := by decide +kernel
theorem dX12_init_331 : decode cX12_init 331 = .ok (.sipush 2400, 3) := by decide +kernel
theorem dX12_init_334 : decode cX12_init 334 = .ok (.newarray .long, 2) := by decide +kernel
theorem dX12_init_336 : decode cX12_init 336 = .ok (.putfield 133, 3) := by decide +kernel
theorem dX12_init_339 : decode cX12_init 339 = .ok (.aload_n 0, 1) := by decide +kernel
theorem dX12_init_340 : decode cX12_init 340 = .ok (.bipush 30, 2) := by decide +kernel
theorem dX12_init_342 : decode cX12_init 342 = .ok (.newarray .long, 2) := by decide +kernel
theorem dX12_init_344 : decode cX12_init 344 = .ok (.putfield 136, 3) := by decide +kernel
theorem dX12_init_347 : decode cX12_init 347 = .ok (.aload_n 0, 1) := by decide +kernel
theorem dX12_init_348 : decode cX12_init 348 = .ok (.bipush 30, 2) := by decide +kernel
theorem dX12_init_350 : decode cX12_init 350 = .ok (.newarray .long, 2) := by decide +kernel
theorem dX12_init_352 : decode cX12_init 352 = .ok (.putfield 139, 3) := by decide +kernel
theorem dX12_init_355 : decode cX12_init 355 = .ok (.aload_n 0, 1) := by decide +kernel
theorem dX12_init_356 : decode cX12_init 356 = .ok (.bipush 96, 2) := by decide +kernel
theorem dX12_init_358 : decode cX12_init 358 = .ok (.newarray .int, 2) := by decide +kernel
theorem dX12_init_360 : decode cX12_init 360 = .ok (.putfield 142, 3) := by decide +kernel
theorem dX12_init_363 : decode cX12_init 363 = .ok (.aload_n 0, 1) := by decide +kernel
theorem dX12_init_364 : decode cX12_init 364 = .ok (.bipush 96, 2) := by decide +kernel
theorem dX12_init_366 : decode cX12_init 366 = .ok (.newarray .int, 2) := by decide +kernel
theorem dX12_init_368 : decode cX12_init 368 = .ok (.putfield 145, 3) := by decide +kernel
theorem dX12_init_371 : decode cX12_init 371 = .ok (.aload_n 0, 1) := by decide +kernel
theorem dX12_init_372 : decode cX12_init 372 = .ok (.getfield 7, 3) := by decide +kernel
theorem dX12_init_375 : decode cX12_init 375 = .ok (.bipush 6, 2) := by decide +kernel
theorem dX12_init_377 : decode cX12_init 377 = .ok (.bipush 60, 2) := by decide +kernel
theorem dX12_init_379 : decode cX12_init 379 = .ok (.iastore, 1) := by decide +kernel
theorem dX12_init_380 : decode cX12_init 380 = .ok (.aload_n 0, 1) := by decide +kernel
theorem dX12_init_381 : decode cX12_init 381 = .ok (.getfield 7, 3) := by decide +kernel
theorem dX12_init_384 : decode cX12_init 384 = .ok (.bipush 7, 2) := by decide +kernel
theorem dX12_init_386 : decode cX12_init 386 = .ok (.iconst (-1), 1) := by decide +kernel
theorem dX12_init_387 : decode cX12_init 387 = .ok (.iastore, 1) := by decide +kernel
theorem dX12_init_388 : decode cX12_init 388 = .ok (.aload_n 0, 1) := by decide +kernel
theorem dX12_init_389 : decode cX12_init 389 = .ok (.getfield 7, 3) := by decide +kernel
theorem dX12_init_392 : decode cX12_init 392 = .ok (.bipush 8, 2) := by decide +kernel
theorem dX12_init_394 : decode cX12_init 394 = .ok (.iconst (-1), 1) := by decide +kernel
theorem dX12_init_395 : decode cX12_init 395 = .ok (.iastore, 1) := by decide +kernel
theorem dX12_init_396 : decode cX12_init 396 = .ok (.aload_n 0, 1) := by decide +kernel
theorem dX12_init_397 : decode cX12_init 397 = .ok (.iconst 1, 1) := by decide +kernel
theorem dX12_init_398 : decode cX12_init 398 = .ok (.invokevirtual 148, 3) := by decide +kernel
theorem dX12_init_401 : decode cX12_init 401 = .ok (.return_, 1) := by decide +kernel
theorem dX12_in_0 : decode cX12_in 0 = .ok (.iload_n 0, 1) := by decide +kernel
theorem dX12_in_1 : decode cX12_in 1 = .ok (.iload_n 1, 1) := by decide +kernel
theorem dX12_in_2 : decode cX12_in 2 = .ok (.if_icmp .lt 12, 3) := by decide +kernel
theorem dX12_in_5 : decode cX12_in 5 = .ok (.iload_n 0, 1) := by decide +kernel
theorem dX12_in_6 : decode cX12_in 6 = .ok (.iload_n 2, 1) := by decide +kernel
theorem dX12_in_7 : decode cX12_in 7 = .ok (.if_icmp .gt 7, 3) := by decide +kernel
theorem dX12_in_10 : decode cX12_in 10 = .ok (.iconst 1, 1) := by decide +kernel
theorem dX12_in_11 : decode cX12_in 11 = .ok (.goto 4, 3) := by decide +kernel
theorem dX12_in_14 : decode cX12_in 14 = .ok (.iconst 0, 1) := by decide +kernel
theorem dX12_in_15 : decode cX12_in 15 = .ok (.ireturn, 1) := by decide +kernel
theorem dX12_lesser_0 : decode cX12_lesser 0 = .ok (.iload_n 0, 1) := by decide +kernel
theorem dX12_lesser_1 : decode cX12_lesser 1 = .ok (.iload_n 1, 1) := by decide +kernel
theorem dX12_lesser_2 : decode cX12_lesser 2 = .ok (.if_icmp .ge 7, 3) := by decide +kernel
theorem dX12_lesser_5 : decode cX12_lesser 5 = .ok (.iload_n 0, 1) := by decide +kernel
theorem dX12_lesser_6 : decode cX12_lesser 6 = .ok (.goto 4, 3) := by decide +kernel
theorem dX12_lesser_9 : decode cX12_lesser 9 = .ok (.iload_n 1, 1) := by decide +kernel
theorem dX12_lesser_10 : decode cX12_lesser 10 = .ok (.ireturn, 1) := by decide +kernel
theorem dX12_greater_0 : decode cX12_greater 0 = .ok (.iload_n 0, 1) := by decide +kernel
theorem dX12_greater_1 : decode cX12_greater 1 = .ok (.iload_n 1, 1) := by decide +kernel
theorem dX12_greater_2 : decode cX12_greater 2 = .ok (.if_icmp .le 7, 3) := by decide +kernel
theorem dX12_greater_5 : decode cX12_greater 5 = .ok (.iload_n 0, 1) := by decide +kernel
theorem dX12_greater_6 : decode cX12_greater 6 = .ok (.goto 4, 3) := by decide +kernel
theorem dX12_greater_9 : decode cX12_greater 9 = .ok (.iload_n 1, 1) := by decide +kernel
theorem dX12_greater_10 : decode cX12_greater 10 = .ok (.ireturn, 1) := by decide +kernel
theorem dX12_away_0 : decode cX12_away 0 = .ok (.iload_n 0, 1) := by decide +kernel
theorem dX12_away_1 : decode cX12_away 1 = .ok (.ifCond .ge 8, 3) := by decide +kernel
theorem dX12_away_4 : decode cX12_away 4 = .ok (.iload_n 0, 1) := by decide +kernel
theorem dX12_away_5 : decode cX12_away 5 = .ok (.ineg, 1) := by decide +kernel
theorem dX12_away_6 : decode cX12_away 6 = .ok (.goto 4, 3) := by decide +kernel
theorem dX12_away_9 : decode cX12_away 9 = .ok (.iload_n 0, 1) := by decide +kernel
theorem dX12_away_10 : decode cX12_away 10 = .ok (.ireturn, 1) := by decide +kernel
theorem dX12_copies_0 : decode cX12_copies 0 = .ok (.iconst 0, 1) := by decide +kernel
theorem dX12_copies_1 : decode cX12_copies 1 = .ok (.istore_n 2, 1) := by decide +kernel
theorem dX12_copies_2 : decode cX12_copies 2 = .ok (.iload_n 2, 1) := by decide +kernel
theorem dX12_copies_3 : decode cX12_copies 3 = .ok (.sipush 9680, 3) := by decide +kernel
theorem dX12_copies_6 : decode cX12_copies 6 = .ok (.if_icmp .ge 40, 3) := by decide +kernel
theorem dX12_copies_9 : decode cX12_copies 9 = .ok (.iload_n 1, 1) := by decide +kernel
theorem dX12_copies_10 : decode cX12_copies 10 = .ok (.ifCond .eq 18, 3) := by decide +kernel
theorem dX12_copies_13 : decode cX12_copies 13 = .ok (.aload_n 0, 1) := by decide +kernel
theorem dX12_copies_14 : decode cX12_copies 14 = .ok (.getfield 13, 3) := by decide +kernel
theorem dX12_copies_17 : decode cX12_copies 17 = .ok (.iload_n 2, 1) := by decide +kernel
theorem dX12_copies_18 : decode cX12_copies 18 = .ok (.aload_n 0, 1) := by decide +kernel
theorem dX12_copies_19 : decode cX12_copies 19 = .ok (.getfield 7, 3) := by decide +kernel
theorem dX12_copies_22 : decode cX12_copies 22 = .ok (.iload_n 2, 1) := by decide +kernel
theorem dX12_copies_23 : decode cX12_copies 23 = .ok (.iaload, 1) := by decide +kernel
theorem dX12_copies_24 : decode cX12_copies 24 = .ok (.iastore, 1) := by decide +kernel
theorem dX12_copies_25 : decode cX12_copies 25 = .ok (.goto 15, 3) := by decide +kernel
theorem dX12_copies_28 : decode cX12_copies 28 = .ok (.aload_n 0, 1) := by decide +kernel
theorem dX12_copies_29 : decode cX12_copies 29 = .ok (.getfield 7, 3) := by decide +kernel
theorem dX12_copies_32 : decode cX12_copies 32 = .ok (.iload_n 2, 1) := by decide +kernel
theorem dX12_copies_33 : decode cX12_copies 33 = .ok (.aload_n 0, 1) := by decide +kernel
theorem dX12_copies_34 : decode cX12_copies 34 = .ok (.getfield 13, 3) := by decide +kernel
theorem dX12_copies_37 : decode cX12_copies 37 = .ok (.iload_n 2, 1) := by decide +kernel
theorem dX12_copies_38 : decode cX12_copies 38 = .ok (.iaload, 1) := by decide +kernel
theorem dX12_copies_39 : decode cX12_copies 39 = .ok (.iastore, 1) := by decide +kernel
theorem dX12_copies_40 : decode cX12_copies 40 = .ok (.iinc 2 1, 3) := by decide +kernel
theorem dX12_copies_43 : decode cX12_copies 43 = .ok (.goto (-41), 3) := by decide +kernel
theorem dX12_copies_46 : decode cX12_copies 46 = .ok (.return_, 1) := by decide +kernel
theorem dX12_isName_0 : decode cX12_isName 0 = .ok (.iload_n 1, 1) := by decide +kernel
theorem dX12_isName_1 : decode cX12_isName 1 = .ok (.iconst 0, 1) := by decide +kernel
theorem dX12_isName_2 : decode cX12_isName 2 = .ok (.aload_n 0, 1) := by decide +kernel
theorem dX12_isName_3 : decode cX12_isName 3 = .ok (.getfield 7, 3) := by decide +kernel
theorem dX12_isName_6 : decode cX12_isName 6 = .ok (.iconst 1, 1) := by decide +kernel
theorem dX12_isName_7 : decode cX12_isName 7 = .ok (.iaload, 1) := by decide +kernel
theorem dX12_isName_8 : decode cX12_isName 8 = .ok (.iconst 1, 1) := by decide +kernel
theorem dX12_isName_9 : decode cX12_isName 9 = .ok (.isub, 1) := by decide +kernel
theorem dX12_isName_10 : decode cX12_isName 10 = .ok (.invokestatic 152, 3) := by decide +kernel
theorem dX12_isName_13 : decode cX12_isName 13 = .ok (.ireturn, 1) := by decide +kernel
theorem dX12_isTaste_0 : decode cX12_isTaste 0 = .ok (.iload_n 1, 1) := by decide +kernel
theorem dX12_isTaste_1 : decode cX12_isTaste 1 = .ok (.iconst 0, 1) := by decide +kernel
theorem dX12_isTaste_2 : decode cX12_isTaste 2 = .ok (.aload_n 0, 1) := by decide +kernel
theorem dX12_isTaste_3 : decode cX12_isTaste 3 = .ok (.getfield 7, 3) := by decide +kernel
theorem dX12_isTaste_6 : decode cX12_isTaste 6 = .ok (.iconst 4, 1) := by decide +kernel
theorem dX12_isTaste_7 : decode cX12_isTaste 7 = .ok (.iaload, 1) := by decide +kernel
theorem dX12_isTaste_8 : decode cX12_isTaste 8 = .ok (.iconst 1, 1) := by decide +kernel
theorem dX12_isTaste_9 : decode cX12_isTaste 9 = .ok (.isub, 1) := by decide +kernel
theorem dX12_isTaste_10 : decode cX12_isTaste 10 = .ok (.invokestatic 152, 3) := by decide +kernel
theorem dX12_isTaste_13 : decode cX12_isTaste 13 = .ok (.ireturn, 1) := by decide +kernel
theorem dX12_isCradle_0 : decode cX12_isCradle 0 = .ok (.iload_n 0, 1) := by decide +kernel
theorem dX12_isCradle_1 : decode cX12_isCradle 1 = .ok (.iconst 0, 1) := by decide +kernel
theorem dX12_isCradle_2 : decode cX12_isCradle 2 = .ok (.iconst 2, 1) := by decide +kernel
theorem dX12_isCradle_3 : decode cX12_isCradle 3 = .ok (.invokestatic 152, 3) := by decide +kernel
theorem dX12_isCradle_6 : decode cX12_isCradle 6 = .ok (.ifCond .eq 25, 3) := by decide +kernel
theorem dX12_isCradle_9 : decode cX12_isCradle 9 = .ok (.iload_n 1, 1) := by decide +kernel
theorem dX12_isCradle_10 : decode cX12_isCradle 10 = .ok (.iconst 0, 1) := by decide +kernel
theorem dX12_isCradle_11 : decode cX12_isCradle 11 = .ok (.iconst 1, 1) := by decide +kernel
theorem dX12_isCradle_12 : decode cX12_isCradle 12 = .ok (.invokestatic 152, 3) := by decide +kernel
theorem dX12_isCradle_15 : decode cX12_isCradle 15 = .ok (.ifCond .eq 16, 3) := by decide +kernel
theorem dX12_isCradle_18 : decode cX12_isCradle 18 = .ok (.iload_n 2, 1) := by decide +kernel
theorem dX12_isCradle_19 : decode cX12_isCradle 19 = .ok (.iconst 0, 1) := by decide +kernel
theorem dX12_isCradle_20 : decode cX12_isCradle 20 = .ok (.iconst 1, 1) := by decide +kernel
theorem dX12_isCradle_21 : decode cX12_isCradle 21 = .ok (.invokestatic 152, 3) := by decide +kernel
theorem dX12_isCradle_24 : decode cX12_isCradle 24 = .ok (.ifCond .eq 7, 3) := by decide +kernel
theorem dX12_isCradle_27 : decode cX12_isCradle 27 = .ok (.iconst 1, 1) := by decide +kernel
theorem dX12_isCradle_28 : decode cX12_isCradle 28 = .ok (.goto 4, 3) := by decide +kernel
theorem dX12_isCradle_31 : decode cX12_isCradle 31 = .ok (.iconst 0, 1) := by decide +kernel
theorem dX12_isCradle_32 : decode cX12_isCradle 32 = .ok (.ireturn, 1) := by decide +kernel
theorem dX12_cell_0 : decode cX12_cell 0 = .ok (.iload_n 0, 1) := by decide +kernel
theorem dX12_cell_1 : decode cX12_cell 1 = .ok (.iconst 2, 1) := by decide +kernel
theorem dX12_cell_2 : decode cX12_cell 2 = .ok (.imul, 1) := by decide +kernel
theorem dX12_cell_3 : decode cX12_cell 3 = .ok (.iload_n 1, 1) := by decide +kernel
theorem dX12_cell_4 : decode cX12_cell 4 = .ok (.iadd, 1) := by decide +kernel
theorem dX12_cell_5 : decode cX12_cell 5 = .ok (.iconst 2, 1) := by decide +kernel
theorem dX12_cell_6 : decode cX12_cell 6 = .ok (.imul, 1) := by decide +kernel
theorem dX12_cell_7 : decode cX12_cell 7 = .ok (.iload_n 2, 1) := by decide +kernel
theorem dX12_cell_8 : decode cX12_cell 8 = .ok (.iadd, 1) := by decide +kernel
theorem dX12_cell_9 : decode cX12_cell 9 = .ok (.ireturn, 1) := by decide +kernel
theorem dX12_isGone_0 : decode cX12_isGone 0 = .ok (.iload_n 1, 1) := by decide +kernel
theorem dX12_isGone_1 : decode cX12_isGone 1 = .ok (.iconst 0, 1) := by decide +kernel
theorem dX12_isGone_2 : decode cX12_isGone 2 = .ok (.aload_n 0, 1) := by decide +kernel
theorem dX12_isGone_3 : decode cX12_isGone 3 = .ok (.getfield 7, 3) := by decide +kernel
theorem dX12_isGone_6 : decode cX12_isGone 6 = .ok (.iconst 0, 1) := by decide +kernel
theorem dX12_isGone_7 : decode cX12_isGone 7 = .ok (.iaload, 1) := by decide +kernel
theorem dX12_isGone_8 : decode cX12_isGone 8 = .ok (.iconst 1, 1) := by decide +kernel
theorem dX12_isGone_9 : decode cX12_isGone 9 = .ok (.isub, 1) := by decide +kernel
theorem dX12_isGone_10 : decode cX12_isGone 10 = .ok (.invokestatic 152, 3) := by decide +kernel
theorem dX12_isGone_13 : decode cX12_isGone 13 = .ok (.ireturn, 1) := by decide +kernel
theorem dX12_letterAt_0 : decode cX12_letterAt 0 = .ok (.lload_n 0, 1) := by decide +kernel
theorem dX12_letterAt_1 : decode cX12_letterAt 1 = .ok (.iconst 5, 1) := by decide +kernel
theorem dX12_letterAt_2 : decode cX12_letterAt 2 = .ok (.iload_n 2, 1) := by decide +kernel
theorem dX12_letterAt_3 : decode cX12_letterAt 3 = .ok (.imul, 1) := by decide +kernel
theorem dX12_letterAt_4 : decode cX12_letterAt 4 = .ok (.lshr, 1) := by decide +kernel
theorem dX12_letterAt_5 : decode cX12_letterAt 5 = .ok (.ldc2_w 156, 3) := by decide +kernel
theorem dX12_letterAt_8 : decode cX12_letterAt 8 = .ok (.land, 1) := by decide +kernel
theorem dX12_letterAt_9 : decode cX12_letterAt 9 = .ok (.l2i, 1) := by decide +kernel
theorem dX12_letterAt_10 : decode cX12_letterAt 10 = .ok (.ireturn, 1) := by decide +kernel
theorem dX12_size_0 : decode cX12_size 0 = .ok (.iconst 0, 1) := by decide +kernel
theorem dX12_size_1 : decode cX12_size 1 = .ok (.istore_n 2, 1) := by decide +kernel
theorem dX12_size_2 : decode cX12_size 2 = .ok (.iload_n 2, 1) := by decide +kernel
theorem dX12_size_3 : decode cX12_size 3 = .ok (.bipush 12, 2) := by decide +kernel
theorem dX12_size_5 : decode cX12_size 5 = .ok (.if_icmp .ge 17, 3) := by decide +kernel
theorem dX12_size_8 : decode cX12_size 8 = .ok (.lload_n 0, 1) := by decide +kernel
theorem dX12_size_9 : decode cX12_size 9 = .ok (.iload_n 2, 1) := by decide +kernel
theorem dX12_size_10 : decode cX12_size 10 = .ok (.invokestatic 158, 3) := by decide +kernel
theorem dX12_size_13 : decode cX12_size 13 = .ok (.ifCond .le 9, 3) := by decide +kernel
theorem dX12_size_16 : decode cX12_size 16 = .ok (.iinc 2 1, 3) := by decide +kernel
theorem dX12_size_19 : decode cX12_size 19 = .ok (.goto (-17), 3) := by decide +kernel
theorem dX12_size_22 : decode cX12_size 22 = .ok (.iload_n 2, 1) := by decide +kernel
theorem dX12_size_23 : decode cX12_size 23 = .ok (.ireturn, 1) := by decide +kernel
theorem dX12_name_0 : decode cX12_name 0 = .ok (.lload_n 1, 1) := by decide +kernel
theorem dX12_name_1 : decode cX12_name 1 = .ok (.lconst 0, 1) := by decide +kernel
theorem dX12_name_2 : decode cX12_name 2 = .ok (.lcmp, 1) := by decide +kernel
theorem dX12_name_3 : decode cX12_name 3 = .ok (.ifCond .le 10, 3) := by decide +kernel
theorem dX12_name_6 : decode cX12_name 6 = .ok (.lload_n 1, 1) := by decide +kernel
theorem dX12_name_7 : decode cX12_name 7 = .ok (.invokestatic 162, 3) := by decide +kernel
theorem dX12_name_10 : decode cX12_name 10 = .ok (.goto 4, 3) := by decide +kernel
theorem dX12_name_13 : decode cX12_name 13 = .ok (.iconst 0, 1) := by decide +kernel
theorem dX12_name_14 : decode cX12_name 14 = .ok (.istore 4, 2) := by decide +kernel
theorem dX12_name_16 : decode cX12_name 16 = .ok (.iload 4, 2) := by decide +kernel
theorem dX12_name_18 : decode cX12_name 18 = .ok (.iconst 2, 1) := by decide +kernel
theorem dX12_name_19 : decode cX12_name 19 = .ok (.bipush 10, 2) := by decide +kernel
theorem dX12_name_21 : decode cX12_name 21 = .ok (.invokestatic 152, 3) := by decide +kernel
theorem dX12_name_24 : decode cX12_name 24 = .ok (.ifCond .eq 38, 3) := by decide +kernel
theorem dX12_name_27 : decode cX12_name 27 = .ok (.iload_n 3, 1) := by decide +kernel
theorem dX12_name_28 : decode cX12_name 28 = .ok (.iconst 1, 1) := by decide +kernel
theorem dX12_name_29 : decode cX12_name 29 = .ok (.iconst 3, 1) := by decide +kernel
theorem dX12_name_30 : decode cX12_name 30 = .ok (.invokestatic 152, 3) := by decide +kernel
theorem dX12_name_33 : decode cX12_name 33 = .ok (.ifCond .eq 29, 3) := by decide +kernel
theorem dX12_name_36 : decode cX12_name 36 = .ok (.lload_n 1, 1) := by decide +kernel
theorem dX12_name_37 : decode cX12_name 37 = .ok (.iconst 5, 1) := by decide +kernel
theorem dX12_name_38 : decode cX12_name 38 = .ok (.iload 4, 2) := by decide +kernel
theorem dX12_name_40 : decode cX12_name 40 = .ok (.imul, 1) := by decide +kernel
theorem dX12_name_41 : decode cX12_name 41 = .ok (.lshr, 1) := by decide +kernel
theorem dX12_name_42 : decode cX12_name 42 = .ok (.lconst 0, 1) := by decide +kernel
theorem dX12_name_43 : decode cX12_name 43 = .ok (.lcmp, 1) := by decide +kernel
theorem dX12_name_44 : decode cX12_name 44 = .ok (.ifCond .ne 18, 3) := by decide +kernel
theorem dX12_name_47 : decode cX12_name 47 = .ok (.aload_n 0, 1) := by decide +kernel
theorem dX12_name_48 : decode cX12_name 48 = .ok (.getfield 7, 3) := by decide +kernel
theorem dX12_name_51 : decode cX12_name 51 = .ok (.iconst 1, 1) := by decide +kernel
theorem dX12_name_52 : decode cX12_name 52 = .ok (.iaload, 1) := by decide +kernel
theorem dX12_name_53 : decode cX12_name 53 = .ok (.bipush 16, 2) := by decide +kernel
theorem dX12_name_55 : decode cX12_name 55 = .ok (.if_icmp .ge 7, 3) := by decide +kernel
theorem dX12_name_58 : decode cX12_name 58 = .ok (.iconst 1, 1) := by decide +kernel
theorem dX12_name_59 : decode cX12_name 59 = .ok (.goto 4, 3) := by decide +kernel
theorem dX12_name_62 : decode cX12_name 62 = .ok (.iconst 0, 1) := by decide +kernel
theorem dX12_name_63 : decode cX12_name 63 = .ok (.istore 5, 2) := by decide +kernel
theorem dX12_name_65 : decode cX12_name 65 = .ok (.iconst 0, 1) := by decide +kernel
theorem dX12_name_66 : decode cX12_name 66 = .ok (.istore 6, 2) := by decide +kernel
theorem dX12_name_68 : decode cX12_name 68 = .ok (.iload 6, 2) := by decide +kernel
theorem dX12_name_70 : decode cX12_name 70 = .ok (.iload 4, 2) := by decide +kernel
theorem dX12_name_72 : decode cX12_name 72 = .ok (.if_icmp .ge 32, 3) := by decide +kernel
theorem dX12_name_75 : decode cX12_name 75 = .ok (.iload 5, 2) := by decide +kernel
theorem dX12_name_77 : decode cX12_name 77 = .ok (.ifCond .eq 27, 3) := by decide +kernel
theorem dX12_name_80 : decode cX12_name 80 = .ok (.lload_n 1, 1) := by decide +kernel
theorem dX12_name_81 : decode cX12_name 81 = .ok (.iload 6, 2) := by decide +kernel
theorem dX12_name_83 : decode cX12_name 83 = .ok (.invokestatic 158, 3) := by decide +kernel
theorem dX12_name_86 : decode cX12_name 86 = .ok (.bipush 27, 2) := by decide +kernel
theorem dX12_name_88 : decode cX12_name 88 = .ok (.if_icmp .ge 7, 3) := by decide +kernel
theorem dX12_name_91 : decode cX12_name 91 = .ok (.iconst 1, 1) := by decide +kernel
theorem dX12_name_92 : decode cX12_name 92 = .ok (.goto 4, 3) := by decide +kernel
theorem dX12_name_95 : decode cX12_name 95 = .ok (.iconst 0, 1) := by decide +kernel
theorem dX12_name_96 : decode cX12_name 96 = .ok (.istore 5, 2) := by decide +kernel
theorem dX12_name_98 : decode cX12_name 98 = .ok (.iinc 6 1, 3) := by decide +kernel
theorem dX12_name_101 : decode cX12_name 101 = .ok (.goto (-33), 3) := by decide +kernel
theorem dX12_name_104 : decode cX12_name 104 = .ok (.iconst 0, 1) := by decide +kernel
theorem dX12_name_105 : decode cX12_name 105 = .ok (.istore 6, 2) := by decide +kernel
theorem dX12_name_107 : decode cX12_name 107 = .ok (.iload 6, 2) := by decide +kernel
theorem dX12_name_109 : decode cX12_name 109 = .ok (.aload_n 0, 1) := by decide +kernel
theorem dX12_name_110 : decode cX12_name 110 = .ok (.getfield 7, 3) := by decide +kernel
theorem dX12_name_113 : decode cX12_name 113 = .ok (.iconst 1, 1) := by decide +kernel
theorem dX12_name_114 : decode cX12_name 114 = .ok (.iaload, 1) := by decide +kernel
theorem dX12_name_115 : decode cX12_name 115 = .ok (.if_icmp .ge 33, 3) := by decide +kernel
theorem dX12_name_118 : decode cX12_name 118 = .ok (.iload 5, 2) := by decide +kernel
theorem dX12_name_120 : decode cX12_name 120 = .ok (.ifCond .eq 28, 3) := by decide +kernel
theorem dX12_name_123 : decode cX12_name 123 = .ok (.aload_n 0, 1) := by decide +kernel
theorem dX12_name_124 : decode cX12_name 124 = .ok (.getfield 16, 3) := by decide +kernel
theorem dX12_name_127 : decode cX12_name 127 = .ok (.iload 6, 2) := by decide +kernel
theorem dX12_name_129 : decode cX12_name 129 = .ok (.laload, 1) := by decide +kernel
theorem dX12_name_130 : decode cX12_name 130 = .ok (.lload_n 1, 1) := by decide +kernel
theorem dX12_name_131 : decode cX12_name 131 = .ok (.lcmp, 1) := by decide +kernel
theorem dX12_name_132 : decode cX12_name 132 = .ok (.ifCond .eq 7, 3) := by decide +kernel
theorem dX12_name_135 : decode cX12_name 135 = .ok (.iconst 1, 1) := by decide +kernel
theorem dX12_name_136 : decode cX12_name 136 = .ok (.goto 4, 3) := by decide +kernel
theorem dX12_name_139 : decode cX12_name 139 = .ok (.iconst 0, 1) := by decide +kernel
theorem dX12_name_140 : decode cX12_name 140 = .ok (.istore 5, 2) := by decide +kernel
theorem dX12_name_142 : decode cX12_name 142 = .ok (.iinc 6 1, 3) := by decide +kernel
theorem dX12_name_145 : decode cX12_name 145 = .ok (.goto (-38), 3) := by decide +kernel
theorem dX12_name_148 : decode cX12_name 148 = .ok (.iload 5, 2) := by decide +kernel
theorem dX12_name_150 : decode cX12_name 150 = .ok (.ifCond .ne 5, 3) := by decide +kernel
theorem dX12_name_153 : decode cX12_name 153 = .ok (.iconst (-1), 1) := by decide +kernel
theorem dX12_name_154 : decode cX12_name 154 = .ok (.ireturn, 1) := by decide +kernel
theorem dX12_name_155 : decode cX12_name 155 = .ok (.aload_n 0, 1) := by decide +kernel
theorem dX12_name_156 : decode cX12_name 156 = .ok (.getfield 16, 3) := by decide +kernel
theorem dX12_name_159 : decode cX12_name 159 = .ok (.aload_n 0, 1) := by decide +kernel
theorem dX12_name_160 : decode cX12_name 160 = .ok (.getfield 7, 3) := by decide +kernel
theorem dX12_name_163 : decode cX12_name 163 = .ok (.iconst 1, 1) := by decide +kernel
theorem dX12_name_164 : decode cX12_name 164 = .ok (.iaload, 1) := by decide +kernel
theorem dX12_name_165 : decode cX12_name 165 = .ok (.lload_n 1, 1) := by decide +kernel
theorem dX12_name_166 : decode cX12_name 166 = .ok (.lastore, 1) := by decide +kernel
theorem dX12_name_167 : decode cX12_name 167 = .ok (.aload_n 0, 1) := by decide +kernel
theorem dX12_name_168 : decode cX12_name 168 = .ok (.getfield 7, 3) := by decide +kernel
theorem dX12_name_171 : decode cX12_name 171 = .ok (.bipush 30, 2) := by decide +kernel
theorem dX12_name_173 : decode cX12_name 173 = .ok (.aload_n 0, 1) := by decide +kernel
theorem dX12_name_174 : decode cX12_name 174 = .ok (.getfield 7, 3) := by decide +kernel
theorem dX12_name_177 : decode cX12_name 177 = .ok (.iconst 1, 1) := by decide +kernel
theorem dX12_name_178 : decode cX12_name 178 = .ok (.iaload, 1) := by decide +kernel
theorem dX12_name_179 : decode cX12_name 179 = .ok (.iadd, 1) := by decide +kernel
theorem dX12_name_180 : decode cX12_name 180 = .ok (.iload_n 3, 1) := by decide +kernel
theorem dX12_name_181 : decode cX12_name 181 = .ok (.iastore, 1) := by decide +kernel
theorem dX12_name_182 : decode cX12_name 182 = .ok (.aload_n 0, 1) := by decide +kernel
theorem dX12_name_183 : decode cX12_name 183 = .ok (.getfield 7, 3) := by decide +kernel
theorem dX12_name_186 : decode cX12_name 186 = .ok (.sipush 1900, 3) := by decide +kernel
theorem dX12_name_189 : decode cX12_name 189 = .ok (.aload_n 0, 1) := by decide +kernel
theorem dX12_name_190 : decode cX12_name 190 = .ok (.getfield 7, 3) := by decide +kernel
theorem dX12_name_193 : decode cX12_name 193 = .ok (.iconst 1, 1) := by decide +kernel
theorem dX12_name_194 : decode cX12_name 194 = .ok (.iaload, 1) := by decide +kernel
theorem dX12_name_195 : decode cX12_name 195 = .ok (.iadd, 1) := by decide +kernel
theorem dX12_name_196 : decode cX12_name 196 = .ok (.aload_n 0, 1) := by decide +kernel
theorem dX12_name_197 : decode cX12_name 197 = .ok (.getfield 7, 3) := by decide +kernel
theorem dX12_name_200 : decode cX12_name 200 = .ok (.iconst 0, 1) := by decide +kernel
theorem dX12_name_201 : decode cX12_name 201 = .ok (.iaload, 1) := by decide +kernel
theorem dX12_name_202 : decode cX12_name 202 = .ok (.iastore, 1) := by decide +kernel
theorem dX12_name_203 : decode cX12_name 203 = .ok (.aload_n 0, 1) := by decide +kernel
theorem dX12_name_204 : decode cX12_name 204 = .ok (.getfield 7, 3) := by decide +kernel
theorem dX12_name_207 : decode cX12_name 207 = .ok (.iconst 1, 1) := by decide +kernel
theorem dX12_name_208 : decode cX12_name 208 = .ok (.dup2, 1) := by decide +kernel
theorem dX12_name_209 : decode cX12_name 209 = .ok (.iaload, 1) := by decide +kernel
theorem dX12_name_210 : decode cX12_name 210 = .ok (.iconst 1, 1) := by decide +kernel
theorem dX12_name_211 : decode cX12_name 211 = .ok (.iadd, 1) := by decide +kernel
theorem dX12_name_212 : decode cX12_name 212 = .ok (.iastore, 1) := by decide +kernel
theorem dX12_name_213 : decode cX12_name 213 = .ok (.aload_n 0, 1) := by decide +kernel
theorem dX12_name_214 : decode cX12_name 214 = .ok (.getfield 7, 3) := by decide +kernel
theorem dX12_name_217 : decode cX12_name 217 = .ok (.iconst 1, 1) := by decide +kernel
theorem dX12_name_218 : decode cX12_name 218 = .ok (.iaload, 1) := by decide +kernel
theorem dX12_name_219 : decode cX12_name 219 = .ok (.iconst 1, 1) := by decide +kernel
theorem dX12_name_220 : decode cX12_name 220 = .ok (.isub, 1) := by decide +kernel
theorem dX12_name_221 : decode cX12_name 221 = .ok (.ireturn, 1) := by decide +kernel
theorem dX12_isVowel_0 : decode cX12_isVowel 0 = .ok (.iload_n 0, 1) := by decide +kernel
theorem dX12_isVowel_1 : decode cX12_isVowel 1 = .ok (.iconst 1, 1) := by decide +kernel
theorem dX12_isVowel_2 : decode cX12_isVowel 2 = .ok (.if_icmp .eq 32, 3) := by decide +kernel
theorem dX12_isVowel_5 : decode cX12_isVowel 5 = .ok (.iload_n 0, 1) := by decide +kernel
theorem dX12_isVowel_6 : decode cX12_isVowel 6 = .ok (.iconst 5, 1) := by decide +kernel
theorem dX12_isVowel_7 : decode cX12_isVowel 7 = .ok (.if_icmp .eq 27, 3) := by decide +kernel
theorem dX12_isVowel_10 : decode cX12_isVowel 10 = .ok (.iload_n 0, 1) := by decide +kernel
theorem dX12_isVowel_11 : decode cX12_isVowel 11 = .ok (.bipush 9, 2) := by decide +kernel
theorem dX12_isVowel_13 : decode cX12_isVowel 13 = .ok (.if_icmp .eq 21, 3) := by decide +kernel
theorem dX12_isVowel_16 : decode cX12_isVowel 16 = .ok (.iload_n 0, 1) := by decide +kernel
theorem dX12_isVowel_17 : decode cX12_isVowel 17 = .ok (.bipush 15, 2) := by decide +kernel
theorem dX12_isVowel_19 : decode cX12_isVowel 19 = .ok (.if_icmp .eq 15, 3) := by decide +kernel
theorem dX12_isVowel_22 : decode cX12_isVowel 22 = .ok (.iload_n 0, 1) := by decide +kernel
theorem dX12_isVowel_23 : decode cX12_isVowel 23 = .ok (.bipush 21, 2) := by decide +kernel
theorem dX12_isVowel_25 : decode cX12_isVowel 25 = .ok (.if_icmp .eq 9, 3) := by decide +kernel
theorem dX12_isVowel_28 : decode cX12_isVowel 28 = .ok (.iload_n 0, 1) := by decide +kernel
theorem dX12_isVowel_29 : decode cX12_isVowel 29 = .ok (.bipush 25, 2) := by decide +kernel
theorem dX12_isVowel_31 : decode cX12_isVowel 31 = .ok (.if_icmp .ne 7, 3) := by decide +kernel
theorem dX12_isVowel_34 : decode cX12_isVowel 34 = .ok (.iconst 1, 1) := by decide +kernel
theorem dX12_isVowel_35 : decode cX12_isVowel 35 = .ok (.goto 4, 3) := by decide +kernel
theorem dX12_isVowel_38 : decode cX12_isVowel 38 = .ok (.iconst 0, 1) := by decide +kernel
theorem dX12_isVowel_39 : decode cX12_isVowel 39 = .ok (.ireturn, 1) := by decide +kernel
theorem dX12_ending_0 : decode cX12_ending 0 = .ok (.iconst 0, 1) := by decide +kernel
theorem dX12_ending_1 : decode cX12_ending 1 = .ok (.istore_n 2, 1) := by decide +kernel
theorem dX12_ending_2 : decode cX12_ending 2 = .ok (.iconst 0, 1) := by decide +kernel
theorem dX12_ending_3 : decode cX12_ending 3 = .ok (.istore_n 3, 1) := by decide +kernel
theorem dX12_ending_4 : decode cX12_ending 4 = .ok (.iload_n 3, 1) := by decide +kernel
theorem dX12_ending_5 : decode cX12_ending 5 = .ok (.lload_n 0, 1) := by decide +kernel
theorem dX12_ending_6 : decode cX12_ending 6 = .ok (.invokestatic 162, 3) := by decide +kernel
theorem dX12_ending_9 : decode cX12_ending 9 = .ok (.if_icmp .ge 26, 3) := by decide +kernel
theorem dX12_ending_12 : decode cX12_ending 12 = .ok (.lload_n 0, 1) := by decide +kernel
theorem dX12_ending_13 : decode cX12_ending 13 = .ok (.iload_n 3, 1) := by decide +kernel
theorem dX12_ending_14 : decode cX12_ending 14 = .ok (.invokestatic 158, 3) := by decide +kernel
theorem dX12_ending_17 : decode cX12_ending 17 = .ok (.invokestatic 166, 3) := by decide +kernel
theorem dX12_ending_20 : decode cX12_ending 20 = .ok (.ifCond .eq 7, 3) := by decide +kernel
theorem dX12_ending_23 : decode cX12_ending 23 = .ok (.iload_n 3, 1) := by decide +kernel
theorem dX12_ending_24 : decode cX12_ending 24 = .ok (.goto 4, 3) := by decide +kernel
theorem dX12_ending_27 : decode cX12_ending 27 = .ok (.iload_n 2, 1) := by decide +kernel
theorem dX12_ending_28 : decode cX12_ending 28 = .ok (.istore_n 2, 1) := by decide +kernel
theorem dX12_ending_29 : decode cX12_ending 29 = .ok (.iinc 3 1, 3) := by decide +kernel
theorem dX12_ending_32 : decode cX12_ending 32 = .ok (.goto (-28), 3) := by decide +kernel
theorem dX12_ending_35 : decode cX12_ending 35 = .ok (.lload_n 0, 1) := by decide +kernel
theorem dX12_ending_36 : decode cX12_ending 36 = .ok (.iconst 5, 1) := by decide +kernel
theorem dX12_ending_37 : decode cX12_ending 37 = .ok (.iload_n 2, 1) := by decide +kernel
theorem dX12_ending_38 : decode cX12_ending 38 = .ok (.imul, 1) := by decide +kernel
theorem dX12_ending_39 : decode cX12_ending 39 = .ok (.lshr, 1) := by decide +kernel
theorem dX12_ending_40 : decode cX12_ending 40 = .ok (.lreturn, 1) := by decide +kernel
theorem dX12_sounds_0 : decode cX12_sounds 0 = .ok (.iload_n 0, 1) := by decide +kernel
theorem dX12_sounds_1 : decode cX12_sounds 1 = .ok (.tableswitch 130 3 26 #[115, 130, 124, 111, 130, 130, 130, 130, 115, 130, 130, 121, 130, 111, 115, 130, 130, 113, 127, 111, 127, 118, 124, 118], 111) := by decide +kernel
theorem dX12_sounds_112 : decode cX12_sounds 112 = .ok (.iconst 2, 1) := by decide +kernel
theorem dX12_sounds_113 : decode cX12_sounds 113 = .ok (.ireturn, 1) := by decide +kernel
theorem dX12_sounds_114 : decode cX12_sounds 114 = .ok (.iconst 4, 1) := by decide +kernel
theorem dX12_sounds_115 : decode cX12_sounds 115 = .ok (.ireturn, 1) := by decide +kernel
theorem dX12_sounds_116 : decode cX12_sounds 116 = .ok (.bipush 7, 2) := by decide +kernel
theorem dX12_sounds_118 : decode cX12_sounds 118 = .ok (.ireturn, 1) := by decide +kernel
theorem dX12_sounds_119 : decode cX12_sounds 119 = .ok (.bipush 19, 2) := by decide +kernel
theorem dX12_sounds_121 : decode cX12_sounds 121 = .ok (.ireturn, 1) := by decide +kernel
theorem dX12_sounds_122 : decode cX12_sounds 122 = .ok (.bipush 13, 2) := by decide +kernel
theorem dX12_sounds_124 : decode cX12_sounds 124 = .ok (.ireturn, 1) := by decide +kernel
theorem dX12_sounds_125 : decode cX12_sounds 125 = .ok (.bipush 9, 2) := by decide +kernel
theorem dX12_sounds_127 : decode cX12_sounds 127 = .ok (.ireturn, 1) := by decide +kernel
theorem dX12_sounds_128 : decode cX12_sounds 128 = .ok (.bipush 15, 2) := by decide +kernel
theorem dX12_sounds_130 : decode cX12_sounds 130 = .ok (.ireturn, 1) := by decide +kernel
theorem dX12_sounds_131 : decode cX12_sounds 131 = .ok (.iload_n 0, 1) := by decide +kernel
theorem dX12_sounds_132 : decode cX12_sounds 132 = .ok (.ireturn, 1) := by decide +kernel
theorem dX12_soundsOf_0 : decode cX12_soundsOf 0 = .ok (.lconst 0, 1) := by decide +kernel
theorem dX12_soundsOf_1 : decode cX12_soundsOf 1 = .ok (.lstore_n 2, 1) := by decide +kernel
theorem dX12_soundsOf_2 : decode cX12_soundsOf 2 = .ok (.iconst 0, 1) := by decide +kernel
theorem dX12_soundsOf_3 : decode cX12_soundsOf 3 = .ok (.istore 4, 2) := by decide +kernel
theorem dX12_soundsOf_5 : decode cX12_soundsOf 5 = .ok (.iconst 0, 1) := by decide +kernel
theorem dX12_soundsOf_6 : decode cX12_soundsOf 6 = .ok (.istore 5, 2) := by decide +kernel
theorem dX12_soundsOf_8 : decode cX12_soundsOf 8 = .ok (.iconst 0, 1) := by decide +kernel
theorem dX12_soundsOf_9 : decode cX12_soundsOf 9 = .ok (.istore 6, 2) := by decide +kernel
theorem dX12_soundsOf_11 : decode cX12_soundsOf 11 = .ok (.iload 6, 2) := by decide +kernel
theorem dX12_soundsOf_13 : decode cX12_soundsOf 13 = .ok (.lload_n 0, 1) := by decide +kernel
theorem dX12_soundsOf_14 : decode cX12_soundsOf 14 = .ok (.invokestatic 162, 3) := by decide +kernel
theorem dX12_soundsOf_17 : decode cX12_soundsOf 17 = .ok (.if_icmp .ge 45, 3) := by decide +kernel
theorem dX12_soundsOf_20 : decode cX12_soundsOf 20 = .ok (.lload_n 0, 1) := by decide +kernel
theorem dX12_soundsOf_21 : decode cX12_soundsOf 21 = .ok (.iload 6, 2) := by decide +kernel
theorem dX12_soundsOf_23 : decode cX12_soundsOf 23 = .ok (.invokestatic 158, 3) := by decide +kernel
theorem dX12_soundsOf_26 : decode cX12_soundsOf 26 = .ok (.invokestatic 170, 3) := by decide +kernel
theorem dX12_soundsOf_29 : decode cX12_soundsOf 29 = .ok (.istore 7, 2) := by decide +kernel
theorem dX12_soundsOf_31 : decode cX12_soundsOf 31 = .ok (.iload 7, 2) := by decide +kernel
theorem dX12_soundsOf_33 : decode cX12_soundsOf 33 = .ok (.iload 5, 2) := by decide +kernel
theorem dX12_soundsOf_35 : decode cX12_soundsOf 35 = .ok (.if_icmp .eq 17, 3) := by decide +kernel
theorem dX12_soundsOf_38 : decode cX12_soundsOf 38 = .ok (.lload_n 2, 1) := by decide +kernel
theorem dX12_soundsOf_39 : decode cX12_soundsOf 39 = .ok (.iload 7, 2) := by decide +kernel
theorem dX12_soundsOf_41 : decode cX12_soundsOf 41 = .ok (.i2l, 1) := by decide +kernel
theorem dX12_soundsOf_42 : decode cX12_soundsOf 42 = .ok (.iconst 5, 1) := by decide +kernel
theorem dX12_soundsOf_43 : decode cX12_soundsOf 43 = .ok (.iload 4, 2) := by decide +kernel
theorem dX12_soundsOf_45 : decode cX12_soundsOf 45 = .ok (.imul, 1) := by decide +kernel
theorem dX12_soundsOf_46 : decode cX12_soundsOf 46 = .ok (.lshl, 1) := by decide +kernel
theorem dX12_soundsOf_47 : decode cX12_soundsOf 47 = .ok (.lor, 1) := by decide +kernel
theorem dX12_soundsOf_48 : decode cX12_soundsOf 48 = .ok (.lstore_n 2, 1) := by decide +kernel
theorem dX12_soundsOf_49 : decode cX12_soundsOf 49 = .ok (.iinc 4 1, 3) := by decide +kernel
theorem dX12_soundsOf_52 : decode cX12_soundsOf 52 = .ok (.iload 7, 2) := by decide +kernel
theorem dX12_soundsOf_54 : decode cX12_soundsOf 54 = .ok (.istore 5, 2) := by decide +kernel
theorem dX12_soundsOf_56 : decode cX12_soundsOf 56 = .ok (.iinc 6 1, 3) := by decide +kernel
theorem dX12_soundsOf_59 : decode cX12_soundsOf 59 = .ok (.goto (-48), 3) := by decide +kernel
theorem dX12_soundsOf_62 : decode cX12_soundsOf 62 = .ok (.lload_n 2, 1) := by decide +kernel
theorem dX12_soundsOf_63 : decode cX12_soundsOf 63 = .ok (.lreturn, 1) := by decide +kernel
theorem dX12_without_0 : decode cX12_without 0 = .ok (.lload_n 0, 1) := by decide +kernel
theorem dX12_without_1 : decode cX12_without 1 = .ok (.lconst 1, 1) := by decide +kernel
theorem dX12_without_2 : decode cX12_without 2 = .ok (.iconst 5, 1) := by decide +kernel
theorem dX12_without_3 : decode cX12_without 3 = .ok (.iload_n 2, 1) := by decide +kernel
theorem dX12_without_4 : decode cX12_without 4 = .ok (.imul, 1) := by decide +kernel
theorem dX12_without_5 : decode cX12_without 5 = .ok (.lshl, 1) := by decide +kernel
theorem dX12_without_6 : decode cX12_without 6 = .ok (.lconst 1, 1) := by decide +kernel
theorem dX12_without_7 : decode cX12_without 7 = .ok (.lsub, 1) := by decide +kernel
theorem dX12_without_8 : decode cX12_without 8 = .ok (.land, 1) := by decide +kernel
theorem dX12_without_9 : decode cX12_without 9 = .ok (.lload_n 0, 1) := by decide +kernel
theorem dX12_without_10 : decode cX12_without 10 = .ok (.iconst 5, 1) := by decide +kernel
theorem dX12_without_11 : decode cX12_without 11 = .ok (.iload_n 2, 1) := by decide +kernel
theorem dX12_without_12 : decode cX12_without 12 = .ok (.imul, 1) := by decide +kernel
theorem dX12_without_13 : decode cX12_without 13 = .ok (.iconst 5, 1) := by decide +kernel
theorem dX12_without_14 : decode cX12_without 14 = .ok (.iadd, 1) := by decide +kernel
theorem dX12_without_15 : decode cX12_without 15 = .ok (.lshr, 1) := by decide +kernel
theorem dX12_without_16 : decode cX12_without 16 = .ok (.iconst 5, 1) := by decide +kernel
theorem dX12_without_17 : decode cX12_without 17 = .ok (.iload_n 2, 1) := by decide +kernel
theorem dX12_without_18 : decode cX12_without 18 = .ok (.imul, 1) := by decide +kernel
theorem dX12_without_19 : decode cX12_without 19 = .ok (.lshl, 1) := by decide +kernel
theorem dX12_without_20 : decode cX12_without 20 = .ok (.lor, 1) := by decide +kernel
theorem dX12_without_21 : decode cX12_without 21 = .ok (.lreturn, 1) := by decide +kernel
theorem dX12_areAlike_0 : decode cX12_areAlike 0 = .ok (.lload_n 0, 1) := by decide +kernel
theorem dX12_areAlike_1 : decode cX12_areAlike 1 = .ok (.invokestatic 174, 3) := by decide +kernel
theorem dX12_areAlike_4 : decode cX12_areAlike 4 = .ok (.lstore 4, 2) := by decide +kernel
theorem dX12_areAlike_6 : decode cX12_areAlike 6 = .ok (.lload_n 2, 1) := by decide +kernel
theorem dX12_areAlike_7 : decode cX12_areAlike 7 = .ok (.invokestatic 174, 3) := by decide +kernel
theorem dX12_areAlike_10 : decode cX12_areAlike 10 = .ok (.lstore 6, 2) := by decide +kernel
theorem dX12_areAlike_12 : decode cX12_areAlike 12 = .ok (.lload 4, 2) := by decide +kernel
theorem dX12_areAlike_14 : decode cX12_areAlike 14 = .ok (.invokestatic 162, 3) := by decide +kernel
theorem dX12_areAlike_17 : decode cX12_areAlike 17 = .ok (.istore 8, 2) := by decide +kernel
theorem dX12_areAlike_19 : decode cX12_areAlike 19 = .ok (.lload 6, 2) := by decide +kernel
theorem dX12_areAlike_21 : decode cX12_areAlike 21 = .ok (.invokestatic 162, 3) := by decide +kernel
theorem dX12_areAlike_24 : decode cX12_areAlike 24 = .ok (.istore 9, 2) := by decide +kernel
theorem dX12_areAlike_26 : decode cX12_areAlike 26 = .ok (.lload 4, 2) := by decide +kernel
theorem dX12_areAlike_28 : decode cX12_areAlike 28 = .ok (.lload 6, 2) := by decide +kernel
theorem dX12_areAlike_30 : decode cX12_areAlike 30 = .ok (.lcmp, 1) := by decide +kernel
theorem dX12_areAlike_31 : decode cX12_areAlike 31 = .ok (.ifCond .ne 7, 3) := by decide +kernel
theorem dX12_areAlike_34 : decode cX12_areAlike 34 = .ok (.iconst 1, 1) := by decide +kernel
theorem dX12_areAlike_35 : decode cX12_areAlike 35 = .ok (.goto 4, 3) := by decide +kernel
theorem dX12_areAlike_38 : decode cX12_areAlike 38 = .ok (.iconst 0, 1) := by decide +kernel
theorem dX12_areAlike_39 : decode cX12_areAlike 39 = .ok (.istore 10, 2) := by decide +kernel
theorem dX12_areAlike_41 : decode cX12_areAlike 41 = .ok (.iconst 0, 1) := by decide +kernel
theorem dX12_areAlike_42 : decode cX12_areAlike 42 = .ok (.istore 11, 2) := by decide +kernel
theorem dX12_areAlike_44 : decode cX12_areAlike 44 = .ok (.iload 11, 2) := by decide +kernel
theorem dX12_areAlike_46 : decode cX12_areAlike 46 = .ok (.bipush 10, 2) := by decide +kernel
theorem dX12_areAlike_48 : decode cX12_areAlike 48 = .ok (.if_icmp .ge 135, 3) := by decide +kernel
theorem dX12_areAlike_51 : decode cX12_areAlike 51 = .ok (.iload 10, 2) := by decide +kernel
theorem dX12_areAlike_53 : decode cX12_areAlike 53 = .ok (.ifCond .ne 35, 3) := by decide +kernel
theorem dX12_areAlike_56 : decode cX12_areAlike 56 = .ok (.iload 8, 2) := by decide +kernel
theorem dX12_areAlike_58 : decode cX12_areAlike 58 = .ok (.iload 9, 2) := by decide +kernel
theorem dX12_areAlike_60 : decode cX12_areAlike 60 = .ok (.if_icmp .ne 32, 3) := by decide +kernel
theorem dX12_areAlike_63 : decode cX12_areAlike 63 = .ok (.iload 11, 2) := by decide +kernel
theorem dX12_areAlike_65 : decode cX12_areAlike 65 = .ok (.iload 8, 2) := by decide +kernel
theorem dX12_areAlike_67 : decode cX12_areAlike 67 = .ok (.if_icmp .ge 25, 3) := by decide +kernel
theorem dX12_areAlike_70 : decode cX12_areAlike 70 = .ok (.lload 4, 2) := by decide +kernel
theorem dX12_areAlike_72 : decode cX12_areAlike 72 = .ok (.iload 11, 2) := by decide +kernel
theorem dX12_areAlike_74 : decode cX12_areAlike 74 = .ok (.invokestatic 178, 3) := by decide +kernel
theorem dX12_areAlike_77 : decode cX12_areAlike 77 = .ok (.lload 6, 2) := by decide +kernel
theorem dX12_areAlike_79 : decode cX12_areAlike 79 = .ok (.iload 11, 2) := by decide +kernel
theorem dX12_areAlike_81 : decode cX12_areAlike 81 = .ok (.invokestatic 178, 3) := by decide +kernel
theorem dX12_areAlike_84 : decode cX12_areAlike 84 = .ok (.lcmp, 1) := by decide +kernel
theorem dX12_areAlike_85 : decode cX12_areAlike 85 = .ok (.ifCond .ne 7, 3) := by decide +kernel
theorem dX12_areAlike_88 : decode cX12_areAlike 88 = .ok (.iconst 1, 1) := by decide +kernel
theorem dX12_areAlike_89 : decode cX12_areAlike 89 = .ok (.goto 4, 3) := by decide +kernel
theorem dX12_areAlike_92 : decode cX12_areAlike 92 = .ok (.iconst 0, 1) := by decide +kernel
theorem dX12_areAlike_93 : decode cX12_areAlike 93 = .ok (.istore 10, 2) := by decide +kernel
theorem dX12_areAlike_95 : decode cX12_areAlike 95 = .ok (.iload 10, 2) := by decide +kernel
theorem dX12_areAlike_97 : decode cX12_areAlike 97 = .ok (.ifCond .ne 32, 3) := by decide +kernel
theorem dX12_areAlike_100 : decode cX12_areAlike 100 = .ok (.iload 8, 2) := by decide +kernel
theorem dX12_areAlike_102 : decode cX12_areAlike 102 = .ok (.iload 9, 2) := by decide +kernel
theorem dX12_areAlike_104 : decode cX12_areAlike 104 = .ok (.iconst 1, 1) := by decide +kernel
theorem dX12_areAlike_105 : decode cX12_areAlike 105 = .ok (.iadd, 1) := by decide +kernel
theorem dX12_areAlike_106 : decode cX12_areAlike 106 = .ok (.if_icmp .ne 27, 3) := by decide +kernel
theorem dX12_areAlike_109 : decode cX12_areAlike 109 = .ok (.iload 11, 2) := by decide +kernel
theorem dX12_areAlike_111 : decode cX12_areAlike 111 = .ok (.iload 8, 2) := by decide +kernel
theorem dX12_areAlike_113 : decode cX12_areAlike 113 = .ok (.if_icmp .ge 20, 3) := by decide +kernel
theorem dX12_areAlike_116 : decode cX12_areAlike 116 = .ok (.lload 4, 2) := by decide +kernel
theorem dX12_areAlike_118 : decode cX12_areAlike 118 = .ok (.iload 11, 2) := by decide +kernel
theorem dX12_areAlike_120 : decode cX12_areAlike 120 = .ok (.invokestatic 178, 3) := by decide +kernel
theorem dX12_areAlike_123 : decode cX12_areAlike 123 = .ok (.lload 6, 2) := by decide +kernel
theorem dX12_areAlike_125 : decode cX12_areAlike 125 = .ok (.lcmp, 1) := by decide +kernel
theorem dX12_areAlike_126 : decode cX12_areAlike 126 = .ok (.ifCond .ne 7, 3) := by decide +kernel
theorem dX12_areAlike_129 : decode cX12_areAlike 129 = .ok (.iconst 1, 1) := by decide +kernel
theorem dX12_areAlike_130 : decode cX12_areAlike 130 = .ok (.goto 4, 3) := by decide +kernel
theorem dX12_areAlike_133 : decode cX12_areAlike 133 = .ok (.iconst 0, 1) := by decide +kernel
theorem dX12_areAlike_134 : decode cX12_areAlike 134 = .ok (.istore 10, 2) := by decide +kernel
theorem dX12_areAlike_136 : decode cX12_areAlike 136 = .ok (.iload 10, 2) := by decide +kernel
theorem dX12_areAlike_138 : decode cX12_areAlike 138 = .ok (.ifCond .ne 32, 3) := by decide +kernel
theorem dX12_areAlike_141 : decode cX12_areAlike 141 = .ok (.iload 9, 2) := by decide +kernel
theorem dX12_areAlike_143 : decode cX12_areAlike 143 = .ok (.iload 8, 2) := by decide +kernel
theorem dX12_areAlike_145 : decode cX12_areAlike 145 = .ok (.iconst 1, 1) := by decide +kernel
theorem dX12_areAlike_146 : decode cX12_areAlike 146 = .ok (.iadd, 1) := by decide +kernel
theorem dX12_areAlike_147 : decode cX12_areAlike 147 = .ok (.if_icmp .ne 27, 3) := by decide +kernel
theorem dX12_areAlike_150 : decode cX12_areAlike 150 = .ok (.iload 11, 2) := by decide +kernel
theorem dX12_areAlike_152 : decode cX12_areAlike 152 = .ok (.iload 9, 2) := by decide +kernel
theorem dX12_areAlike_154 : decode cX12_areAlike 154 = .ok (.if_icmp .ge 20, 3) := by decide +kernel
theorem dX12_areAlike_157 : decode cX12_areAlike 157 = .ok (.lload 6, 2) := by decide +kernel
theorem dX12_areAlike_159 : decode cX12_areAlike 159 = .ok (.iload 11, 2) := by decide +kernel
theorem dX12_areAlike_161 : decode cX12_areAlike 161 = .ok (.invokestatic 178, 3) := by decide +kernel
theorem dX12_areAlike_164 : decode cX12_areAlike 164 = .ok (.lload 4, 2) := by decide +kernel
theorem dX12_areAlike_166 : decode cX12_areAlike 166 = .ok (.lcmp, 1) := by decide +kernel
theorem dX12_areAlike_167 : decode cX12_areAlike 167 = .ok (.ifCond .ne 7, 3) := by decide +kernel
theorem dX12_areAlike_170 : decode cX12_areAlike 170 = .ok (.iconst 1, 1) := by decide +kernel
theorem dX12_areAlike_171 : decode cX12_areAlike 171 = .ok (.goto 4, 3) := by decide +kernel
theorem dX12_areAlike_174 : decode cX12_areAlike 174 = .ok (.iconst 0, 1) := by decide +kernel
theorem dX12_areAlike_175 : decode cX12_areAlike 175 = .ok (.istore 10, 2) := by decide +kernel
theorem dX12_areAlike_177 : decode cX12_areAlike 177 = .ok (.iinc 11 1, 3) := by decide +kernel
theorem dX12_areAlike_180 : decode cX12_areAlike 180 = .ok (.goto (-136), 3) := by decide +kernel
theorem dX12_areAlike_183 : decode cX12_areAlike 183 = .ok (.iload 10, 2) := by decide +kernel
theorem dX12_areAlike_185 : decode cX12_areAlike 185 = .ok (.ireturn, 1) := by decide +kernel
theorem dX12_of_0 : decode cX12_of 0 = .ok (.aload_n 0, 1) := by decide +kernel
theorem dX12_of_1 : decode cX12_of 1 = .ok (.iload_n 1, 1) := by decide +kernel
theorem dX12_of_2 : decode cX12_of 2 = .ok (.invokevirtual 182, 3) := by decide +kernel
theorem dX12_of_5 : decode cX12_of 5 = .ok (.ifCond .ne 5, 3) := by decide +kernel
theorem dX12_of_8 : decode cX12_of 8 = .ok (.iconst (-1), 1) := by decide +kernel
theorem dX12_of_9 : decode cX12_of 9 = .ok (.ireturn, 1) := by decide +kernel
theorem dX12_of_10 : decode cX12_of 10 = .ok (.iload_n 2, 1) := by decide +kernel
theorem dX12_of_11 : decode cX12_of 11 = .ok (.tableswitch 99 0 4 #[33, 43, 53, 59, 72], 33) := by decide +kernel
theorem dX12_of_44 : decode cX12_of 44 = .ok (.aload_n 0, 1) := by decide +kernel
theorem dX12_of_45 : decode cX12_of 45 = .ok (.getfield 16, 3) := by decide +kernel
theorem dX12_of_48 : decode cX12_of 48 = .ok (.iload_n 1, 1) := by decide +kernel
theorem dX12_of_49 : decode cX12_of 49 = .ok (.laload, 1) := by decide +kernel
theorem dX12_of_50 : decode cX12_of 50 = .ok (.invokestatic 162, 3) := by decide +kernel
theorem dX12_of_53 : decode cX12_of 53 = .ok (.ireturn, 1) := by decide +kernel
theorem dX12_of_54 : decode cX12_of 54 = .ok (.aload_n 0, 1) := by decide +kernel
theorem dX12_of_55 : decode cX12_of 55 = .ok (.getfield 7, 3) := by decide +kernel
theorem dX12_of_58 : decode cX12_of 58 = .ok (.bipush 30, 2) := by decide +kernel
theorem dX12_of_60 : decode cX12_of 60 = .ok (.iload_n 1, 1) := by decide +kernel
theorem dX12_of_61 : decode cX12_of 61 = .ok (.iadd, 1) := by decide +kernel
theorem dX12_of_62 : decode cX12_of 62 = .ok (.iaload, 1) := by decide +kernel
theorem dX12_of_63 : decode cX12_of 63 = .ok (.ireturn, 1) := by decide +kernel
theorem dX12_of_64 : decode cX12_of 64 = .ok (.aload_n 0, 1) := by decide +kernel
theorem dX12_of_65 : decode cX12_of 65 = .ok (.iload_n 1, 1) := by decide +kernel
theorem dX12_of_66 : decode cX12_of 66 = .ok (.invokevirtual 185, 3) := by decide +kernel
theorem dX12_of_69 : decode cX12_of 69 = .ok (.ireturn, 1) := by decide +kernel
theorem dX12_of_70 : decode cX12_of 70 = .ok (.aload_n 0, 1) := by decide +kernel
theorem dX12_of_71 : decode cX12_of 71 = .ok (.getfield 16, 3) := by decide +kernel
theorem dX12_of_74 : decode cX12_of 74 = .ok (.iload_n 1, 1) := by decide +kernel
theorem dX12_of_75 : decode cX12_of 75 = .ok (.laload, 1) := by decide +kernel
theorem dX12_of_76 : decode cX12_of 76 = .ok (.invokestatic 174, 3) := by decide +kernel
theorem dX12_of_79 : decode cX12_of 79 = .ok (.invokestatic 162, 3) := by decide +kernel
theorem dX12_of_82 : decode cX12_of 82 = .ok (.ireturn, 1) := by decide +kernel
theorem dX12_of_83 : decode cX12_of 83 = .ok (.aload_n 0, 1) := by decide +kernel
theorem dX12_of_84 : decode cX12_of 84 = .ok (.aload_n 0, 1) := by decide +kernel
theorem dX12_of_85 : decode cX12_of 85 = .ok (.getfield 7, 3) := by decide +kernel
theorem dX12_of_88 : decode cX12_of 88 = .ok (.iconst 0, 1) := by decide +kernel
theorem dX12_of_89 : decode cX12_of 89 = .ok (.iaload, 1) := by decide +kernel
theorem dX12_of_90 : decode cX12_of 90 = .ok (.iconst (-1), 1) := by decide +kernel
theorem dX12_of_91 : decode cX12_of 91 = .ok (.iconst 0, 1) := by decide +kernel
theorem dX12_of_92 : decode cX12_of 92 = .ok (.iconst (-1), 1) := by decide +kernel
theorem dX12_of_93 : decode cX12_of 93 = .ok (.invokevirtual 188, 3) := by decide +kernel
theorem dX12_of_96 : decode cX12_of 96 = .ok (.aload_n 0, 1) := by decide +kernel
theorem dX12_of_97 : decode cX12_of 97 = .ok (.iload_n 1, 1) := by decide +kernel
theorem dX12_of_98 : decode cX12_of 98 = .ok (.aload_n 0, 1) := by decide +kernel
theorem dX12_of_99 : decode cX12_of 99 = .ok (.getfield 7, 3) := by decide +kernel
theorem dX12_of_102 : decode cX12_of 102 = .ok (.iconst 0, 1) := by decide +kernel
theorem dX12_of_103 : decode cX12_of 103 = .ok (.iaload, 1) := by decide +kernel
theorem dX12_of_104 : decode cX12_of 104 = .ok (.iconst 1, 1) := by decide +kernel
theorem dX12_of_105 : decode cX12_of 105 = .ok (.isub, 1) := by decide +kernel
theorem dX12_of_106 : decode cX12_of 106 = .ok (.invokevirtual 192, 3) := by decide +kernel
theorem dX12_of_109 : decode cX12_of 109 = .ok (.ireturn, 1) := by decide +kernel
theorem dX12_of_110 : decode cX12_of 110 = .ok (.iconst (-1), 1) := by decide +kernel
theorem dX12_of_111 : decode cX12_of 111 = .ok (.ireturn, 1) := by decide +kernel
theorem dX12_lowestOf_0 : decode cX12_lowestOf 0 = .ok (.iconst 0, 1) := by decide +kernel
theorem dX12_lowestOf_1 : decode cX12_lowestOf 1 = .ok (.istore_n 2, 1) := by decide +kernel
theorem dX12_lowestOf_2 : decode cX12_lowestOf 2 = .ok (.aload_n 0, 1) := by decide +kernel
theorem dX12_lowestOf_3 : decode cX12_lowestOf 3 = .ok (.getfield 16, 3) := by decide +kernel
theorem dX12_lowestOf_6 : decode cX12_lowestOf 6 = .ok (.iload_n 2, 1) := by decide +kernel
theorem dX12_lowestOf_7 : decode cX12_lowestOf 7 = .ok (.laload, 1) := by decide +kernel
theorem dX12_lowestOf_8 : decode cX12_lowestOf 8 = .ok (.invokestatic 196, 3) := by decide +kernel
theorem dX12_lowestOf_11 : decode cX12_lowestOf 11 = .ok (.aload_n 0, 1) := by decide +kernel
theorem dX12_lowestOf_12 : decode cX12_lowestOf 12 = .ok (.getfield 16, 3) := by decide +kernel
theorem dX12_lowestOf_15 : decode cX12_lowestOf 15 = .ok (.iload_n 1, 1) := by decide +kernel
theorem dX12_lowestOf_16 : decode cX12_lowestOf 16 = .ok (.laload, 1) := by decide +kernel
theorem dX12_lowestOf_17 : decode cX12_lowestOf 17 = .ok (.invokestatic 196, 3) := by decide +kernel
theorem dX12_lowestOf_20 : decode cX12_lowestOf 20 = .ok (.lcmp, 1) := by decide +kernel
theorem dX12_lowestOf_21 : decode cX12_lowestOf 21 = .ok (.ifCond .eq 9, 3) := by decide +kernel
theorem dX12_lowestOf_24 : decode cX12_lowestOf 24 = .ok (.iinc 2 1, 3) := by decide +kernel
theorem dX12_lowestOf_27 : decode cX12_lowestOf 27 = .ok (.goto (-25), 3) := by decide +kernel
theorem dX12_lowestOf_30 : decode cX12_lowestOf 30 = .ok (.iload_n 2, 1) := by decide +kernel
theorem dX12_lowestOf_31 : decode cX12_lowestOf 31 = .ok (.ireturn, 1) := by decide +kernel
theorem dX12_alike_0 : decode cX12_alike 0 = .ok (.aload_n 0, 1) := by decide +kernel
theorem dX12_alike_1 : decode cX12_alike 1 = .ok (.iload_n 1, 1) := by decide +kernel
theorem dX12_alike_2 : decode cX12_alike 2 = .ok (.invokevirtual 182, 3) := by decide +kernel
theorem dX12_alike_5 : decode cX12_alike 5 = .ok (.ifCond .eq 11, 3) := by decide +kernel
theorem dX12_alike_8 : decode cX12_alike 8 = .ok (.aload_n 0, 1) := by decide +kernel
theorem dX12_alike_9 : decode cX12_alike 9 = .ok (.iload_n 2, 1) := by decide +kernel
theorem dX12_alike_10 : decode cX12_alike 10 = .ok (.invokevirtual 182, 3) := by decide +kernel
theorem dX12_alike_13 : decode cX12_alike 13 = .ok (.ifCond .ne 5, 3) := by decide +kernel
theorem dX12_alike_16 : decode cX12_alike 16 = .ok (.iconst (-1), 1) := by decide +kernel
theorem dX12_alike_17 : decode cX12_alike 17 = .ok (.ireturn, 1) := by decide +kernel
theorem dX12_alike_18 : decode cX12_alike 18 = .ok (.aload_n 0, 1) := by decide +kernel
theorem dX12_alike_19 : decode cX12_alike 19 = .ok (.getfield 16, 3) := by decide +kernel
theorem dX12_alike_22 : decode cX12_alike 22 = .ok (.iload_n 1, 1) := by decide +kernel
theorem dX12_alike_23 : decode cX12_alike 23 = .ok (.laload, 1) := by decide +kernel
theorem dX12_alike_24 : decode cX12_alike 24 = .ok (.aload_n 0, 1) := by decide +kernel
theorem dX12_alike_25 : decode cX12_alike 25 = .ok (.getfield 16, 3) := by decide +kernel
theorem dX12_alike_28 : decode cX12_alike 28 = .ok (.iload_n 2, 1) := by decide +kernel
theorem dX12_alike_29 : decode cX12_alike 29 = .ok (.laload, 1) := by decide +kernel
theorem dX12_alike_30 : decode cX12_alike 30 = .ok (.invokestatic 199, 3) := by decide +kernel
theorem dX12_alike_33 : decode cX12_alike 33 = .ok (.ifCond .eq 7, 3) := by decide +kernel
theorem dX12_alike_36 : decode cX12_alike 36 = .ok (.iconst 1, 1) := by decide +kernel
theorem dX12_alike_37 : decode cX12_alike 37 = .ok (.goto 4, 3) := by decide +kernel
theorem dX12_alike_40 : decode cX12_alike 40 = .ok (.iconst 0, 1) := by decide +kernel
theorem dX12_alike_41 : decode cX12_alike 41 = .ok (.ireturn, 1) := by decide +kernel
theorem dX12_born_0 : decode cX12_born 0 = .ok (.aload_n 0, 1) := by decide +kernel
theorem dX12_born_1 : decode cX12_born 1 = .ok (.iload_n 1, 1) := by decide +kernel
theorem dX12_born_2 : decode cX12_born 2 = .ok (.invokevirtual 182, 3) := by decide +kernel
theorem dX12_born_5 : decode cX12_born 5 = .ok (.ifCond .eq 44, 3) := by decide +kernel
theorem dX12_born_8 : decode cX12_born 8 = .ok (.iload_n 2, 1) := by decide +kernel
theorem dX12_born_9 : decode cX12_born 9 = .ok (.iload_n 3, 1) := by decide +kernel
theorem dX12_born_10 : decode cX12_born 10 = .ok (.iload 4, 2) := by decide +kernel
theorem dX12_born_12 : decode cX12_born 12 = .ok (.invokestatic 203, 3) := by decide +kernel
theorem dX12_born_15 : decode cX12_born 15 = .ok (.ifCond .eq 34, 3) := by decide +kernel
theorem dX12_born_18 : decode cX12_born 18 = .ok (.iload 5, 2) := by decide +kernel
theorem dX12_born_20 : decode cX12_born 20 = .ok (.iconst 1, 1) := by decide +kernel
theorem dX12_born_21 : decode cX12_born 21 = .ok (.bipush 40, 2) := by decide +kernel
theorem dX12_born_23 : decode cX12_born 23 = .ok (.invokestatic 152, 3) := by decide +kernel
theorem dX12_born_26 : decode cX12_born 26 = .ok (.ifCond .eq 23, 3) := by decide +kernel
theorem dX12_born_29 : decode cX12_born 29 = .ok (.iload 6, 2) := by decide +kernel
theorem dX12_born_31 : decode cX12_born 31 = .ok (.iconst 1, 1) := by decide +kernel
theorem dX12_born_32 : decode cX12_born 32 = .ok (.bipush 99, 2) := by decide +kernel
theorem dX12_born_34 : decode cX12_born 34 = .ok (.invokestatic 152, 3) := by decide +kernel
theorem dX12_born_37 : decode cX12_born 37 = .ok (.ifCond .eq 12, 3) := by decide +kernel
theorem dX12_born_40 : decode cX12_born 40 = .ok (.aload_n 0, 1) := by decide +kernel
theorem dX12_born_41 : decode cX12_born 41 = .ok (.getfield 7, 3) := by decide +kernel
theorem dX12_born_44 : decode cX12_born 44 = .ok (.iconst 0, 1) := by decide +kernel
theorem dX12_born_45 : decode cX12_born 45 = .ok (.iaload, 1) := by decide +kernel
theorem dX12_born_46 : decode cX12_born 46 = .ok (.ifCond .le 5, 3) := by decide +kernel
theorem dX12_born_49 : decode cX12_born 49 = .ok (.iconst (-1), 1) := by decide +kernel
theorem dX12_born_50 : decode cX12_born 50 = .ok (.ireturn, 1) := by decide +kernel
theorem dX12_born_51 : decode cX12_born 51 = .ok (.sipush 2000, 3) := by decide +kernel
theorem dX12_born_54 : decode cX12_born 54 = .ok (.iload 5, 2) := by decide +kernel
theorem dX12_born_56 : decode cX12_born 56 = .ok (.iconst 1, 1) := by decide +kernel
theorem dX12_born_57 : decode cX12_born 57 = .ok (.isub, 1) := by decide +kernel
theorem dX12_born_58 : decode cX12_born 58 = .ok (.sipush 192, 3) := by decide +kernel
theorem dX12_born_61 : decode cX12_born 61 = .ok (.imul, 1) := by decide +kernel
theorem dX12_born_62 : decode cX12_born 62 = .ok (.iadd, 1) := by decide +kernel
theorem dX12_born_63 : decode cX12_born 63 = .ok (.iload_n 2, 1) := by decide +kernel
theorem dX12_born_64 : decode cX12_born 64 = .ok (.iload_n 3, 1) := by decide +kernel
theorem dX12_born_65 : decode cX12_born 65 = .ok (.iload 4, 2) := by decide +kernel
theorem dX12_born_67 : decode cX12_born 67 = .ok (.invokestatic 206, 3) := by decide +kernel
theorem dX12_born_70 : decode cX12_born 70 = .ok (.bipush 16, 2) := by decide +kernel
theorem dX12_born_72 : decode cX12_born 72 = .ok (.imul, 1) := by decide +kernel
theorem dX12_born_73 : decode cX12_born 73 = .ok (.iadd, 1) := by decide +kernel
theorem dX12_born_74 : decode cX12_born 74 = .ok (.iload_n 1, 1) := by decide +kernel
theorem dX12_born_75 : decode cX12_born 75 = .ok (.iadd, 1) := by decide +kernel
theorem dX12_born_76 : decode cX12_born 76 = .ok (.istore 7, 2) := by decide +kernel
theorem dX12_born_78 : decode cX12_born 78 = .ok (.aload_n 0, 1) := by decide +kernel
theorem dX12_born_79 : decode cX12_born 79 = .ok (.getfield 7, 3) := by decide +kernel
theorem dX12_born_82 : decode cX12_born 82 = .ok (.iload 7, 2) := by decide +kernel
theorem dX12_born_84 : decode cX12_born 84 = .ok (.iaload, 1) := by decide +kernel
theorem dX12_born_85 : decode cX12_born 85 = .ok (.iload 6, 2) := by decide +kernel
theorem dX12_born_87 : decode cX12_born 87 = .ok (.iadd, 1) := by decide +kernel
theorem dX12_born_88 : decode cX12_born 88 = .ok (.sipush 9999, 3) := by decide +kernel
theorem dX12_born_91 : decode cX12_born 91 = .ok (.if_icmp .le 5, 3) := by decide +kernel
theorem dX12_born_94 : decode cX12_born 94 = .ok (.iconst (-1), 1) := by decide +kernel
theorem dX12_born_95 : decode cX12_born 95 = .ok (.ireturn, 1) := by decide +kernel
theorem dX12_born_96 : decode cX12_born 96 = .ok (.aload_n 0, 1) := by decide +kernel
theorem dX12_born_97 : decode cX12_born 97 = .ok (.getfield 7, 3) := by decide +kernel
theorem dX12_born_100 : decode cX12_born 100 = .ok (.iload 7, 2) := by decide +kernel
theorem dX12_born_102 : decode cX12_born 102 = .ok (.dup2, 1) := by decide +kernel
theorem dX12_born_103 : decode cX12_born 103 = .ok (.iaload, 1) := by decide +kernel
theorem dX12_born_104 : decode cX12_born 104 = .ok (.iload 6, 2) := by decide +kernel
theorem dX12_born_106 : decode cX12_born 106 = .ok (.iadd, 1) := by decide +kernel
theorem dX12_born_107 : decode cX12_born 107 = .ok (.iastore, 1) := by decide +kernel
theorem dX12_born_108 : decode cX12_born 108 = .ok (.aload_n 0, 1) := by decide +kernel
theorem dX12_born_109 : decode cX12_born 109 = .ok (.getfield 7, 3) := by decide +kernel
theorem dX12_born_112 : decode cX12_born 112 = .ok (.iload 7, 2) := by decide +kernel
theorem dX12_born_114 : decode cX12_born 114 = .ok (.iaload, 1) := by decide +kernel
theorem dX12_born_115 : decode cX12_born 115 = .ok (.ireturn, 1) := by decide +kernel
theorem dX12_life_0 : decode cX12_life 0 = .ok (.iload_n 1, 1) := by decide +kernel
theorem dX12_life_1 : decode cX12_life 1 = .ok (.bipush 20, 2) := by decide +kernel
theorem dX12_life_3 : decode cX12_life 3 = .ok (.bipush 90, 2) := by decide +kernel
theorem dX12_life_5 : decode cX12_life 5 = .ok (.invokestatic 152, 3) := by decide +kernel
theorem dX12_life_8 : decode cX12_life 8 = .ok (.ifCond .eq 12, 3) := by decide +kernel
theorem dX12_life_11 : decode cX12_life 11 = .ok (.aload_n 0, 1) := by decide +kernel
theorem dX12_life_12 : decode cX12_life 12 = .ok (.getfield 7, 3) := by decide +kernel
theorem dX12_life_15 : decode cX12_life 15 = .ok (.iconst 0, 1) := by decide +kernel
theorem dX12_life_16 : decode cX12_life 16 = .ok (.iaload, 1) := by decide +kernel
theorem dX12_life_17 : decode cX12_life 17 = .ok (.ifCond .le 5, 3) := by decide +kernel
theorem dX12_life_20 : decode cX12_life 20 = .ok (.iconst 0, 1) := by decide +kernel
theorem dX12_life_21 : decode cX12_life 21 = .ok (.ireturn, 1) := by decide +kernel
theorem dX12_life_22 : decode cX12_life 22 = .ok (.aload_n 0, 1) := by decide +kernel
theorem dX12_life_23 : decode cX12_life 23 = .ok (.getfield 7, 3) := by decide +kernel
theorem dX12_life_26 : decode cX12_life 26 = .ok (.bipush 6, 2) := by decide +kernel
theorem dX12_life_28 : decode cX12_life 28 = .ok (.iload_n 1, 1) := by decide +kernel
theorem dX12_life_29 : decode cX12_life 29 = .ok (.iastore, 1) := by decide +kernel
theorem dX12_life_30 : decode cX12_life 30 = .ok (.iconst 1, 1) := by decide +kernel
