theorem dX12_isRare_56 : decode cX12_isRare 56 = .ok (.iload 4, 2) := by decide +kernel
theorem dX12_isRare_58 : decode cX12_isRare 58 = .ok (.ifCond .lt 51, 3) := by decide +kernel
theorem dX12_isRare_61 : decode cX12_isRare 61 = .ok (.aload_n 0, 1) := by decide +kernel
theorem dX12_isRare_62 : decode cX12_isRare 62 = .ok (.getfield 136, 3) := by decide +kernel
theorem dX12_isRare_65 : decode cX12_isRare 65 = .ok (.iload 4, 2) := by decide +kernel
theorem dX12_isRare_67 : decode cX12_isRare 67 = .ok (.laload, 1) := by decide +kernel
theorem dX12_isRare_68 : decode cX12_isRare 68 = .ok (.aload_n 0, 1) := by decide +kernel
theorem dX12_isRare_69 : decode cX12_isRare 69 = .ok (.getfield 139, 3) := by decide +kernel
theorem dX12_isRare_72 : decode cX12_isRare 72 = .ok (.iload 4, 2) := by decide +kernel
theorem dX12_isRare_74 : decode cX12_isRare 74 = .ok (.laload, 1) := by decide +kernel
theorem dX12_isRare_75 : decode cX12_isRare 75 = .ok (.lcmp, 1) := by decide +kernel
theorem dX12_isRare_76 : decode cX12_isRare 76 = .ok (.ifCond .eq 27, 3) := by decide +kernel
theorem dX12_isRare_79 : decode cX12_isRare 79 = .ok (.aload_n 0, 1) := by decide +kernel
theorem dX12_isRare_80 : decode cX12_isRare 80 = .ok (.getfield 136, 3) := by decide +kernel
theorem dX12_isRare_83 : decode cX12_isRare 83 = .ok (.iload 4, 2) := by decide +kernel
theorem dX12_isRare_85 : decode cX12_isRare 85 = .ok (.laload, 1) := by decide +kernel
theorem dX12_isRare_86 : decode cX12_isRare 86 = .ok (.aload_n 0, 1) := by decide +kernel
theorem dX12_isRare_87 : decode cX12_isRare 87 = .ok (.getfield 139, 3) := by decide +kernel
theorem dX12_isRare_90 : decode cX12_isRare 90 = .ok (.iload 4, 2) := by decide +kernel
theorem dX12_isRare_92 : decode cX12_isRare 92 = .ok (.laload, 1) := by decide +kernel
theorem dX12_isRare_93 : decode cX12_isRare 93 = .ok (.lcmp, 1) := by decide +kernel
theorem dX12_isRare_94 : decode cX12_isRare 94 = .ok (.ifCond .ge 7, 3) := by decide +kernel
theorem dX12_isRare_97 : decode cX12_isRare 97 = .ok (.iconst 1, 1) := by decide +kernel
theorem dX12_isRare_98 : decode cX12_isRare 98 = .ok (.goto 4, 3) := by decide +kernel
theorem dX12_isRare_101 : decode cX12_isRare 101 = .ok (.iconst 0, 1) := by decide +kernel
theorem dX12_isRare_102 : decode cX12_isRare 102 = .ok (.ireturn, 1) := by decide +kernel
theorem dX12_isRare_103 : decode cX12_isRare 103 = .ok (.iinc 4 (-1), 3) := by decide +kernel
theorem dX12_isRare_106 : decode cX12_isRare 106 = .ok (.goto (-50), 3) := by decide +kernel
theorem dX12_isRare_109 : decode cX12_isRare 109 = .ok (.iconst 1, 1) := by decide +kernel
theorem dX12_isRare_110 : decode cX12_isRare 110 = .ok (.ireturn, 1) := by decide +kernel
theorem dX12_chanceOf_0 : decode cX12_chanceOf 0 = .ok (.aload_n 0, 1) := by decide +kernel
theorem dX12_chanceOf_1 : decode cX12_chanceOf 1 = .ok (.iload_n 2, 1) := by decide +kernel
theorem dX12_chanceOf_2 : decode cX12_chanceOf 2 = .ok (.invokevirtual 513, 3) := by decide +kernel
theorem dX12_chanceOf_5 : decode cX12_chanceOf 5 = .ok (.istore 4, 2) := by decide +kernel
theorem dX12_chanceOf_7 : decode cX12_chanceOf 7 = .ok (.aload_n 0, 1) := by decide +kernel
theorem dX12_chanceOf_8 : decode cX12_chanceOf 8 = .ok (.iload_n 2, 1) := by decide +kernel
theorem dX12_chanceOf_9 : decode cX12_chanceOf 9 = .ok (.iconst 1, 1) := by decide +kernel
theorem dX12_chanceOf_10 : decode cX12_chanceOf 10 = .ok (.isub, 1) := by decide +kernel
theorem dX12_chanceOf_11 : decode cX12_chanceOf 11 = .ok (.invokevirtual 513, 3) := by decide +kernel
theorem dX12_chanceOf_14 : decode cX12_chanceOf 14 = .ok (.istore 5, 2) := by decide +kernel
theorem dX12_chanceOf_16 : decode cX12_chanceOf 16 = .ok (.aload_n 0, 1) := by decide +kernel
theorem dX12_chanceOf_17 : decode cX12_chanceOf 17 = .ok (.iload_n 2, 1) := by decide +kernel
theorem dX12_chanceOf_18 : decode cX12_chanceOf 18 = .ok (.iconst 1, 1) := by decide +kernel
theorem dX12_chanceOf_19 : decode cX12_chanceOf 19 = .ok (.isub, 1) := by decide +kernel
theorem dX12_chanceOf_20 : decode cX12_chanceOf 20 = .ok (.iload_n 1, 1) := by decide +kernel
theorem dX12_chanceOf_21 : decode cX12_chanceOf 21 = .ok (.invokevirtual 407, 3) := by decide +kernel
theorem dX12_chanceOf_24 : decode cX12_chanceOf 24 = .ok (.istore 6, 2) := by decide +kernel
theorem dX12_chanceOf_26 : decode cX12_chanceOf 26 = .ok (.aload_n 0, 1) := by decide +kernel
theorem dX12_chanceOf_27 : decode cX12_chanceOf 27 = .ok (.iload_n 2, 1) := by decide +kernel
theorem dX12_chanceOf_28 : decode cX12_chanceOf 28 = .ok (.iload_n 1, 1) := by decide +kernel
theorem dX12_chanceOf_29 : decode cX12_chanceOf 29 = .ok (.invokevirtual 407, 3) := by decide +kernel
theorem dX12_chanceOf_32 : decode cX12_chanceOf 32 = .ok (.istore 7, 2) := by decide +kernel
theorem dX12_chanceOf_34 : decode cX12_chanceOf 34 = .ok (.iconst 0, 1) := by decide +kernel
theorem dX12_chanceOf_35 : decode cX12_chanceOf 35 = .ok (.istore 8, 2) := by decide +kernel
theorem dX12_chanceOf_37 : decode cX12_chanceOf 37 = .ok (.iload 8, 2) := by decide +kernel
theorem dX12_chanceOf_39 : decode cX12_chanceOf 39 = .ok (.sipush 2400, 3) := by decide +kernel
theorem dX12_chanceOf_42 : decode cX12_chanceOf 42 = .ok (.if_icmp .ge 17, 3) := by decide +kernel
theorem dX12_chanceOf_45 : decode cX12_chanceOf 45 = .ok (.aload_n 0, 1) := by decide +kernel
theorem dX12_chanceOf_46 : decode cX12_chanceOf 46 = .ok (.getfield 133, 3) := by decide +kernel
theorem dX12_chanceOf_49 : decode cX12_chanceOf 49 = .ok (.iload 8, 2) := by decide +kernel
theorem dX12_chanceOf_51 : decode cX12_chanceOf 51 = .ok (.lconst 0, 1) := by decide +kernel
theorem dX12_chanceOf_52 : decode cX12_chanceOf 52 = .ok (.lastore, 1) := by decide +kernel
theorem dX12_chanceOf_53 : decode cX12_chanceOf 53 = .ok (.iinc 8 1, 3) := by decide +kernel
theorem dX12_chanceOf_56 : decode cX12_chanceOf 56 = .ok (.goto (-19), 3) := by decide +kernel
theorem dX12_chanceOf_59 : decode cX12_chanceOf 59 = .ok (.aload_n 0, 1) := by decide +kernel
theorem dX12_chanceOf_60 : decode cX12_chanceOf 60 = .ok (.getfield 133, 3) := by decide +kernel
theorem dX12_chanceOf_63 : decode cX12_chanceOf 63 = .ok (.iconst 0, 1) := by decide +kernel
theorem dX12_chanceOf_64 : decode cX12_chanceOf 64 = .ok (.lconst 1, 1) := by decide +kernel
theorem dX12_chanceOf_65 : decode cX12_chanceOf 65 = .ok (.lastore, 1) := by decide +kernel
theorem dX12_chanceOf_66 : decode cX12_chanceOf 66 = .ok (.iconst 1, 1) := by decide +kernel
theorem dX12_chanceOf_67 : decode cX12_chanceOf 67 = .ok (.istore 8, 2) := by decide +kernel
theorem dX12_chanceOf_69 : decode cX12_chanceOf 69 = .ok (.iload 8, 2) := by decide +kernel
theorem dX12_chanceOf_71 : decode cX12_chanceOf 71 = .ok (.iload 4, 2) := by decide +kernel
theorem dX12_chanceOf_73 : decode cX12_chanceOf 73 = .ok (.if_icmp .gt 22, 3) := by decide +kernel
theorem dX12_chanceOf_76 : decode cX12_chanceOf 76 = .ok (.aload_n 0, 1) := by decide +kernel
theorem dX12_chanceOf_77 : decode cX12_chanceOf 77 = .ok (.iload 8, 2) := by decide +kernel
theorem dX12_chanceOf_79 : decode cX12_chanceOf 79 = .ok (.iload 6, 2) := by decide +kernel
theorem dX12_chanceOf_81 : decode cX12_chanceOf 81 = .ok (.iload 5, 2) := by decide +kernel
theorem dX12_chanceOf_83 : decode cX12_chanceOf 83 = .ok (.iload 6, 2) := by decide +kernel
theorem dX12_chanceOf_85 : decode cX12_chanceOf 85 = .ok (.isub, 1) := by decide +kernel
theorem dX12_chanceOf_86 : decode cX12_chanceOf 86 = .ok (.invokevirtual 516, 3) := by decide +kernel
theorem dX12_chanceOf_89 : decode cX12_chanceOf 89 = .ok (.iinc 8 1, 3) := by decide +kernel
theorem dX12_chanceOf_92 : decode cX12_chanceOf 92 = .ok (.goto (-23), 3) := by decide +kernel
theorem dX12_chanceOf_95 : decode cX12_chanceOf 95 = .ok (.aload_n 0, 1) := by decide +kernel
theorem dX12_chanceOf_96 : decode cX12_chanceOf 96 = .ok (.iconst 0, 1) := by decide +kernel
theorem dX12_chanceOf_97 : decode cX12_chanceOf 97 = .ok (.iload 4, 2) := by decide +kernel
theorem dX12_chanceOf_99 : decode cX12_chanceOf 99 = .ok (.invokevirtual 519, 3) := by decide +kernel
theorem dX12_chanceOf_102 : decode cX12_chanceOf 102 = .ok (.iconst 0, 1) := by decide +kernel
theorem dX12_chanceOf_103 : decode cX12_chanceOf 103 = .ok (.istore 8, 2) := by decide +kernel
theorem dX12_chanceOf_105 : decode cX12_chanceOf 105 = .ok (.iload 8, 2) := by decide +kernel
theorem dX12_chanceOf_107 : decode cX12_chanceOf 107 = .ok (.bipush 30, 2) := by decide +kernel
theorem dX12_chanceOf_109 : decode cX12_chanceOf 109 = .ok (.if_icmp .ge 23, 3) := by decide +kernel
theorem dX12_chanceOf_112 : decode cX12_chanceOf 112 = .ok (.aload_n 0, 1) := by decide +kernel
theorem dX12_chanceOf_113 : decode cX12_chanceOf 113 = .ok (.getfield 139, 3) := by decide +kernel
theorem dX12_chanceOf_116 : decode cX12_chanceOf 116 = .ok (.iload 8, 2) := by decide +kernel
theorem dX12_chanceOf_118 : decode cX12_chanceOf 118 = .ok (.aload_n 0, 1) := by decide +kernel
theorem dX12_chanceOf_119 : decode cX12_chanceOf 119 = .ok (.getfield 136, 3) := by decide +kernel
theorem dX12_chanceOf_122 : decode cX12_chanceOf 122 = .ok (.iload 8, 2) := by decide +kernel
theorem dX12_chanceOf_124 : decode cX12_chanceOf 124 = .ok (.laload, 1) := by decide +kernel
theorem dX12_chanceOf_125 : decode cX12_chanceOf 125 = .ok (.lastore, 1) := by decide +kernel
theorem dX12_chanceOf_126 : decode cX12_chanceOf 126 = .ok (.iinc 8 1, 3) := by decide +kernel
theorem dX12_chanceOf_129 : decode cX12_chanceOf 129 = .ok (.goto (-24), 3) := by decide +kernel
theorem dX12_chanceOf_132 : decode cX12_chanceOf 132 = .ok (.aload_n 0, 1) := by decide +kernel
theorem dX12_chanceOf_133 : decode cX12_chanceOf 133 = .ok (.iload 7, 2) := by decide +kernel
theorem dX12_chanceOf_135 : decode cX12_chanceOf 135 = .ok (.iload 4, 2) := by decide +kernel
theorem dX12_chanceOf_137 : decode cX12_chanceOf 137 = .ok (.invokevirtual 519, 3) := by decide +kernel
theorem dX12_chanceOf_140 : decode cX12_chanceOf 140 = .ok (.aload_n 0, 1) := by decide +kernel
theorem dX12_chanceOf_141 : decode cX12_chanceOf 141 = .ok (.iload_n 3, 1) := by decide +kernel
theorem dX12_chanceOf_142 : decode cX12_chanceOf 142 = .ok (.invokevirtual 522, 3) := by decide +kernel
theorem dX12_chanceOf_145 : decode cX12_chanceOf 145 = .ok (.ifCond .eq 5, 3) := by decide +kernel
theorem dX12_chanceOf_148 : decode cX12_chanceOf 148 = .ok (.iconst 1, 1) := by decide +kernel
theorem dX12_chanceOf_149 : decode cX12_chanceOf 149 = .ok (.ireturn, 1) := by decide +kernel
theorem dX12_chanceOf_150 : decode cX12_chanceOf 150 = .ok (.aload_n 0, 1) := by decide +kernel
theorem dX12_chanceOf_151 : decode cX12_chanceOf 151 = .ok (.iconst 0, 1) := by decide +kernel
theorem dX12_chanceOf_152 : decode cX12_chanceOf 152 = .ok (.iload 7, 2) := by decide +kernel
theorem dX12_chanceOf_154 : decode cX12_chanceOf 154 = .ok (.invokevirtual 519, 3) := by decide +kernel
theorem dX12_chanceOf_157 : decode cX12_chanceOf 157 = .ok (.aload_n 0, 1) := by decide +kernel
theorem dX12_chanceOf_158 : decode cX12_chanceOf 158 = .ok (.iload_n 3, 1) := by decide +kernel
theorem dX12_chanceOf_159 : decode cX12_chanceOf 159 = .ok (.invokevirtual 522, 3) := by decide +kernel
theorem dX12_chanceOf_162 : decode cX12_chanceOf 162 = .ok (.ifCond .eq 7, 3) := by decide +kernel
theorem dX12_chanceOf_165 : decode cX12_chanceOf 165 = .ok (.iconst 2, 1) := by decide +kernel
theorem dX12_chanceOf_166 : decode cX12_chanceOf 166 = .ok (.goto 4, 3) := by decide +kernel
theorem dX12_chanceOf_169 : decode cX12_chanceOf 169 = .ok (.iconst 0, 1) := by decide +kernel
theorem dX12_chanceOf_170 : decode cX12_chanceOf 170 = .ok (.ireturn, 1) := by decide +kernel
theorem dX12_chance_0 : decode cX12_chance 0 = .ok (.iload_n 1, 1) := by decide +kernel
theorem dX12_chance_1 : decode cX12_chance 1 = .ok (.iconst (-1), 1) := by decide +kernel
theorem dX12_chance_2 : decode cX12_chance 2 = .ok (.if_icmp .eq 11, 3) := by decide +kernel
theorem dX12_chance_5 : decode cX12_chance 5 = .ok (.aload_n 0, 1) := by decide +kernel
theorem dX12_chance_6 : decode cX12_chance 6 = .ok (.iload_n 1, 1) := by decide +kernel
theorem dX12_chance_7 : decode cX12_chance 7 = .ok (.invokevirtual 182, 3) := by decide +kernel
theorem dX12_chance_10 : decode cX12_chance 10 = .ok (.ifCond .eq 30, 3) := by decide +kernel
theorem dX12_chance_13 : decode cX12_chance 13 = .ok (.iload_n 2, 1) := by decide +kernel
theorem dX12_chance_14 : decode cX12_chance 14 = .ok (.iconst 1, 1) := by decide +kernel
theorem dX12_chance_15 : decode cX12_chance 15 = .ok (.aload_n 0, 1) := by decide +kernel
theorem dX12_chance_16 : decode cX12_chance 16 = .ok (.getfield 7, 3) := by decide +kernel
theorem dX12_chance_19 : decode cX12_chance 19 = .ok (.iconst 0, 1) := by decide +kernel
theorem dX12_chance_20 : decode cX12_chance 20 = .ok (.iaload, 1) := by decide +kernel
theorem dX12_chance_21 : decode cX12_chance 21 = .ok (.iconst 1, 1) := by decide +kernel
theorem dX12_chance_22 : decode cX12_chance 22 = .ok (.isub, 1) := by decide +kernel
theorem dX12_chance_23 : decode cX12_chance 23 = .ok (.invokestatic 152, 3) := by decide +kernel
theorem dX12_chance_26 : decode cX12_chance 26 = .ok (.ifCond .eq 14, 3) := by decide +kernel
theorem dX12_chance_29 : decode cX12_chance 29 = .ok (.iload_n 3, 1) := by decide +kernel
theorem dX12_chance_30 : decode cX12_chance 30 = .ok (.iconst 2, 1) := by decide +kernel
theorem dX12_chance_31 : decode cX12_chance 31 = .ok (.ldc_w 525, 3) := by decide +kernel
theorem dX12_chance_34 : decode cX12_chance 34 = .ok (.invokestatic 152, 3) := by decide +kernel
theorem dX12_chance_37 : decode cX12_chance 37 = .ok (.ifCond .ne 5, 3) := by decide +kernel
theorem dX12_chance_40 : decode cX12_chance 40 = .ok (.iconst (-1), 1) := by decide +kernel
theorem dX12_chance_41 : decode cX12_chance 41 = .ok (.ireturn, 1) := by decide +kernel
theorem dX12_chance_42 : decode cX12_chance 42 = .ok (.aload_n 0, 1) := by decide +kernel
theorem dX12_chance_43 : decode cX12_chance 43 = .ok (.invokevirtual 464, 3) := by decide +kernel
theorem dX12_chance_46 : decode cX12_chance 46 = .ok (.aload_n 0, 1) := by decide +kernel
theorem dX12_chance_47 : decode cX12_chance 47 = .ok (.iload_n 2, 1) := by decide +kernel
theorem dX12_chance_48 : decode cX12_chance 48 = .ok (.invokevirtual 513, 3) := by decide +kernel
theorem dX12_chance_51 : decode cX12_chance 51 = .ok (.ifCond .eq 13, 3) := by decide +kernel
theorem dX12_chance_54 : decode cX12_chance 54 = .ok (.aload_n 0, 1) := by decide +kernel
theorem dX12_chance_55 : decode cX12_chance 55 = .ok (.iload_n 2, 1) := by decide +kernel
theorem dX12_chance_56 : decode cX12_chance 56 = .ok (.iconst 1, 1) := by decide +kernel
theorem dX12_chance_57 : decode cX12_chance 57 = .ok (.isub, 1) := by decide +kernel
theorem dX12_chance_58 : decode cX12_chance 58 = .ok (.invokevirtual 513, 3) := by decide +kernel
theorem dX12_chance_61 : decode cX12_chance 61 = .ok (.ifCond .ne 5, 3) := by decide +kernel
theorem dX12_chance_64 : decode cX12_chance 64 = .ok (.iconst (-1), 1) := by decide +kernel
theorem dX12_chance_65 : decode cX12_chance 65 = .ok (.ireturn, 1) := by decide +kernel
theorem dX12_chance_66 : decode cX12_chance 66 = .ok (.iload_n 1, 1) := by decide +kernel
theorem dX12_chance_67 : decode cX12_chance 67 = .ok (.iconst (-1), 1) := by decide +kernel
theorem dX12_chance_68 : decode cX12_chance 68 = .ok (.if_icmp .eq 11, 3) := by decide +kernel
theorem dX12_chance_71 : decode cX12_chance 71 = .ok (.aload_n 0, 1) := by decide +kernel
theorem dX12_chance_72 : decode cX12_chance 72 = .ok (.iload_n 1, 1) := by decide +kernel
theorem dX12_chance_73 : decode cX12_chance 73 = .ok (.iload_n 2, 1) := by decide +kernel
theorem dX12_chance_74 : decode cX12_chance 74 = .ok (.iload_n 3, 1) := by decide +kernel
theorem dX12_chance_75 : decode cX12_chance 75 = .ok (.invokevirtual 526, 3) := by decide +kernel
theorem dX12_chance_78 : decode cX12_chance 78 = .ok (.ireturn, 1) := by decide +kernel
theorem dX12_chance_79 : decode cX12_chance 79 = .ok (.iconst 0, 1) := by decide +kernel
theorem dX12_chance_80 : decode cX12_chance 80 = .ok (.istore 4, 2) := by decide +kernel
theorem dX12_chance_82 : decode cX12_chance 82 = .ok (.iconst 0, 1) := by decide +kernel
theorem dX12_chance_83 : decode cX12_chance 83 = .ok (.istore 5, 2) := by decide +kernel
theorem dX12_chance_85 : decode cX12_chance 85 = .ok (.iload 5, 2) := by decide +kernel
theorem dX12_chance_87 : decode cX12_chance 87 = .ok (.aload_n 0, 1) := by decide +kernel
theorem dX12_chance_88 : decode cX12_chance 88 = .ok (.getfield 7, 3) := by decide +kernel
theorem dX12_chance_91 : decode cX12_chance 91 = .ok (.iconst 1, 1) := by decide +kernel
theorem dX12_chance_92 : decode cX12_chance 92 = .ok (.iaload, 1) := by decide +kernel
theorem dX12_chance_93 : decode cX12_chance 93 = .ok (.if_icmp .ge 30, 3) := by decide +kernel
theorem dX12_chance_96 : decode cX12_chance 96 = .ok (.iload 4, 2) := by decide +kernel
theorem dX12_chance_98 : decode cX12_chance 98 = .ok (.aload_n 0, 1) := by decide +kernel
theorem dX12_chance_99 : decode cX12_chance 99 = .ok (.iload 5, 2) := by decide +kernel
theorem dX12_chance_101 : decode cX12_chance 101 = .ok (.iload_n 2, 1) := by decide +kernel
theorem dX12_chance_102 : decode cX12_chance 102 = .ok (.iload_n 3, 1) := by decide +kernel
theorem dX12_chance_103 : decode cX12_chance 103 = .ok (.invokevirtual 526, 3) := by decide +kernel
theorem dX12_chance_106 : decode cX12_chance 106 = .ok (.ifCond .le 7, 3) := by decide +kernel
theorem dX12_chance_109 : decode cX12_chance 109 = .ok (.iconst 1, 1) := by decide +kernel
theorem dX12_chance_110 : decode cX12_chance 110 = .ok (.goto 4, 3) := by decide +kernel
theorem dX12_chance_113 : decode cX12_chance 113 = .ok (.iconst 0, 1) := by decide +kernel
theorem dX12_chance_114 : decode cX12_chance 114 = .ok (.iadd, 1) := by decide +kernel
theorem dX12_chance_115 : decode cX12_chance 115 = .ok (.istore 4, 2) := by decide +kernel
theorem dX12_chance_117 : decode cX12_chance 117 = .ok (.iinc 5 1, 3) := by decide +kernel
theorem dX12_chance_120 : decode cX12_chance 120 = .ok (.goto (-35), 3) := by decide +kernel
theorem dX12_chance_123 : decode cX12_chance 123 = .ok (.iload 4, 2) := by decide +kernel
theorem dX12_chance_125 : decode cX12_chance 125 = .ok (.ireturn, 1) := by decide +kernel
theorem dX12_aheadOf_0 : decode cX12_aheadOf 0 = .ok (.iconst 0, 1) := by decide +kernel
theorem dX12_aheadOf_1 : decode cX12_aheadOf 1 = .ok (.istore_n 3, 1) := by decide +kernel
theorem dX12_aheadOf_2 : decode cX12_aheadOf 2 = .ok (.iconst 0, 1) := by decide +kernel
theorem dX12_aheadOf_3 : decode cX12_aheadOf 3 = .ok (.istore 4, 2) := by decide +kernel
theorem dX12_aheadOf_5 : decode cX12_aheadOf 5 = .ok (.iload 4, 2) := by decide +kernel
theorem dX12_aheadOf_7 : decode cX12_aheadOf 7 = .ok (.aload_n 0, 1) := by decide +kernel
theorem dX12_aheadOf_8 : decode cX12_aheadOf 8 = .ok (.getfield 7, 3) := by decide +kernel
theorem dX12_aheadOf_11 : decode cX12_aheadOf 11 = .ok (.iconst 1, 1) := by decide +kernel
theorem dX12_aheadOf_12 : decode cX12_aheadOf 12 = .ok (.iaload, 1) := by decide +kernel
theorem dX12_aheadOf_13 : decode cX12_aheadOf 13 = .ok (.if_icmp .ge 55, 3) := by decide +kernel
theorem dX12_aheadOf_16 : decode cX12_aheadOf 16 = .ok (.iload_n 3, 1) := by decide +kernel
theorem dX12_aheadOf_17 : decode cX12_aheadOf 17 = .ok (.aload_n 0, 1) := by decide +kernel
theorem dX12_aheadOf_18 : decode cX12_aheadOf 18 = .ok (.iload_n 1, 1) := by decide +kernel
theorem dX12_aheadOf_19 : decode cX12_aheadOf 19 = .ok (.iload 4, 2) := by decide +kernel
theorem dX12_aheadOf_21 : decode cX12_aheadOf 21 = .ok (.invokevirtual 407, 3) := by decide +kernel
theorem dX12_aheadOf_24 : decode cX12_aheadOf 24 = .ok (.aload_n 0, 1) := by decide +kernel
theorem dX12_aheadOf_25 : decode cX12_aheadOf 25 = .ok (.iload_n 1, 1) := by decide +kernel
theorem dX12_aheadOf_26 : decode cX12_aheadOf 26 = .ok (.iload_n 2, 1) := by decide +kernel
theorem dX12_aheadOf_27 : decode cX12_aheadOf 27 = .ok (.invokevirtual 407, 3) := by decide +kernel
theorem dX12_aheadOf_30 : decode cX12_aheadOf 30 = .ok (.if_icmp .gt 25, 3) := by decide +kernel
theorem dX12_aheadOf_33 : decode cX12_aheadOf 33 = .ok (.aload_n 0, 1) := by decide +kernel
theorem dX12_aheadOf_34 : decode cX12_aheadOf 34 = .ok (.iload_n 1, 1) := by decide +kernel
theorem dX12_aheadOf_35 : decode cX12_aheadOf 35 = .ok (.iload 4, 2) := by decide +kernel
theorem dX12_aheadOf_37 : decode cX12_aheadOf 37 = .ok (.invokevirtual 407, 3) := by decide +kernel
theorem dX12_aheadOf_40 : decode cX12_aheadOf 40 = .ok (.aload_n 0, 1) := by decide +kernel
theorem dX12_aheadOf_41 : decode cX12_aheadOf 41 = .ok (.iload_n 1, 1) := by decide +kernel
theorem dX12_aheadOf_42 : decode cX12_aheadOf 42 = .ok (.iload_n 2, 1) := by decide +kernel
theorem dX12_aheadOf_43 : decode cX12_aheadOf 43 = .ok (.invokevirtual 407, 3) := by decide +kernel
theorem dX12_aheadOf_46 : decode cX12_aheadOf 46 = .ok (.if_icmp .ne 13, 3) := by decide +kernel
theorem dX12_aheadOf_49 : decode cX12_aheadOf 49 = .ok (.iload 4, 2) := by decide +kernel
theorem dX12_aheadOf_51 : decode cX12_aheadOf 51 = .ok (.iload_n 2, 1) := by decide +kernel
theorem dX12_aheadOf_52 : decode cX12_aheadOf 52 = .ok (.if_icmp .ge 7, 3) := by decide +kernel
theorem dX12_aheadOf_55 : decode cX12_aheadOf 55 = .ok (.iconst 1, 1) := by decide +kernel
theorem dX12_aheadOf_56 : decode cX12_aheadOf 56 = .ok (.goto 4, 3) := by decide +kernel
theorem dX12_aheadOf_59 : decode cX12_aheadOf 59 = .ok (.iconst 0, 1) := by decide +kernel
theorem dX12_aheadOf_60 : decode cX12_aheadOf 60 = .ok (.iadd, 1) := by decide +kernel
theorem dX12_aheadOf_61 : decode cX12_aheadOf 61 = .ok (.istore_n 3, 1) := by decide +kernel
theorem dX12_aheadOf_62 : decode cX12_aheadOf 62 = .ok (.iinc 4 1, 3) := by decide +kernel
theorem dX12_aheadOf_65 : decode cX12_aheadOf 65 = .ok (.goto (-60), 3) := by decide +kernel
theorem dX12_aheadOf_68 : decode cX12_aheadOf 68 = .ok (.iload_n 3, 1) := by decide +kernel
theorem dX12_aheadOf_69 : decode cX12_aheadOf 69 = .ok (.ireturn, 1) := by decide +kernel
theorem dX12_turnover_0 : decode cX12_turnover 0 = .ok (.aload_n 0, 1) := by decide +kernel
theorem dX12_turnover_1 : decode cX12_turnover 1 = .ok (.iload_n 1, 1) := by decide +kernel
theorem dX12_turnover_2 : decode cX12_turnover 2 = .ok (.invokevirtual 475, 3) := by decide +kernel
theorem dX12_turnover_5 : decode cX12_turnover 5 = .ok (.ifCond .eq 13, 3) := by decide +kernel
theorem dX12_turnover_8 : decode cX12_turnover 8 = .ok (.iload_n 2, 1) := by decide +kernel
theorem dX12_turnover_9 : decode cX12_turnover 9 = .ok (.iconst 1, 1) := by decide +kernel
theorem dX12_turnover_10 : decode cX12_turnover 10 = .ok (.bipush 16, 2) := by decide +kernel
theorem dX12_turnover_12 : decode cX12_turnover 12 = .ok (.invokestatic 152, 3) := by decide +kernel
theorem dX12_turnover_15 : decode cX12_turnover 15 = .ok (.ifCond .ne 5, 3) := by decide +kernel
theorem dX12_turnover_18 : decode cX12_turnover 18 = .ok (.iconst (-1), 1) := by decide +kernel
theorem dX12_turnover_19 : decode cX12_turnover 19 = .ok (.ireturn, 1) := by decide +kernel
theorem dX12_turnover_20 : decode cX12_turnover 20 = .ok (.aload_n 0, 1) := by decide +kernel
theorem dX12_turnover_21 : decode cX12_turnover 21 = .ok (.invokevirtual 464, 3) := by decide +kernel
theorem dX12_turnover_24 : decode cX12_turnover 24 = .ok (.iconst 0, 1) := by decide +kernel
theorem dX12_turnover_25 : decode cX12_turnover 25 = .ok (.istore_n 3, 1) := by decide +kernel
theorem dX12_turnover_26 : decode cX12_turnover 26 = .ok (.iconst 0, 1) := by decide +kernel
theorem dX12_turnover_27 : decode cX12_turnover 27 = .ok (.istore 4, 2) := by decide +kernel
theorem dX12_turnover_29 : decode cX12_turnover 29 = .ok (.iload 4, 2) := by decide +kernel
theorem dX12_turnover_31 : decode cX12_turnover 31 = .ok (.aload_n 0, 1) := by decide +kernel
theorem dX12_turnover_32 : decode cX12_turnover 32 = .ok (.getfield 7, 3) := by decide +kernel
theorem dX12_turnover_35 : decode cX12_turnover 35 = .ok (.iconst 1, 1) := by decide +kernel
theorem dX12_turnover_36 : decode cX12_turnover 36 = .ok (.iaload, 1) := by decide +kernel
theorem dX12_turnover_37 : decode cX12_turnover 37 = .ok (.if_icmp .ge 87, 3) := by decide +kernel
theorem dX12_turnover_40 : decode cX12_turnover 40 = .ok (.aload_n 0, 1) := by decide +kernel
theorem dX12_turnover_41 : decode cX12_turnover 41 = .ok (.iload_n 1, 1) := by decide +kernel
theorem dX12_turnover_42 : decode cX12_turnover 42 = .ok (.iload 4, 2) := by decide +kernel
theorem dX12_turnover_44 : decode cX12_turnover 44 = .ok (.invokevirtual 407, 3) := by decide +kernel
theorem dX12_turnover_47 : decode cX12_turnover 47 = .ok (.ifCond .le 18, 3) := by decide +kernel
theorem dX12_turnover_50 : decode cX12_turnover 50 = .ok (.aload_n 0, 1) := by decide +kernel
theorem dX12_turnover_51 : decode cX12_turnover 51 = .ok (.iload_n 1, 1) := by decide +kernel
theorem dX12_turnover_52 : decode cX12_turnover 52 = .ok (.iload 4, 2) := by decide +kernel
theorem dX12_turnover_54 : decode cX12_turnover 54 = .ok (.invokevirtual 529, 3) := by decide +kernel
theorem dX12_turnover_57 : decode cX12_turnover 57 = .ok (.iload_n 2, 1) := by decide +kernel
theorem dX12_turnover_58 : decode cX12_turnover 58 = .ok (.if_icmp .ge 7, 3) := by decide +kernel
theorem dX12_turnover_61 : decode cX12_turnover 61 = .ok (.iconst 1, 1) := by decide +kernel
theorem dX12_turnover_62 : decode cX12_turnover 62 = .ok (.goto 4, 3) := by decide +kernel
theorem dX12_turnover_65 : decode cX12_turnover 65 = .ok (.iconst 0, 1) := by decide +kernel
theorem dX12_turnover_66 : decode cX12_turnover 66 = .ok (.istore 5, 2) := by decide +kernel
theorem dX12_turnover_68 : decode cX12_turnover 68 = .ok (.aload_n 0, 1) := by decide +kernel
theorem dX12_turnover_69 : decode cX12_turnover 69 = .ok (.iload_n 1, 1) := by decide +kernel
theorem dX12_turnover_70 : decode cX12_turnover 70 = .ok (.iconst 1, 1) := by decide +kernel
theorem dX12_turnover_71 : decode cX12_turnover 71 = .ok (.isub, 1) := by decide +kernel
theorem dX12_turnover_72 : decode cX12_turnover 72 = .ok (.iload 4, 2) := by decide +kernel
theorem dX12_turnover_74 : decode cX12_turnover 74 = .ok (.invokevirtual 407, 3) := by decide +kernel
theorem dX12_turnover_77 : decode cX12_turnover 77 = .ok (.ifCond .le 20, 3) := by decide +kernel
theorem dX12_turnover_80 : decode cX12_turnover 80 = .ok (.aload_n 0, 1) := by decide +kernel
theorem dX12_turnover_81 : decode cX12_turnover 81 = .ok (.iload_n 1, 1) := by decide +kernel
theorem dX12_turnover_82 : decode cX12_turnover 82 = .ok (.iconst 1, 1) := by decide +kernel
theorem dX12_turnover_83 : decode cX12_turnover 83 = .ok (.isub, 1) := by decide +kernel
theorem dX12_turnover_84 : decode cX12_turnover 84 = .ok (.iload 4, 2) := by decide +kernel
theorem dX12_turnover_86 : decode cX12_turnover 86 = .ok (.invokevirtual 529, 3) := by decide +kernel
theorem dX12_turnover_89 : decode cX12_turnover 89 = .ok (.iload_n 2, 1) := by decide +kernel
theorem dX12_turnover_90 : decode cX12_turnover 90 = .ok (.if_icmp .ge 7, 3) := by decide +kernel
theorem dX12_turnover_93 : decode cX12_turnover 93 = .ok (.iconst 1, 1) := by decide +kernel
theorem dX12_turnover_94 : decode cX12_turnover 94 = .ok (.goto 4, 3) := by decide +kernel
theorem dX12_turnover_97 : decode cX12_turnover 97 = .ok (.iconst 0, 1) := by decide +kernel
theorem dX12_turnover_98 : decode cX12_turnover 98 = .ok (.istore 6, 2) := by decide +kernel
theorem dX12_turnover_100 : decode cX12_turnover 100 = .ok (.iload_n 3, 1) := by decide +kernel
theorem dX12_turnover_101 : decode cX12_turnover 101 = .ok (.iload 5, 2) := by decide +kernel
theorem dX12_turnover_103 : decode cX12_turnover 103 = .ok (.ifCond .eq 12, 3) := by decide +kernel
theorem dX12_turnover_106 : decode cX12_turnover 106 = .ok (.iload 6, 2) := by decide +kernel
theorem dX12_turnover_108 : decode cX12_turnover 108 = .ok (.ifCond .ne 7, 3) := by decide +kernel
theorem dX12_turnover_111 : decode cX12_turnover 111 = .ok (.iconst 1, 1) := by decide +kernel
theorem dX12_turnover_112 : decode cX12_turnover 112 = .ok (.goto 4, 3) := by decide +kernel
theorem dX12_turnover_115 : decode cX12_turnover 115 = .ok (.iconst 0, 1) := by decide +kernel
theorem dX12_turnover_116 : decode cX12_turnover 116 = .ok (.iadd, 1) := by decide +kernel
theorem dX12_turnover_117 : decode cX12_turnover 117 = .ok (.istore_n 3, 1) := by decide +kernel
theorem dX12_turnover_118 : decode cX12_turnover 118 = .ok (.iinc 4 1, 3) := by decide +kernel
theorem dX12_turnover_121 : decode cX12_turnover 121 = .ok (.goto (-92), 3) := by decide +kernel
theorem dX12_turnover_124 : decode cX12_turnover 124 = .ok (.iload_n 3, 1) := by decide +kernel
theorem dX12_turnover_125 : decode cX12_turnover 125 = .ok (.ireturn, 1) := by decide +kernel
theorem dX12_print_0 : decode cX12_print 0 = .ok (.iload_n 1, 1) := by decide +kernel
theorem dX12_print_1 : decode cX12_print 1 = .ok (.iconst 0, 1) := by decide +kernel
theorem dX12_print_2 : decode cX12_print 2 = .ok (.bipush 60, 2) := by decide +kernel
theorem dX12_print_4 : decode cX12_print 4 = .ok (.invokestatic 152, 3) := by decide +kernel
theorem dX12_print_7 : decode cX12_print 7 = .ok (.ifCond .eq 53, 3) := by decide +kernel
theorem dX12_print_10 : decode cX12_print 10 = .ok (.iload_n 2, 1) := by decide +kernel
theorem dX12_print_11 : decode cX12_print 11 = .ok (.iconst 0, 1) := by decide +kernel
theorem dX12_print_12 : decode cX12_print 12 = .ok (.iconst 2, 1) := by decide +kernel
theorem dX12_print_13 : decode cX12_print 13 = .ok (.invokestatic 152, 3) := by decide +kernel
theorem dX12_print_16 : decode cX12_print 16 = .ok (.ifCond .eq 44, 3) := by decide +kernel
theorem dX12_print_19 : decode cX12_print 19 = .ok (.iload_n 3, 1) := by decide +kernel
theorem dX12_print_20 : decode cX12_print 20 = .ok (.iconst 0, 1) := by decide +kernel
theorem dX12_print_21 : decode cX12_print 21 = .ok (.iconst 1, 1) := by decide +kernel
theorem dX12_print_22 : decode cX12_print 22 = .ok (.invokestatic 152, 3) := by decide +kernel
theorem dX12_print_25 : decode cX12_print 25 = .ok (.ifCond .eq 35, 3) := by decide +kernel
theorem dX12_print_28 : decode cX12_print 28 = .ok (.aload_n 0, 1) := by decide +kernel
theorem dX12_print_29 : decode cX12_print 29 = .ok (.iload 4, 2) := by decide +kernel
theorem dX12_print_31 : decode cX12_print 31 = .ok (.invokevirtual 182, 3) := by decide +kernel
theorem dX12_print_34 : decode cX12_print 34 = .ok (.ifCond .eq 26, 3) := by decide +kernel
theorem dX12_print_37 : decode cX12_print 37 = .ok (.iload 5, 2) := by decide +kernel
theorem dX12_print_39 : decode cX12_print 39 = .ok (.iconst 0, 1) := by decide +kernel
theorem dX12_print_40 : decode cX12_print 40 = .ok (.bipush 99, 2) := by decide +kernel
theorem dX12_print_42 : decode cX12_print 42 = .ok (.invokestatic 152, 3) := by decide +kernel
theorem dX12_print_45 : decode cX12_print 45 = .ok (.ifCond .eq 15, 3) := by decide +kernel
theorem dX12_print_48 : decode cX12_print 48 = .ok (.aload_n 0, 1) := by decide +kernel
theorem dX12_print_49 : decode cX12_print 49 = .ok (.getfield 7, 3) := by decide +kernel
theorem dX12_print_52 : decode cX12_print 52 = .ok (.iconst 5, 1) := by decide +kernel
theorem dX12_print_53 : decode cX12_print 53 = .ok (.iaload, 1) := by decide +kernel
theorem dX12_print_54 : decode cX12_print 54 = .ok (.sipush 150, 3) := by decide +kernel
theorem dX12_print_57 : decode cX12_print 57 = .ok (.if_icmp .ne 5, 3) := by decide +kernel
theorem dX12_print_60 : decode cX12_print 60 = .ok (.iconst (-1), 1) := by decide +kernel
theorem dX12_print_61 : decode cX12_print 61 = .ok (.ireturn, 1) := by decide +kernel
theorem dX12_print_62 : decode cX12_print 62 = .ok (.bipush 100, 2) := by decide +kernel
theorem dX12_print_64 : decode cX12_print 64 = .ok (.bipush 6, 2) := by decide +kernel
theorem dX12_print_66 : decode cX12_print 66 = .ok (.aload_n 0, 1) := by decide +kernel
theorem dX12_print_67 : decode cX12_print 67 = .ok (.getfield 7, 3) := by decide +kernel
theorem dX12_print_70 : decode cX12_print 70 = .ok (.iconst 5, 1) := by decide +kernel
theorem dX12_print_71 : decode cX12_print 71 = .ok (.iaload, 1) := by decide +kernel
theorem dX12_print_72 : decode cX12_print 72 = .ok (.imul, 1) := by decide +kernel
theorem dX12_print_73 : decode cX12_print 73 = .ok (.iadd, 1) := by decide +kernel
theorem dX12_print_74 : decode cX12_print 74 = .ok (.istore 6, 2) := by decide +kernel
theorem dX12_print_76 : decode cX12_print 76 = .ok (.aload_n 0, 1) := by decide +kernel
theorem dX12_print_77 : decode cX12_print 77 = .ok (.getfield 7, 3) := by decide +kernel
theorem dX12_print_80 : decode cX12_print 80 = .ok (.iload 6, 2) := by decide +kernel
theorem dX12_print_82 : decode cX12_print 82 = .ok (.iload_n 1, 1) := by decide +kernel
theorem dX12_print_83 : decode cX12_print 83 = .ok (.iastore, 1) := by decide +kernel
theorem dX12_print_84 : decode cX12_print 84 = .ok (.aload_n 0, 1) := by decide +kernel
theorem dX12_print_85 : decode cX12_print 85 = .ok (.getfield 7, 3) := by decide +kernel
theorem dX12_print_88 : decode cX12_print 88 = .ok (.iload 6, 2) := by decide +kernel
theorem dX12_print_90 : decode cX12_print 90 = .ok (.iconst 1, 1) := by decide +kernel
theorem dX12_print_91 : decode cX12_print 91 = .ok (.iadd, 1) := by decide +kernel
theorem dX12_print_92 : decode cX12_print 92 = .ok (.iload_n 2, 1) := by decide +kernel
theorem dX12_print_93 : decode cX12_print 93 = .ok (.iastore, 1) := by decide +kernel
theorem dX12_print_94 : decode cX12_print 94 = .ok (.aload_n 0, 1) := by decide +kernel
theorem dX12_print_95 : decode cX12_print 95 = .ok (.getfield 7, 3) := by decide +kernel
theorem dX12_print_98 : decode cX12_print 98 = .ok (.iload 6, 2) := by decide +kernel
theorem dX12_print_100 : decode cX12_print 100 = .ok (.iconst 2, 1) := by decide +kernel
theorem dX12_print_101 : decode cX12_print 101 = .ok (.iadd, 1) := by decide +kernel
theorem dX12_print_102 : decode cX12_print 102 = .ok (.iload_n 3, 1) := by decide +kernel
theorem dX12_print_103 : decode cX12_print 103 = .ok (.iastore, 1) := by decide +kernel
theorem dX12_print_104 : decode cX12_print 104 = .ok (.aload_n 0, 1) := by decide +kernel
theorem dX12_print_105 : decode cX12_print 105 = .ok (.getfield 7, 3) := by decide +kernel
theorem dX12_print_108 : decode cX12_print 108 = .ok (.iload 6, 2) := by decide +kernel
theorem dX12_print_110 : decode cX12_print 110 = .ok (.iconst 3, 1) := by decide +kernel
theorem dX12_print_111 : decode cX12_print 111 = .ok (.iadd, 1) := by decide +kernel
theorem dX12_print_112 : decode cX12_print 112 = .ok (.iload 4, 2) := by decide +kernel
theorem dX12_print_114 : decode cX12_print 114 = .ok (.iastore, 1) := by decide +kernel
theorem dX12_print_115 : decode cX12_print 115 = .ok (.aload_n 0, 1) := by decide +kernel
theorem dX12_print_116 : decode cX12_print 116 = .ok (.getfield 7, 3) := by decide +kernel
theorem dX12_print_119 : decode cX12_print 119 = .ok (.iload 6, 2) := by decide +kernel
theorem dX12_print_121 : decode cX12_print 121 = .ok (.iconst 4, 1) := by decide +kernel
theorem dX12_print_122 : decode cX12_print 122 = .ok (.iadd, 1) := by decide +kernel
theorem dX12_print_123 : decode cX12_print 123 = .ok (.iload 5, 2) := by decide +kernel
theorem dX12_print_125 : decode cX12_print 125 = .ok (.iastore, 1) := by decide +kernel
theorem dX12_print_126 : decode cX12_print 126 = .ok (.aload_n 0, 1) := by decide +kernel
theorem dX12_print_127 : decode cX12_print 127 = .ok (.getfield 7, 3) := by decide +kernel
theorem dX12_print_130 : decode cX12_print 130 = .ok (.iload 6, 2) := by decide +kernel
theorem dX12_print_132 : decode cX12_print 132 = .ok (.iconst 5, 1) := by decide +kernel
theorem dX12_print_133 : decode cX12_print 133 = .ok (.iadd, 1) := by decide +kernel
theorem dX12_print_134 : decode cX12_print 134 = .ok (.aload_n 0, 1) := by decide +kernel
theorem dX12_print_135 : decode cX12_print 135 = .ok (.getfield 7, 3) := by decide +kernel
theorem dX12_print_138 : decode cX12_print 138 = .ok (.iconst 0, 1) := by decide +kernel
theorem dX12_print_139 : decode cX12_print 139 = .ok (.iaload, 1) := by decide +kernel
theorem dX12_print_140 : decode cX12_print 140 = .ok (.iastore, 1) := by decide +kernel
theorem dX12_print_141 : decode cX12_print 141 = .ok (.aload_n 0, 1) := by decide +kernel
theorem dX12_print_142 : decode cX12_print 142 = .ok (.getfield 7, 3) := by decide +kernel
theorem dX12_print_145 : decode cX12_print 145 = .ok (.iconst 5, 1) := by decide +kernel
theorem dX12_print_146 : decode cX12_print 146 = .ok (.dup2, 1) := by decide +kernel
theorem dX12_print_147 : decode cX12_print 147 = .ok (.iaload, 1) := by decide +kernel
theorem dX12_print_148 : decode cX12_print 148 = .ok (.iconst 1, 1) := by decide +kernel
theorem dX12_print_149 : decode cX12_print 149 = .ok (.iadd, 1) := by decide +kernel
theorem dX12_print_150 : decode cX12_print 150 = .ok (.iastore, 1) := by decide +kernel
theorem dX12_print_151 : decode cX12_print 151 = .ok (.aload_n 0, 1) := by decide +kernel
theorem dX12_print_152 : decode cX12_print 152 = .ok (.getfield 7, 3) := by decide +kernel
theorem dX12_print_155 : decode cX12_print 155 = .ok (.iconst 5, 1) := by decide +kernel
theorem dX12_print_156 : decode cX12_print 156 = .ok (.iaload, 1) := by decide +kernel
theorem dX12_print_157 : decode cX12_print 157 = .ok (.ireturn, 1) := by decide +kernel
theorem dX12_isLet_0 : decode cX12_isLet 0 = .ok (.iconst (-1), 1) := by decide +kernel
theorem dX12_isLet_1 : decode cX12_isLet 1 = .ok (.istore_n 3, 1) := by decide +kernel
theorem dX12_isLet_2 : decode cX12_isLet 2 = .ok (.iconst 0, 1) := by decide +kernel
theorem dX12_isLet_3 : decode cX12_isLet 3 = .ok (.istore 4, 2) := by decide +kernel
theorem dX12_isLet_5 : decode cX12_isLet 5 = .ok (.iload 4, 2) := by decide +kernel
theorem dX12_isLet_7 : decode cX12_isLet 7 = .ok (.aload_n 0, 1) := by decide +kernel
theorem dX12_isLet_8 : decode cX12_isLet 8 = .ok (.getfield 7, 3) := by decide +kernel
theorem dX12_isLet_11 : decode cX12_isLet 11 = .ok (.iconst 5, 1) := by decide +kernel
theorem dX12_isLet_12 : decode cX12_isLet 12 = .ok (.iaload, 1) := by decide +kernel
theorem dX12_isLet_13 : decode cX12_isLet 13 = .ok (.if_icmp .ge 48, 3) := by decide +kernel
theorem dX12_isLet_16 : decode cX12_isLet 16 = .ok (.bipush 100, 2) := by decide +kernel
theorem dX12_isLet_18 : decode cX12_isLet 18 = .ok (.bipush 6, 2) := by decide +kernel
theorem dX12_isLet_20 : decode cX12_isLet 20 = .ok (.iload 4, 2) := by decide +kernel
theorem dX12_isLet_22 : decode cX12_isLet 22 = .ok (.imul, 1) := by decide +kernel
theorem dX12_isLet_23 : decode cX12_isLet 23 = .ok (.iadd, 1) := by decide +kernel
theorem dX12_isLet_24 : decode cX12_isLet 24 = .ok (.istore 5, 2) := by decide +kernel
theorem dX12_isLet_26 : decode cX12_isLet 26 = .ok (.aload_n 0, 1) := by decide +kernel
theorem dX12_isLet_27 : decode cX12_isLet 27 = .ok (.getfield 7, 3) := by decide +kernel
theorem dX12_isLet_30 : decode cX12_isLet 30 = .ok (.iload 5, 2) := by decide +kernel
theorem dX12_isLet_32 : decode cX12_isLet 32 = .ok (.iconst 5, 1) := by decide +kernel
theorem dX12_isLet_33 : decode cX12_isLet 33 = .ok (.iadd, 1) := by decide +kernel
theorem dX12_isLet_34 : decode cX12_isLet 34 = .ok (.iaload, 1) := by decide +kernel
theorem dX12_isLet_35 : decode cX12_isLet 35 = .ok (.iload_n 2, 1) := by decide +kernel
theorem dX12_isLet_36 : decode cX12_isLet 36 = .ok (.if_icmp .gt 17, 3) := by decide +kernel
theorem dX12_isLet_39 : decode cX12_isLet 39 = .ok (.iload_n 3, 1) := by decide +kernel
theorem dX12_isLet_40 : decode cX12_isLet 40 = .ok (.aload_n 0, 1) := by decide +kernel
theorem dX12_isLet_41 : decode cX12_isLet 41 = .ok (.getfield 7, 3) := by decide +kernel
theorem dX12_isLet_44 : decode cX12_isLet 44 = .ok (.iload 5, 2) := by decide +kernel
theorem dX12_isLet_46 : decode cX12_isLet 46 = .ok (.iaload, 1) := by decide +kernel
theorem dX12_isLet_47 : decode cX12_isLet 47 = .ok (.invokestatic 410, 3) := by decide +kernel
theorem dX12_isLet_50 : decode cX12_isLet 50 = .ok (.goto 4, 3) := by decide +kernel
theorem dX12_isLet_53 : decode cX12_isLet 53 = .ok (.iload_n 3, 1) := by decide +kernel
theorem dX12_isLet_54 : decode cX12_isLet 54 = .ok (.istore_n 3, 1) := by decide +kernel
theorem dX12_isLet_55 : decode cX12_isLet 55 = .ok (.iinc 4 1, 3) := by decide +kernel
theorem dX12_isLet_58 : decode cX12_isLet 58 = .ok (.goto (-53), 3) := by decide +kernel
theorem dX12_isLet_61 : decode cX12_isLet 61 = .ok (.aload_n 0, 1) := by decide +kernel
theorem dX12_isLet_62 : decode cX12_isLet 62 = .ok (.iload_n 3, 1) := by decide +kernel
theorem dX12_isLet_63 : decode cX12_isLet 63 = .ok (.iconst 1, 1) := by decide +kernel
theorem dX12_isLet_64 : decode cX12_isLet 64 = .ok (.iadd, 1) := by decide +kernel
theorem dX12_isLet_65 : decode cX12_isLet 65 = .ok (.iconst (-1), 1) := by decide +kernel
theorem dX12_isLet_66 : decode cX12_isLet 66 = .ok (.iconst 0, 1) := by decide +kernel
theorem dX12_isLet_67 : decode cX12_isLet 67 = .ok (.iload_n 1, 1) := by decide +kernel
theorem dX12_isLet_68 : decode cX12_isLet 68 = .ok (.invokevirtual 188, 3) := by decide +kernel
theorem dX12_isLet_71 : decode cX12_isLet 71 = .ok (.iconst 1, 1) := by decide +kernel
theorem dX12_isLet_72 : decode cX12_isLet 72 = .ok (.istore 4, 2) := by decide +kernel
theorem dX12_isLet_74 : decode cX12_isLet 74 = .ok (.iconst 0, 1) := by decide +kernel
theorem dX12_isLet_75 : decode cX12_isLet 75 = .ok (.istore 5, 2) := by decide +kernel
theorem dX12_isLet_77 : decode cX12_isLet 77 = .ok (.iload 5, 2) := by decide +kernel
theorem dX12_isLet_79 : decode cX12_isLet 79 = .ok (.aload_n 0, 1) := by decide +kernel
theorem dX12_isLet_80 : decode cX12_isLet 80 = .ok (.getfield 7, 3) := by decide +kernel
theorem dX12_isLet_83 : decode cX12_isLet 83 = .ok (.iconst 5, 1) := by decide +kernel
theorem dX12_isLet_84 : decode cX12_isLet 84 = .ok (.iaload, 1) := by decide +kernel
theorem dX12_isLet_85 : decode cX12_isLet 85 = .ok (.if_icmp .ge 95, 3) := by decide +kernel
theorem dX12_isLet_88 : decode cX12_isLet 88 = .ok (.iload 4, 2) := by decide +kernel
theorem dX12_isLet_90 : decode cX12_isLet 90 = .ok (.ifCond .eq 90, 3) := by decide +kernel
theorem dX12_isLet_93 : decode cX12_isLet 93 = .ok (.bipush 100, 2) := by decide +kernel
theorem dX12_isLet_95 : decode cX12_isLet 95 = .ok (.bipush 6, 2) := by decide +kernel
theorem dX12_isLet_97 : decode cX12_isLet 97 = .ok (.iload 5, 2) := by decide +kernel
theorem dX12_isLet_99 : decode cX12_isLet 99 = .ok (.imul, 1) := by decide +kernel
theorem dX12_isLet_100 : decode cX12_isLet 100 = .ok (.iadd, 1) := by decide +kernel
theorem dX12_isLet_101 : decode cX12_isLet 101 = .ok (.istore 6, 2) := by decide +kernel
theorem dX12_isLet_103 : decode cX12_isLet 103 = .ok (.aload_n 0, 1) := by decide +kernel
theorem dX12_isLet_104 : decode cX12_isLet 104 = .ok (.getfield 7, 3) := by decide +kernel
theorem dX12_isLet_107 : decode cX12_isLet 107 = .ok (.iload 6, 2) := by decide +kernel
theorem dX12_isLet_109 : decode cX12_isLet 109 = .ok (.iconst 5, 1) := by decide +kernel
theorem dX12_isLet_110 : decode cX12_isLet 110 = .ok (.iadd, 1) := by decide +kernel
theorem dX12_isLet_111 : decode cX12_isLet 111 = .ok (.iaload, 1) := by decide +kernel
theorem dX12_isLet_112 : decode cX12_isLet 112 = .ok (.iload_n 2, 1) := by decide +kernel
theorem dX12_isLet_113 : decode cX12_isLet 113 = .ok (.if_icmp .gt 54, 3) := by decide +kernel
theorem dX12_isLet_116 : decode cX12_isLet 116 = .ok (.aload_n 0, 1) := by decide +kernel
theorem dX12_isLet_117 : decode cX12_isLet 117 = .ok (.aload_n 0, 1) := by decide +kernel
theorem dX12_isLet_118 : decode cX12_isLet 118 = .ok (.getfield 7, 3) := by decide +kernel
theorem dX12_isLet_121 : decode cX12_isLet 121 = .ok (.iload 6, 2) := by decide +kernel
theorem dX12_isLet_123 : decode cX12_isLet 123 = .ok (.iaload, 1) := by decide +kernel
theorem dX12_isLet_124 : decode cX12_isLet 124 = .ok (.aload_n 0, 1) := by decide +kernel
theorem dX12_isLet_125 : decode cX12_isLet 125 = .ok (.getfield 7, 3) := by decide +kernel
theorem dX12_isLet_128 : decode cX12_isLet 128 = .ok (.iload 6, 2) := by decide +kernel
theorem dX12_isLet_130 : decode cX12_isLet 130 = .ok (.iconst 1, 1) := by decide +kernel
theorem dX12_isLet_131 : decode cX12_isLet 131 = .ok (.iadd, 1) := by decide +kernel
theorem dX12_isLet_132 : decode cX12_isLet 132 = .ok (.iaload, 1) := by decide +kernel
theorem dX12_isLet_133 : decode cX12_isLet 133 = .ok (.iconst (-1), 1) := by decide +kernel
theorem dX12_isLet_134 : decode cX12_isLet 134 = .ok (.aload_n 0, 1) := by decide +kernel
theorem dX12_isLet_135 : decode cX12_isLet 135 = .ok (.getfield 7, 3) := by decide +kernel
theorem dX12_isLet_138 : decode cX12_isLet 138 = .ok (.iload 6, 2) := by decide +kernel
theorem dX12_isLet_140 : decode cX12_isLet 140 = .ok (.iconst 2, 1) := by decide +kernel
theorem dX12_isLet_141 : decode cX12_isLet 141 = .ok (.iadd, 1) := by decide +kernel
theorem dX12_isLet_142 : decode cX12_isLet 142 = .ok (.iaload, 1) := by decide +kernel
theorem dX12_isLet_143 : decode cX12_isLet 143 = .ok (.aload_n 0, 1) := by decide +kernel
theorem dX12_isLet_144 : decode cX12_isLet 144 = .ok (.getfield 7, 3) := by decide +kernel
theorem dX12_isLet_147 : decode cX12_isLet 147 = .ok (.iload 6, 2) := by decide +kernel
theorem dX12_isLet_149 : decode cX12_isLet 149 = .ok (.iconst 3, 1) := by decide +kernel
theorem dX12_isLet_150 : decode cX12_isLet 150 = .ok (.iadd, 1) := by decide +kernel
theorem dX12_isLet_151 : decode cX12_isLet 151 = .ok (.iaload, 1) := by decide +kernel
theorem dX12_isLet_152 : decode cX12_isLet 152 = .ok (.invokevirtual 471, 3) := by decide +kernel
theorem dX12_isLet_155 : decode cX12_isLet 155 = .ok (.aload_n 0, 1) := by decide +kernel
theorem dX12_isLet_156 : decode cX12_isLet 156 = .ok (.getfield 7, 3) := by decide +kernel
theorem dX12_isLet_159 : decode cX12_isLet 159 = .ok (.iload 6, 2) := by decide +kernel
theorem dX12_isLet_161 : decode cX12_isLet 161 = .ok (.iconst 4, 1) := by decide +kernel
theorem dX12_isLet_162 : decode cX12_isLet 162 = .ok (.iadd, 1) := by decide +kernel
theorem dX12_isLet_163 : decode cX12_isLet 163 = .ok (.iaload, 1) := by decide +kernel
theorem dX12_isLet_164 : decode cX12_isLet 164 = .ok (.if_icmp .ne 7, 3) := by decide +kernel
theorem dX12_isLet_167 : decode cX12_isLet 167 = .ok (.iconst 1, 1) := by decide +kernel
theorem dX12_isLet_168 : decode cX12_isLet 168 = .ok (.goto 4, 3) := by decide +kernel
theorem dX12_isLet_171 : decode cX12_isLet 171 = .ok (.iconst 0, 1) := by decide +kernel
theorem dX12_isLet_172 : decode cX12_isLet 172 = .ok (.istore 4, 2) := by decide +kernel
theorem dX12_isLet_174 : decode cX12_isLet 174 = .ok (.iinc 5 1, 3) := by decide +kernel
theorem dX12_isLet_177 : decode cX12_isLet 177 = .ok (.goto (-100), 3) := by decide +kernel
theorem dX12_isLet_180 : decode cX12_isLet 180 = .ok (.iload 4, 2) := by decide +kernel
theorem dX12_isLet_182 : decode cX12_isLet 182 = .ok (.ireturn, 1) := by decide +kernel
theorem dX12_let_0 : decode cX12_let 0 = .ok (.iload_n 1, 1) := by decide +kernel
theorem dX12_let_1 : decode cX12_let 1 = .ok (.iconst (-1), 1) := by decide +kernel
theorem dX12_let_2 : decode cX12_let 2 = .ok (.if_icmp .eq 11, 3) := by decide +kernel
theorem dX12_let_5 : decode cX12_let 5 = .ok (.aload_n 0, 1) := by decide +kernel
theorem dX12_let_6 : decode cX12_let 6 = .ok (.iload_n 1, 1) := by decide +kernel
theorem dX12_let_7 : decode cX12_let 7 = .ok (.invokevirtual 404, 3) := by decide +kernel
theorem dX12_let_10 : decode cX12_let 10 = .ok (.ifCond .eq 13, 3) := by decide +kernel
theorem dX12_let_13 : decode cX12_let 13 = .ok (.iload_n 2, 1) := by decide +kernel
theorem dX12_let_14 : decode cX12_let 14 = .ok (.iconst 0, 1) := by decide +kernel
theorem dX12_let_15 : decode cX12_let 15 = .ok (.bipush 61, 2) := by decide +kernel
theorem dX12_let_17 : decode cX12_let 17 = .ok (.invokestatic 152, 3) := by decide +kernel
theorem dX12_let_20 : decode cX12_let 20 = .ok (.ifCond .ne 5, 3) := by decide +kernel
theorem dX12_let_23 : decode cX12_let 23 = .ok (.iconst (-1), 1) := by decide +kernel
theorem dX12_let_24 : decode cX12_let 24 = .ok (.ireturn, 1) := by decide +kernel
theorem dX12_let_25 : decode cX12_let 25 = .ok (.iconst 0, 1) := by decide +kernel
theorem dX12_let_26 : decode cX12_let 26 = .ok (.istore_n 3, 1) := by decide +kernel
theorem dX12_let_27 : decode cX12_let 27 = .ok (.iconst 0, 1) := by decide +kernel
theorem dX12_let_28 : decode cX12_let 28 = .ok (.istore 4, 2) := by decide +kernel
theorem dX12_let_30 : decode cX12_let 30 = .ok (.iload 4, 2) := by decide +kernel
theorem dX12_let_32 : decode cX12_let 32 = .ok (.aload_n 0, 1) := by decide +kernel
theorem dX12_let_33 : decode cX12_let 33 = .ok (.getfield 7, 3) := by decide +kernel
theorem dX12_let_36 : decode cX12_let 36 = .ok (.iconst 4, 1) := by decide +kernel
theorem dX12_let_37 : decode cX12_let 37 = .ok (.iaload, 1) := by decide +kernel
theorem dX12_let_38 : decode cX12_let 38 = .ok (.if_icmp .ge 38, 3) := by decide +kernel
theorem dX12_let_41 : decode cX12_let 41 = .ok (.iload_n 3, 1) := by decide +kernel
theorem dX12_let_42 : decode cX12_let 42 = .ok (.iload_n 1, 1) := by decide +kernel
theorem dX12_let_43 : decode cX12_let 43 = .ok (.iconst (-1), 1) := by decide +kernel
theorem dX12_let_44 : decode cX12_let 44 = .ok (.if_icmp .eq 9, 3) := by decide +kernel
theorem dX12_let_47 : decode cX12_let 47 = .ok (.iload_n 1, 1) := by decide +kernel
theorem dX12_let_48 : decode cX12_let 48 = .ok (.iload 4, 2) := by decide +kernel
theorem dX12_let_50 : decode cX12_let 50 = .ok (.if_icmp .ne 17, 3) := by decide +kernel
theorem dX12_let_53 : decode cX12_let 53 = .ok (.aload_n 0, 1) := by decide +kernel
theorem dX12_let_54 : decode cX12_let 54 = .ok (.iload 4, 2) := by decide +kernel
theorem dX12_let_56 : decode cX12_let 56 = .ok (.iload_n 2, 1) := by decide +kernel
theorem dX12_let_57 : decode cX12_let 57 = .ok (.invokevirtual 532, 3) := by decide +kernel
theorem dX12_let_60 : decode cX12_let 60 = .ok (.ifCond .eq 7, 3) := by decide +kernel
theorem dX12_let_63 : decode cX12_let 63 = .ok (.iconst 1, 1) := by decide +kernel
theorem dX12_let_64 : decode cX12_let 64 = .ok (.goto 4, 3) := by decide +kernel
theorem dX12_let_67 : decode cX12_let 67 = .ok (.iconst 0, 1) := by decide +kernel
theorem dX12_let_68 : decode cX12_let 68 = .ok (.iadd, 1) := by decide +kernel
theorem dX12_let_69 : decode cX12_let 69 = .ok (.istore_n 3, 1) := by decide +kernel
theorem dX12_let_70 : decode cX12_let 70 = .ok (.iinc 4 1, 3) := by decide +kernel
theorem dX12_let_73 : decode cX12_let 73 = .ok (.goto (-43), 3) := by decide +kernel
theorem dX12_let_76 : decode cX12_let 76 = .ok (.iload_n 3, 1) := by decide +kernel
theorem dX12_let_77 : decode cX12_let 77 = .ok (.ireturn, 1) := by decide +kernel
theorem dX12_span_0 : decode cX12_span 0 = .ok (.iload_n 1, 1) := by decide +kernel
theorem dX12_span_1 : decode cX12_span 1 = .ok (.iconst 0, 1) := by decide +kernel
theorem dX12_span_2 : decode cX12_span 2 = .ok (.bipush 60, 2) := by decide +kernel
theorem dX12_span_4 : decode cX12_span 4 = .ok (.invokestatic 152, 3) := by decide +kernel
theorem dX12_span_7 : decode cX12_span 7 = .ok (.ifCond .eq 30, 3) := by decide +kernel
theorem dX12_span_10 : decode cX12_span 10 = .ok (.iload_n 2, 1) := by decide +kernel
theorem dX12_span_11 : decode cX12_span 11 = .ok (.iconst 0, 1) := by decide +kernel
theorem dX12_span_12 : decode cX12_span 12 = .ok (.iconst 2, 1) := by decide +kernel
theorem dX12_span_13 : decode cX12_span 13 = .ok (.invokestatic 152, 3) := by decide +kernel
theorem dX12_span_16 : decode cX12_span 16 = .ok (.ifCond .eq 21, 3) := by decide +kernel
theorem dX12_span_19 : decode cX12_span 19 = .ok (.iload_n 3, 1) := by decide +kernel
theorem dX12_span_20 : decode cX12_span 20 = .ok (.iconst 0, 1) := by decide +kernel
theorem dX12_span_21 : decode cX12_span 21 = .ok (.iconst 1, 1) := by decide +kernel
theorem dX12_span_22 : decode cX12_span 22 = .ok (.invokestatic 152, 3) := by decide +kernel
theorem dX12_span_25 : decode cX12_span 25 = .ok (.ifCond .eq 12, 3) := by decide +kernel
theorem dX12_span_28 : decode cX12_span 28 = .ok (.aload_n 0, 1) := by decide +kernel
theorem dX12_span_29 : decode cX12_span 29 = .ok (.iload 4, 2) := by decide +kernel
theorem dX12_span_31 : decode cX12_span 31 = .ok (.invokevirtual 182, 3) := by decide +kernel
theorem dX12_span_34 : decode cX12_span 34 = .ok (.ifCond .ne 5, 3) := by decide +kernel
theorem dX12_span_37 : decode cX12_span 37 = .ok (.iconst (-1), 1) := by decide +kernel
theorem dX12_span_38 : decode cX12_span 38 = .ok (.ireturn, 1) := by decide +kernel
theorem dX12_span_39 : decode cX12_span 39 = .ok (.iconst (-1), 1) := by decide +kernel
theorem dX12_span_40 : decode cX12_span 40 = .ok (.istore 6, 2) := by decide +kernel
theorem dX12_span_42 : decode cX12_span 42 = .ok (.iconst (-1), 1) := by decide +kernel
theorem dX12_span_43 : decode cX12_span 43 = .ok (.istore 7, 2) := by decide +kernel
theorem dX12_span_45 : decode cX12_span 45 = .ok (.iconst 0, 1) := by decide +kernel
theorem dX12_span_46 : decode cX12_span 46 = .ok (.istore 8, 2) := by decide +kernel
theorem dX12_span_48 : decode cX12_span 48 = .ok (.iload 8, 2) := by decide +kernel
theorem dX12_span_50 : decode cX12_span 50 = .ok (.aload_n 0, 1) := by decide +kernel
theorem dX12_span_51 : decode cX12_span 51 = .ok (.getfield 7, 3) := by decide +kernel
theorem dX12_span_54 : decode cX12_span 54 = .ok (.iconst 4, 1) := by decide +kernel
theorem dX12_span_55 : decode cX12_span 55 = .ok (.iaload, 1) := by decide +kernel
theorem dX12_span_56 : decode cX12_span 56 = .ok (.if_icmp .ge 76, 3) := by decide +kernel
theorem dX12_span_59 : decode cX12_span 59 = .ok (.aload_n 0, 1) := by decide +kernel
theorem dX12_span_60 : decode cX12_span 60 = .ok (.iload 8, 2) := by decide +kernel
theorem dX12_span_62 : decode cX12_span 62 = .ok (.aload_n 0, 1) := by decide +kernel
theorem dX12_span_63 : decode cX12_span 63 = .ok (.getfield 7, 3) := by decide +kernel
theorem dX12_span_66 : decode cX12_span 66 = .ok (.iconst 0, 1) := by decide +kernel
theorem dX12_span_67 : decode cX12_span 67 = .ok (.iaload, 1) := by decide +kernel
theorem dX12_span_68 : decode cX12_span 68 = .ok (.invokevirtual 532, 3) := by decide +kernel
theorem dX12_span_71 : decode cX12_span 71 = .ok (.ifCond .eq 55, 3) := by decide +kernel
theorem dX12_span_74 : decode cX12_span 74 = .ok (.aload_n 0, 1) := by decide +kernel
theorem dX12_span_75 : decode cX12_span 75 = .ok (.iload_n 1, 1) := by decide +kernel
theorem dX12_span_76 : decode cX12_span 76 = .ok (.iconst 1, 1) := by decide +kernel
theorem dX12_span_77 : decode cX12_span 77 = .ok (.iadd, 1) := by decide +kernel
theorem dX12_span_78 : decode cX12_span 78 = .ok (.iconst (-1), 1) := by decide +kernel
theorem dX12_span_79 : decode cX12_span 79 = .ok (.iconst 0, 1) := by decide +kernel
theorem dX12_span_80 : decode cX12_span 80 = .ok (.iload 8, 2) := by decide +kernel
theorem dX12_span_82 : decode cX12_span 82 = .ok (.invokevirtual 188, 3) := by decide +kernel
theorem dX12_span_85 : decode cX12_span 85 = .ok (.aload_n 0, 1) := by decide +kernel
theorem dX12_span_86 : decode cX12_span 86 = .ok (.iload_n 1, 1) := by decide +kernel
theorem dX12_span_87 : decode cX12_span 87 = .ok (.iload_n 2, 1) := by decide +kernel
theorem dX12_span_88 : decode cX12_span 88 = .ok (.iconst (-1), 1) := by decide +kernel
theorem dX12_span_89 : decode cX12_span 89 = .ok (.iload_n 3, 1) := by decide +kernel
theorem dX12_span_90 : decode cX12_span 90 = .ok (.iload 4, 2) := by decide +kernel
theorem dX12_span_92 : decode cX12_span 92 = .ok (.invokevirtual 471, 3) := by decide +kernel
theorem dX12_span_95 : decode cX12_span 95 = .ok (.istore 9, 2) := by decide +kernel
theorem dX12_span_97 : decode cX12_span 97 = .ok (.iload 6, 2) := by decide +kernel
theorem dX12_span_99 : decode cX12_span 99 = .ok (.iconst (-1), 1) := by decide +kernel
theorem dX12_span_100 : decode cX12_span 100 = .ok (.if_icmp .ne 8, 3) := by decide +kernel
theorem dX12_span_103 : decode cX12_span 103 = .ok (.iload 9, 2) := by decide +kernel
theorem dX12_span_105 : decode cX12_span 105 = .ok (.goto 10, 3) := by decide +kernel
theorem dX12_span_108 : decode cX12_span 108 = .ok (.iload 6, 2) := by decide +kernel
theorem dX12_span_110 : decode cX12_span 110 = .ok (.iload 9, 2) := by decide +kernel
theorem dX12_span_112 : decode cX12_span 112 = .ok (.invokestatic 428, 3) := by decide +kernel
theorem dX12_span_115 : decode cX12_span 115 = .ok (.istore 6, 2) := by decide +kernel
theorem dX12_span_117 : decode cX12_span 117 = .ok (.iload 7, 2) := by decide +kernel
theorem dX12_span_119 : decode cX12_span 119 = .ok (.iload 9, 2) := by decide +kernel
theorem dX12_span_121 : decode cX12_span 121 = .ok (.invokestatic 410, 3) := by decide +kernel
theorem dX12_span_124 : decode cX12_span 124 = .ok (.istore 7, 2) := by decide +kernel
theorem dX12_span_126 : decode cX12_span 126 = .ok (.iinc 8 1, 3) := by decide +kernel
theorem dX12_span_129 : decode cX12_span 129 = .ok (.goto (-81), 3) := by decide +kernel
theorem dX12_span_132 : decode cX12_span 132 = .ok (.iload 5, 2) := by decide +kernel
theorem dX12_span_134 : decode cX12_span 134 = .ok (.ifCond .eq 8, 3) := by decide +kernel
theorem dX12_span_137 : decode cX12_span 137 = .ok (.iload 7, 2) := by decide +kernel
theorem dX12_span_139 : decode cX12_span 139 = .ok (.goto 5, 3) := by decide +kernel
theorem dX12_span_142 : decode cX12_span 142 = .ok (.iload 6, 2) := by decide +kernel
theorem dX12_span_144 : decode cX12_span 144 = .ok (.ireturn, 1) := by decide +kernel
theorem dX12_parts_0 : decode cX12_parts 0 = .ok (.iload_n 1, 1) := by decide +kernel
theorem dX12_parts_1 : decode cX12_parts 1 = .ok (.iconst 0, 1) := by decide +kernel
theorem dX12_parts_2 : decode cX12_parts 2 = .ok (.bipush 60, 2) := by decide +kernel
theorem dX12_parts_4 : decode cX12_parts 4 = .ok (.invokestatic 152, 3) := by decide +kernel
theorem dX12_parts_7 : decode cX12_parts 7 = .ok (.ifCond .eq 12, 3) := by decide +kernel
theorem dX12_parts_10 : decode cX12_parts 10 = .ok (.iload_n 2, 1) := by decide +kernel
theorem dX12_parts_11 : decode cX12_parts 11 = .ok (.iconst 0, 1) := by decide +kernel
theorem dX12_parts_12 : decode cX12_parts 12 = .ok (.iconst 3, 1) := by decide +kernel
theorem dX12_parts_13 : decode cX12_parts 13 = .ok (.invokestatic 152, 3) := by decide +kernel
theorem dX12_parts_16 : decode cX12_parts 16 = .ok (.ifCond .ne 5, 3) := by decide +kernel
theorem dX12_parts_19 : decode cX12_parts 19 = .ok (.iconst (-1), 1) := by decide +kernel
theorem dX12_parts_20 : decode cX12_parts 20 = .ok (.ireturn, 1) := by decide +kernel
theorem dX12_parts_21 : decode cX12_parts 21 = .ok (.iconst 0, 1) := by decide +kernel
theorem dX12_parts_22 : decode cX12_parts 22 = .ok (.istore_n 3, 1) := by decide +kernel
theorem dX12_parts_23 : decode cX12_parts 23 = .ok (.iconst 0, 1) := by decide +kernel
theorem dX12_parts_24 : decode cX12_parts 24 = .ok (.istore 4, 2) := by decide +kernel
theorem dX12_parts_26 : decode cX12_parts 26 = .ok (.iload 4, 2) := by decide +kernel
theorem dX12_parts_28 : decode cX12_parts 28 = .ok (.aload_n 0, 1) := by decide +kernel
theorem dX12_parts_29 : decode cX12_parts 29 = .ok (.getfield 7, 3) := by decide +kernel
theorem dX12_parts_32 : decode cX12_parts 32 = .ok (.iconst 4, 1) := by decide +kernel
theorem dX12_parts_33 : decode cX12_parts 33 = .ok (.iaload, 1) := by decide +kernel
theorem dX12_parts_34 : decode cX12_parts 34 = .ok (.if_icmp .ge 152, 3) := by decide +kernel
theorem dX12_parts_37 : decode cX12_parts 37 = .ok (.aload_n 0, 1) := by decide +kernel
theorem dX12_parts_38 : decode cX12_parts 38 = .ok (.iload 4, 2) := by decide +kernel
theorem dX12_parts_40 : decode cX12_parts 40 = .ok (.aload_n 0, 1) := by decide +kernel
theorem dX12_parts_41 : decode cX12_parts 41 = .ok (.getfield 7, 3) := by decide +kernel
theorem dX12_parts_44 : decode cX12_parts 44 = .ok (.iconst 0, 1) := by decide +kernel
theorem dX12_parts_45 : decode cX12_parts 45 = .ok (.iaload, 1) := by decide +kernel
theorem dX12_parts_46 : decode cX12_parts 46 = .ok (.invokevirtual 532, 3) := by decide +kernel
theorem dX12_parts_49 : decode cX12_parts 49 = .ok (.ifCond .eq 131, 3) := by decide +kernel
theorem dX12_parts_52 : decode cX12_parts 52 = .ok (.aload_n 0, 1) := by decide +kernel
theorem dX12_parts_53 : decode cX12_parts 53 = .ok (.iload_n 1, 1) := by decide +kernel
theorem dX12_parts_54 : decode cX12_parts 54 = .ok (.iconst 1, 1) := by decide +kernel
theorem dX12_parts_55 : decode cX12_parts 55 = .ok (.iadd, 1) := by decide +kernel
theorem dX12_parts_56 : decode cX12_parts 56 = .ok (.iconst (-1), 1) := by decide +kernel
theorem dX12_parts_57 : decode cX12_parts 57 = .ok (.iconst 0, 1) := by decide +kernel
theorem dX12_parts_58 : decode cX12_parts 58 = .ok (.iload 4, 2) := by decide +kernel
theorem dX12_parts_60 : decode cX12_parts 60 = .ok (.invokevirtual 188, 3) := by decide +kernel
theorem dX12_parts_63 : decode cX12_parts 63 = .ok (.iconst 0, 1) := by decide +kernel
theorem dX12_parts_64 : decode cX12_parts 64 = .ok (.istore 5, 2) := by decide +kernel
theorem dX12_parts_66 : decode cX12_parts 66 = .ok (.iload 5, 2) := by decide +kernel
theorem dX12_parts_68 : decode cX12_parts 68 = .ok (.bipush 96, 2) := by decide +kernel
theorem dX12_parts_70 : decode cX12_parts 70 = .ok (.if_icmp .ge 108, 3) := by decide +kernel
theorem dX12_parts_73 : decode cX12_parts 73 = .ok (.iload 5, 2) := by decide +kernel
theorem dX12_parts_75 : decode cX12_parts 75 = .ok (.bipush 16, 2) := by decide +kernel
theorem dX12_parts_77 : decode cX12_parts 77 = .ok (.irem, 1) := by decide +kernel
theorem dX12_parts_78 : decode cX12_parts 78 = .ok (.aload_n 0, 1) := by decide +kernel
theorem dX12_parts_79 : decode cX12_parts 79 = .ok (.getfield 7, 3) := by decide +kernel
theorem dX12_parts_82 : decode cX12_parts 82 = .ok (.iconst 1, 1) := by decide +kernel
theorem dX12_parts_83 : decode cX12_parts 83 = .ok (.iaload, 1) := by decide +kernel
theorem dX12_parts_84 : decode cX12_parts 84 = .ok (.if_icmp .ge 29, 3) := by decide +kernel
theorem dX12_parts_87 : decode cX12_parts 87 = .ok (.aload_n 0, 1) := by decide +kernel
theorem dX12_parts_88 : decode cX12_parts 88 = .ok (.iload_n 1, 1) := by decide +kernel
theorem dX12_parts_89 : decode cX12_parts 89 = .ok (.iload 5, 2) := by decide +kernel
theorem dX12_parts_91 : decode cX12_parts 91 = .ok (.bipush 32, 2) := by decide +kernel
theorem dX12_parts_93 : decode cX12_parts 93 = .ok (.idiv, 1) := by decide +kernel
theorem dX12_parts_94 : decode cX12_parts 94 = .ok (.iconst (-1), 1) := by decide +kernel
theorem dX12_parts_95 : decode cX12_parts 95 = .ok (.iload 5, 2) := by decide +kernel
theorem dX12_parts_97 : decode cX12_parts 97 = .ok (.bipush 16, 2) := by decide +kernel
theorem dX12_parts_99 : decode cX12_parts 99 = .ok (.idiv, 1) := by decide +kernel
theorem dX12_parts_100 : decode cX12_parts 100 = .ok (.iconst 2, 1) := by decide +kernel
theorem dX12_parts_101 : decode cX12_parts 101 = .ok (.irem, 1) := by decide +kernel
theorem dX12_parts_102 : decode cX12_parts 102 = .ok (.iload 5, 2) := by decide +kernel
theorem dX12_parts_104 : decode cX12_parts 104 = .ok (.bipush 16, 2) := by decide +kernel
theorem dX12_parts_106 : decode cX12_parts 106 = .ok (.irem, 1) := by decide +kernel
theorem dX12_parts_107 : decode cX12_parts 107 = .ok (.invokevirtual 471, 3) := by decide +kernel
theorem dX12_parts_110 : decode cX12_parts 110 = .ok (.goto 4, 3) := by decide +kernel
theorem dX12_parts_113 : decode cX12_parts 113 = .ok (.iconst 0, 1) := by decide +kernel
theorem dX12_parts_114 : decode cX12_parts 114 = .ok (.istore 6, 2) := by decide +kernel
theorem dX12_parts_116 : decode cX12_parts 116 = .ok (.aload_n 0, 1) := by decide +kernel
theorem dX12_parts_117 : decode cX12_parts 117 = .ok (.getfield 142, 3) := by decide +kernel
theorem dX12_parts_120 : decode cX12_parts 120 = .ok (.iload 5, 2) := by decide +kernel
theorem dX12_parts_122 : decode cX12_parts 122 = .ok (.iload_n 3, 1) := by decide +kernel
theorem dX12_parts_123 : decode cX12_parts 123 = .ok (.ifCond .eq 18, 3) := by decide +kernel
theorem dX12_parts_126 : decode cX12_parts 126 = .ok (.aload_n 0, 1) := by decide +kernel
theorem dX12_parts_127 : decode cX12_parts 127 = .ok (.getfield 142, 3) := by decide +kernel
theorem dX12_parts_130 : decode cX12_parts 130 = .ok (.iload 5, 2) := by decide +kernel
theorem dX12_parts_132 : decode cX12_parts 132 = .ok (.iaload, 1) := by decide +kernel
theorem dX12_parts_133 : decode cX12_parts 133 = .ok (.iload 6, 2) := by decide +kernel
theorem dX12_parts_135 : decode cX12_parts 135 = .ok (.invokestatic 428, 3) := by decide +kernel
theorem dX12_parts_138 : decode cX12_parts 138 = .ok (.goto 5, 3) := by decide +kernel
theorem dX12_parts_141 : decode cX12_parts 141 = .ok (.iload 6, 2) := by decide +kernel
theorem dX12_parts_143 : decode cX12_parts 143 = .ok (.iastore, 1) := by decide +kernel
theorem dX12_parts_144 : decode cX12_parts 144 = .ok (.aload_n 0, 1) := by decide +kernel
theorem dX12_parts_145 : decode cX12_parts 145 = .ok (.getfield 145, 3) := by decide +kernel
theorem dX12_parts_148 : decode cX12_parts 148 = .ok (.iload 5, 2) := by decide +kernel
theorem dX12_parts_150 : decode cX12_parts 150 = .ok (.iload_n 3, 1) := by decide +kernel
theorem dX12_parts_151 : decode cX12_parts 151 = .ok (.ifCond .eq 18, 3) := by decide +kernel
theorem dX12_parts_154 : decode cX12_parts 154 = .ok (.aload_n 0, 1) := by decide +kernel
theorem dX12_parts_155 : decode cX12_parts 155 = .ok (.getfield 145, 3) := by decide +kernel
theorem dX12_parts_158 : decode cX12_parts 158 = .ok (.iload 5, 2) := by decide +kernel
theorem dX12_parts_160 : decode cX12_parts 160 = .ok (.iaload, 1) := by decide +kernel
theorem dX12_parts_161 : decode cX12_parts 161 = .ok (.iload 6, 2) := by decide +kernel
theorem dX12_parts_163 : decode cX12_parts 163 = .ok (.invokestatic 410, 3) := by decide +kernel
theorem dX12_parts_166 : decode cX12_parts 166 = .ok (.goto 5, 3) := by decide +kernel
theorem dX12_parts_169 : decode cX12_parts 169 = .ok (.iload 6, 2) := by decide +kernel
theorem dX12_parts_171 : decode cX12_parts 171 = .ok (.iastore, 1) := by decide +kernel
theorem dX12_parts_172 : decode cX12_parts 172 = .ok (.iinc 5 1, 3) := by decide +kernel
theorem dX12_parts_175 : decode cX12_parts 175 = .ok (.goto (-109), 3) := by decide +kernel
theorem dX12_parts_178 : decode cX12_parts 178 = .ok (.iconst 1, 1) := by decide +kernel
theorem dX12_parts_179 : decode cX12_parts 179 = .ok (.istore_n 3, 1) := by decide +kernel
theorem dX12_parts_180 : decode cX12_parts 180 = .ok (.iinc 4 1, 3) := by decide +kernel
theorem dX12_parts_183 : decode cX12_parts 183 = .ok (.goto (-157), 3) := by decide +kernel
theorem dX12_parts_186 : decode cX12_parts 186 = .ok (.iconst (-1), 1) := by decide +kernel
theorem dX12_parts_187 : decode cX12_parts 187 = .ok (.istore 4, 2) := by decide +kernel
theorem dX12_parts_189 : decode cX12_parts 189 = .ok (.iconst 0, 1) := by decide +kernel
theorem dX12_parts_190 : decode cX12_parts 190 = .ok (.istore 5, 2) := by decide +kernel
theorem dX12_parts_192 : decode cX12_parts 192 = .ok (.iconst 0, 1) := by decide +kernel
theorem dX12_parts_193 : decode cX12_parts 193 = .ok (.istore 6, 2) := by decide +kernel
theorem dX12_parts_195 : decode cX12_parts 195 = .ok (.iload 6, 2) := by decide +kernel
theorem dX12_parts_197 : decode cX12_parts 197 = .ok (.bipush 96, 2) := by decide +kernel
theorem dX12_parts_199 : decode cX12_parts 199 = .ok (.if_icmp .ge 54, 3) := by decide +kernel
theorem dX12_parts_202 : decode cX12_parts 202 = .ok (.iload_n 3, 1) := by decide +kernel
theorem dX12_parts_203 : decode cX12_parts 203 = .ok (.ifCond .eq 50, 3) := by decide +kernel
theorem dX12_parts_206 : decode cX12_parts 206 = .ok (.aload_n 0, 1) := by decide +kernel
theorem dX12_parts_207 : decode cX12_parts 207 = .ok (.getfield 145, 3) := by decide +kernel
theorem dX12_parts_210 : decode cX12_parts 210 = .ok (.iload 6, 2) := by decide +kernel
theorem dX12_parts_212 : decode cX12_parts 212 = .ok (.iaload, 1) := by decide +kernel
theorem dX12_parts_213 : decode cX12_parts 213 = .ok (.aload_n 0, 1) := by decide +kernel
theorem dX12_parts_214 : decode cX12_parts 214 = .ok (.getfield 142, 3) := by decide +kernel
theorem dX12_parts_217 : decode cX12_parts 217 = .ok (.iload 6, 2) := by decide +kernel
theorem dX12_parts_219 : decode cX12_parts 219 = .ok (.iaload, 1) := by decide +kernel
theorem dX12_parts_220 : decode cX12_parts 220 = .ok (.isub, 1) := by decide +kernel
theorem dX12_parts_221 : decode cX12_parts 221 = .ok (.iload 5, 2) := by decide +kernel
theorem dX12_parts_223 : decode cX12_parts 223 = .ok (.if_icmp .le 24, 3) := by decide +kernel
theorem dX12_parts_226 : decode cX12_parts 226 = .ok (.aload_n 0, 1) := by decide +kernel
theorem dX12_parts_227 : decode cX12_parts 227 = .ok (.getfield 145, 3) := by decide +kernel
theorem dX12_parts_230 : decode cX12_parts 230 = .ok (.iload 6, 2) := by decide +kernel
theorem dX12_parts_232 : decode cX12_parts 232 = .ok (.iaload, 1) := by decide +kernel
theorem dX12_parts_233 : decode cX12_parts 233 = .ok (.aload_n 0, 1) := by decide +kernel
theorem dX12_parts_234 : decode cX12_parts 234 = .ok (.getfield 142, 3) := by decide +kernel
theorem dX12_parts_237 : decode cX12_parts 237 = .ok (.iload 6, 2) := by decide +kernel
theorem dX12_parts_239 : decode cX12_parts 239 = .ok (.iaload, 1) := by decide +kernel
theorem dX12_parts_240 : decode cX12_parts 240 = .ok (.isub, 1) := by decide +kernel
theorem dX12_parts_241 : decode cX12_parts 241 = .ok (.istore 5, 2) := by decide +kernel
theorem dX12_parts_243 : decode cX12_parts 243 = .ok (.iload 6, 2) := by decide +kernel
theorem dX12_parts_245 : decode cX12_parts 245 = .ok (.istore 4, 2) := by decide +kernel
theorem dX12_parts_247 : decode cX12_parts 247 = .ok (.iinc 6 1, 3) := by decide +kernel
theorem dX12_parts_250 : decode cX12_parts 250 = .ok (.goto (-55), 3) := by decide +kernel
theorem dX12_parts_253 : decode cX12_parts 253 = .ok (.iload 4, 2) := by decide +kernel
theorem dX12_parts_255 : decode cX12_parts 255 = .ok (.iconst (-1), 1) := by decide +kernel
theorem dX12_parts_256 : decode cX12_parts 256 = .ok (.if_icmp .ne 7, 3) := by decide +kernel
theorem dX12_parts_259 : decode cX12_parts 259 = .ok (.iconst (-1), 1) := by decide +kernel
theorem dX12_parts_260 : decode cX12_parts 260 = .ok (.goto 45, 3) := by decide +kernel
theorem dX12_parts_263 : decode cX12_parts 263 = .ok (.iload_n 2, 1) := by decide +kernel
theorem dX12_parts_264 : decode cX12_parts 264 = .ok (.ifCond .ne 11, 3) := by decide +kernel
theorem dX12_parts_267 : decode cX12_parts 267 = .ok (.iload 4, 2) := by decide +kernel
theorem dX12_parts_269 : decode cX12_parts 269 = .ok (.bipush 32, 2) := by decide +kernel
theorem dX12_parts_271 : decode cX12_parts 271 = .ok (.idiv, 1) := by decide +kernel
theorem dX12_parts_272 : decode cX12_parts 272 = .ok (.goto 33, 3) := by decide +kernel
theorem dX12_parts_275 : decode cX12_parts 275 = .ok (.iload_n 2, 1) := by decide +kernel
theorem dX12_parts_276 : decode cX12_parts 276 = .ok (.iconst 1, 1) := by decide +kernel
theorem dX12_parts_277 : decode cX12_parts 277 = .ok (.if_icmp .ne 13, 3) := by decide +kernel
theorem dX12_parts_280 : decode cX12_parts 280 = .ok (.iload 4, 2) := by decide +kernel
theorem dX12_parts_282 : decode cX12_parts 282 = .ok (.bipush 16, 2) := by decide +kernel
theorem dX12_parts_284 : decode cX12_parts 284 = .ok (.idiv, 1) := by decide +kernel
theorem dX12_parts_285 : decode cX12_parts 285 = .ok (.iconst 2, 1) := by decide +kernel
theorem dX12_parts_286 : decode cX12_parts 286 = .ok (.irem, 1) := by decide +kernel
theorem dX12_parts_287 : decode cX12_parts 287 = .ok (.goto 18, 3) := by decide +kernel
theorem dX12_parts_290 : decode cX12_parts 290 = .ok (.iload_n 2, 1) := by decide +kernel
theorem dX12_parts_291 : decode cX12_parts 291 = .ok (.iconst 2, 1) := by decide +kernel
theorem dX12_parts_292 : decode cX12_parts 292 = .ok (.if_icmp .ne 11, 3) := by decide +kernel
theorem dX12_parts_295 : decode cX12_parts 295 = .ok (.iload 4, 2) := by decide +kernel
theorem dX12_parts_297 : decode cX12_parts 297 = .ok (.bipush 16, 2) := by decide +kernel
theorem dX12_parts_299 : decode cX12_parts 299 = .ok (.irem, 1) := by decide +kernel
theorem dX12_parts_300 : decode cX12_parts 300 = .ok (.goto 5, 3) := by decide +kernel
theorem dX12_parts_303 : decode cX12_parts 303 = .ok (.iload 5, 2) := by decide +kernel
theorem dX12_parts_305 : decode cX12_parts 305 = .ok (.ireturn, 1) := by decide +kernel
theorem dX12_image_0 : decode cX12_image 0 = .ok (.aload_n 0, 1) := by decide +kernel
theorem dX12_image_1 : decode cX12_image 1 = .ok (.iconst 1, 1) := by decide +kernel
theorem dX12_image_2 : decode cX12_image 2 = .ok (.invokevirtual 148, 3) := by decide +kernel
theorem dX12_image_5 : decode cX12_image 5 = .ok (.aload_n 0, 1) := by decide +kernel
theorem dX12_image_6 : decode cX12_image 6 = .ok (.getfield 7, 3) := by decide +kernel
theorem dX12_image_9 : decode cX12_image 9 = .ok (.iconst 0, 1) := by decide +kernel
theorem dX12_image_10 : decode cX12_image 10 = .ok (.iaload, 1) := by decide +kernel
theorem dX12_image_11 : decode cX12_image 11 = .ok (.ireturn, 1) := by decide +kernel
theorem dX12_back_0 : decode cX12_back 0 = .ok (.aload_n 0, 1) := by decide +kernel
theorem dX12_back_1 : decode cX12_back 1 = .ok (.iconst 0, 1) := by decide +kernel
theorem dX12_back_2 : decode cX12_back 2 = .ok (.invokevirtual 148, 3) := by decide +kernel
theorem dX12_back_5 : decode cX12_back 5 = .ok (.aload_n 0, 1) := by decide +kernel
theorem dX12_back_6 : decode cX12_back 6 = .ok (.getfield 7, 3) := by decide +kernel
theorem dX12_back_9 : decode cX12_back 9 = .ok (.iconst 0, 1) := by decide +kernel
theorem dX12_back_10 : decode cX12_back 10 = .ok (.iaload, 1) := by decide +kernel
theorem dX12_back_11 : decode cX12_back 11 = .ok (.ireturn, 1) := by decide +kernel
theorem dX12_about_0 : decode cX12_about 0 = .ok (.iload_n 1, 1) := by decide +kernel
theorem dX12_about_1 : decode cX12_about 1 = .ok (.tableswitch 102 0 7 #[47, 54, 61, 68, 75, 82, 89, 94], 47) := by decide +kernel
theorem dX12_about_48 : decode cX12_about 48 = .ok (.aload_n 0, 1) := by decide +kernel
theorem dX12_about_49 : decode cX12_about 49 = .ok (.getfield 7, 3) := by decide +kernel
theorem dX12_about_52 : decode cX12_about 52 = .ok (.iconst 0, 1) := by decide +kernel
theorem dX12_about_53 : decode cX12_about 53 = .ok (.iaload, 1) := by decide +kernel
theorem dX12_about_54 : decode cX12_about 54 = .ok (.ireturn, 1) := by decide +kernel
theorem dX12_about_55 : decode cX12_about 55 = .ok (.aload_n 0, 1) := by decide +kernel
theorem dX12_about_56 : decode cX12_about 56 = .ok (.getfield 7, 3) := by decide +kernel
theorem dX12_about_59 : decode cX12_about 59 = .ok (.iconst 1, 1) := by decide +kernel
theorem dX12_about_60 : decode cX12_about 60 = .ok (.iaload, 1) := by decide +kernel
theorem dX12_about_61 : decode cX12_about 61 = .ok (.ireturn, 1) := by decide +kernel
theorem dX12_about_62 : decode cX12_about 62 = .ok (.aload_n 0, 1) := by decide +kernel
theorem dX12_about_63 : decode cX12_about 63 = .ok (.getfield 7, 3) := by decide +kernel
theorem dX12_about_66 : decode cX12_about 66 = .ok (.iconst 2, 1) := by decide +kernel
theorem dX12_about_67 : decode cX12_about 67 = .ok (.iaload, 1) := by decide +kernel
theorem dX12_about_68 : decode cX12_about 68 = .ok (.ireturn, 1) := by decide +kernel
theorem dX12_about_69 : decode cX12_about 69 = .ok (.aload_n 0, 1) := by decide +kernel
theorem dX12_about_70 : decode cX12_about 70 = .ok (.getfield 7, 3) := by decide +kernel
theorem dX12_about_73 : decode cX12_about 73 = .ok (.iconst 3, 1) := by decide +kernel
theorem dX12_about_74 : decode cX12_about 74 = .ok (.iaload, 1) := by decide +kernel
theorem dX12_about_75 : decode cX12_about 75 = .ok (.ireturn, 1) := by decide +kernel
theorem dX12_about_76 : decode cX12_about 76 = .ok (.aload_n 0, 1) := by decide +kernel
theorem dX12_about_77 : decode cX12_about 77 = .ok (.getfield 7, 3) := by decide +kernel
theorem dX12_about_80 : decode cX12_about 80 = .ok (.iconst 4, 1) := by decide +kernel
theorem dX12_about_81 : decode cX12_about 81 = .ok (.iaload, 1) := by decide +kernel
theorem dX12_about_82 : decode cX12_about 82 = .ok (.ireturn, 1) := by decide +kernel
theorem dX12_about_83 : decode cX12_about 83 = .ok (.aload_n 0, 1) := by decide +kernel
theorem dX12_about_84 : decode cX12_about 84 = .ok (.getfield 7, 3) := by decide +kernel
theorem dX12_about_87 : decode cX12_about 87 = .ok (.iconst 5, 1) := by decide +kernel
theorem dX12_about_88 : decode cX12_about 88 = .ok (.iaload, 1) := by decide +kernel
theorem dX12_about_89 : decode cX12_about 89 = .ok (.ireturn, 1) := by decide +kernel
theorem dX12_about_90 : decode cX12_about 90 = .ok (.aload_n 0, 1) := by decide +kernel
theorem dX12_about_91 : decode cX12_about 91 = .ok (.getfield 210, 3) := by decide +kernel
theorem dX12_about_94 : decode cX12_about 94 = .ok (.ireturn, 1) := by decide +kernel
theorem dX12_about_95 : decode cX12_about 95 = .ok (.aload_n 0, 1) := by decide +kernel
theorem dX12_about_96 : decode cX12_about 96 = .ok (.getfield 7, 3) := by decide +kernel
theorem dX12_about_99 : decode cX12_about 99 = .ok (.bipush 6, 2) := by decide +kernel
theorem dX12_about_101 : decode cX12_about 101 = .ok (.iaload, 1) := by decide +kernel
theorem dX12_about_102 : decode cX12_about 102 = .ok (.ireturn, 1) := by decide +kernel
theorem dX12_about_103 : decode cX12_about 103 = .ok (.iload_n 1, 1) := by decide +kernel
theorem dX12_about_104 : decode cX12_about 104 = .ok (.bipush 10, 2) := by decide +kernel
theorem dX12_about_106 : decode cX12_about 106 = .ok (.bipush 11, 2) := by decide +kernel
theorem dX12_about_108 : decode cX12_about 108 = .ok (.invokestatic 152, 3) := by decide +kernel
theorem dX12_about_111 : decode cX12_about 111 = .ok (.ifCond .eq 18, 3) := by decide +kernel
theorem dX12_about_114 : decode cX12_about 114 = .ok (.aload_n 0, 1) := by decide +kernel
theorem dX12_about_115 : decode cX12_about 115 = .ok (.getfield 7, 3) := by decide +kernel
theorem dX12_about_118 : decode cX12_about 118 = .ok (.bipush 7, 2) := by decide +kernel
theorem dX12_about_120 : decode cX12_about 120 = .ok (.iload_n 1, 1) := by decide +kernel
theorem dX12_about_121 : decode cX12_about 121 = .ok (.iadd, 1) := by decide +kernel
theorem dX12_about_122 : decode cX12_about 122 = .ok (.bipush 10, 2) := by decide +kernel
theorem dX12_about_124 : decode cX12_about 124 = .ok (.isub, 1) := by decide +kernel
theorem dX12_about_125 : decode cX12_about 125 = .ok (.iaload, 1) := by decide +kernel
theorem dX12_about_126 : decode cX12_about 126 = .ok (.goto 30, 3) := by decide +kernel
theorem dX12_about_129 : decode cX12_about 129 = .ok (.iload_n 1, 1) := by decide +kernel
theorem dX12_about_130 : decode cX12_about 130 = .ok (.bipush 20, 2) := by decide +kernel
theorem dX12_about_132 : decode cX12_about 132 = .ok (.bipush 31, 2) := by decide +kernel
theorem dX12_about_134 : decode cX12_about 134 = .ok (.invokestatic 152, 3) := by decide +kernel
theorem dX12_about_137 : decode cX12_about 137 = .ok (.ifCond .eq 18, 3) := by decide +kernel
theorem dX12_about_140 : decode cX12_about 140 = .ok (.aload_n 0, 1) := by decide +kernel
theorem dX12_about_141 : decode cX12_about 141 = .ok (.getfield 7, 3) := by decide +kernel
theorem dX12_about_144 : decode cX12_about 144 = .ok (.bipush 10, 2) := by decide +kernel
theorem dX12_about_146 : decode cX12_about 146 = .ok (.iload_n 1, 1) := by decide +kernel
theorem dX12_about_147 : decode cX12_about 147 = .ok (.iadd, 1) := by decide +kernel
theorem dX12_about_148 : decode cX12_about 148 = .ok (.bipush 20, 2) := by decide +kernel
theorem dX12_about_150 : decode cX12_about 150 = .ok (.isub, 1) := by decide +kernel
theorem dX12_about_151 : decode cX12_about 151 = .ok (.iaload, 1) := by decide +kernel
theorem dX12_about_152 : decode cX12_about 152 = .ok (.goto 4, 3) := by decide +kernel
theorem dX12_about_155 : decode cX12_about 155 = .ok (.iconst (-1), 1) := by decide +kernel
theorem dX12_about_156 : decode cX12_about 156 = .ok (.ireturn, 1) := by decide +kernel
theorem dL_law_0 : decode cL_law 0 = .ok (.new 7, 3) := by decide +kernel
theorem dL_law_3 : decode cL_law 3 = .ok (.dup, 1) := by decide +kernel
theorem dL_law_4 : decode cL_law 4 = .ok (.invokespecial 9, 3) := by decide +kernel
theorem dL_law_7 : decode cL_law 7 = .ok (.astore_n 1, 1) := by decide +kernel
theorem dL_law_8 : decode cL_law 8 = .ok (.new 10, 3) := by decide +kernel
theorem dL_law_11 : decode cL_law 11 = .ok (.dup, 1) := by decide +kernel
theorem dL_law_12 : decode cL_law 12 = .ok (.invokespecial 12, 3) := by decide +kernel
theorem dL_law_15 : decode cL_law 15 = .ok (.astore_n 2, 1) := by decide +kernel
theorem dL_law_16 : decode cL_law 16 = .ok (.iconst 0, 1) := by decide +kernel
theorem dL_law_17 : decode cL_law 17 = .ok (.istore_n 3, 1) := by decide +kernel
theorem dL_law_18 : decode cL_law 18 = .ok (.iload_n 3, 1) := by decide +kernel
theorem dL_law_19 : decode cL_law 19 = .ok (.aload_n 0, 1) := by decide +kernel
theorem dL_law_20 : decode cL_law 20 = .ok (.arraylength, 1) := by decide +kernel
theorem dL_law_21 : decode cL_law 21 = .ok (.bipush 7, 2) := by decide +kernel
theorem dL_law_23 : decode cL_law 23 = .ok (.isub, 1) := by decide +kernel
theorem dL_law_24 : decode cL_law 24 = .ok (.if_icmp .gt 1640, 3) := by decide +kernel
theorem dL_law_27 : decode cL_law 27 = .ok (.aload_n 0, 1) := by decide +kernel
theorem dL_law_28 : decode cL_law 28 = .ok (.iload_n 3, 1) := by decide +kernel
theorem dL_law_29 : decode cL_law 29 = .ok (.iaload, 1) := by decide +kernel
theorem dL_law_30 : decode cL_law 30 = .ok (.bipush 63, 2) := by decide +kernel
theorem dL_law_32 : decode cL_law 32 = .ok (.iand, 1) := by decide +kernel
theorem dL_law_33 : decode cL_law 33 = .ok (.tableswitch 1625 0 37 #[167, 230, 263, 296, 371, 394, 447, 480, 523, 586, 609, 622, 645, 678, 701, 764, 787, 840, 873, 896, 919, 952, 995, 1028, 1061, 1104, 1173, 1226, 1269, 1292, 1335, 1368, 1431, 1464, 1543, 1576, 1589, 1602], 167) := by decide +kernel
theorem dL_law_200 : decode cL_law 200 = .ok (.aload_n 1, 1) := by decide +kernel
theorem dL_law_201 : decode cL_law 201 = .ok (.aload_n 0, 1) := by decide +kernel
theorem dL_law_202 : decode cL_law 202 = .ok (.iload_n 3, 1) := by decide +kernel
theorem dL_law_203 : decode cL_law 203 = .ok (.iconst 1, 1) := by decide +kernel
theorem dL_law_204 : decode cL_law 204 = .ok (.iadd, 1) := by decide +kernel
theorem dL_law_205 : decode cL_law 205 = .ok (.iaload, 1) := by decide +kernel
theorem dL_law_206 : decode cL_law 206 = .ok (.i2l, 1) := by decide +kernel
theorem dL_law_207 : decode cL_law 207 = .ok (.bipush 32, 2) := by decide +kernel
theorem dL_law_209 : decode cL_law 209 = .ok (.lshl, 1) := by decide +kernel
theorem dL_law_210 : decode cL_law 210 = .ok (.aload_n 0, 1) := by decide +kernel
theorem dL_law_211 : decode cL_law 211 = .ok (.iload_n 3, 1) := by decide +kernel
theorem dL_law_212 : decode cL_law 212 = .ok (.iconst 2, 1) := by decide +kernel
theorem dL_law_213 : decode cL_law 213 = .ok (.iadd, 1) := by decide +kernel
theorem dL_law_214 : decode cL_law 214 = .ok (.iaload, 1) := by decide +kernel
theorem dL_law_215 : decode cL_law 215 = .ok (.i2l, 1) := by decide +kernel
theorem dL_law_216 : decode cL_law 216 = .ok (.ldc2_w 13, 3) := by decide +kernel
theorem dL_law_219 : decode cL_law 219 = .ok (.land, 1) := by decide +kernel
theorem dL_law_220 : decode cL_law 220 = .ok (.lor, 1) := by decide +kernel
theorem dL_law_221 : decode cL_law 221 = .ok (.aload_n 0, 1) := by decide +kernel
theorem dL_law_222 : decode cL_law 222 = .ok (.iload_n 3, 1) := by decide +kernel
theorem dL_law_223 : decode cL_law 223 = .ok (.iconst 3, 1) := by decide +kernel
theorem dL_law_224 : decode cL_law 224 = .ok (.iadd, 1) := by decide +kernel
theorem dL_law_225 : decode cL_law 225 = .ok (.iaload, 1) := by decide +kernel
theorem dL_law_226 : decode cL_law 226 = .ok (.invokevirtual 15, 3) := by decide +kernel
theorem dL_law_229 : decode cL_law 229 = .ok (.aload_n 2, 1) := by decide +kernel
theorem dL_law_230 : decode cL_law 230 = .ok (.aload_n 0, 1) := by decide +kernel
theorem dL_law_231 : decode cL_law 231 = .ok (.iload_n 3, 1) := by decide +kernel
theorem dL_law_232 : decode cL_law 232 = .ok (.iconst 1, 1) := by decide +kernel
theorem dL_law_233 : decode cL_law 233 = .ok (.iadd, 1) := by decide +kernel
theorem dL_law_234 : decode cL_law 234 = .ok (.iaload, 1) := by decide +kernel
theorem dL_law_235 : decode cL_law 235 = .ok (.i2l, 1) := by decide +kernel
theorem dL_law_236 : decode cL_law 236 = .ok (.bipush 32, 2) := by decide +kernel
theorem dL_law_238 : decode cL_law 238 = .ok (.lshl, 1) := by decide +kernel
theorem dL_law_239 : decode cL_law 239 = .ok (.aload_n 0, 1) := by decide +kernel
theorem dL_law_240 : decode cL_law 240 = .ok (.iload_n 3, 1) := by decide +kernel
theorem dL_law_241 : decode cL_law 241 = .ok (.iconst 2, 1) := by decide +kernel
theorem dL_law_242 : decode cL_law 242 = .ok (.iadd, 1) := by decide +kernel
theorem dL_law_243 : decode cL_law 243 = .ok (.iaload, 1) := by decide +kernel
theorem dL_law_244 : decode cL_law 244 = .ok (.i2l, 1) := by decide +kernel
theorem dL_law_245 : decode cL_law 245 = .ok (.ldc2_w 13, 3) := by decide +kernel
theorem dL_law_248 : decode cL_law 248 = .ok (.land, 1) := by decide +kernel
theorem dL_law_249 : decode cL_law 249 = .ok (.lor, 1) := by decide +kernel
theorem dL_law_250 : decode cL_law 250 = .ok (.aload_n 0, 1) := by decide +kernel
theorem dL_law_251 : decode cL_law 251 = .ok (.iload_n 3, 1) := by decide +kernel
theorem dL_law_252 : decode cL_law 252 = .ok (.iconst 3, 1) := by decide +kernel
theorem dL_law_253 : decode cL_law 253 = .ok (.iadd, 1) := by decide +kernel
theorem dL_law_254 : decode cL_law 254 = .ok (.iaload, 1) := by decide +kernel
theorem dL_law_255 : decode cL_law 255 = .ok (.invokevirtual 19, 3) := by decide +kernel
theorem dL_law_258 : decode cL_law 258 = .ok (.if_icmp .eq 1400, 3) := by decide +kernel
theorem dL_law_261 : decode cL_law 261 = .ok (.iconst 0, 1) := by decide +kernel
theorem dL_law_262 : decode cL_law 262 = .ok (.ireturn, 1) := by decide +kernel
theorem dL_law_263 : decode cL_law 263 = .ok (.aload_n 1, 1) := by decide +kernel
theorem dL_law_264 : decode cL_law 264 = .ok (.aload_n 0, 1) := by decide +kernel
theorem dL_law_265 : decode cL_law 265 = .ok (.iload_n 3, 1) := by decide +kernel
theorem dL_law_266 : decode cL_law 266 = .ok (.iconst 1, 1) := by decide +kernel
theorem dL_law_267 : decode cL_law 267 = .ok (.iadd, 1) := by decide +kernel
theorem dL_law_268 : decode cL_law 268 = .ok (.iaload, 1) := by decide +kernel
theorem dL_law_269 : decode cL_law 269 = .ok (.aload_n 0, 1) := by decide +kernel
theorem dL_law_270 : decode cL_law 270 = .ok (.iload_n 3, 1) := by decide +kernel
theorem dL_law_271 : decode cL_law 271 = .ok (.iconst 2, 1) := by decide +kernel
theorem dL_law_272 : decode cL_law 272 = .ok (.iadd, 1) := by decide +kernel
theorem dL_law_273 : decode cL_law 273 = .ok (.iaload, 1) := by decide +kernel
theorem dL_law_274 : decode cL_law 274 = .ok (.invokevirtual 20, 3) := by decide +kernel
theorem dL_law_277 : decode cL_law 277 = .ok (.aload_n 2, 1) := by decide +kernel
theorem dL_law_278 : decode cL_law 278 = .ok (.aload_n 0, 1) := by decide +kernel
theorem dL_law_279 : decode cL_law 279 = .ok (.iload_n 3, 1) := by decide +kernel
theorem dL_law_280 : decode cL_law 280 = .ok (.iconst 1, 1) := by decide +kernel
theorem dL_law_281 : decode cL_law 281 = .ok (.iadd, 1) := by decide +kernel
theorem dL_law_282 : decode cL_law 282 = .ok (.iaload, 1) := by decide +kernel
theorem dL_law_283 : decode cL_law 283 = .ok (.aload_n 0, 1) := by decide +kernel
theorem dL_law_284 : decode cL_law 284 = .ok (.iload_n 3, 1) := by decide +kernel
theorem dL_law_285 : decode cL_law 285 = .ok (.iconst 2, 1) := by decide +kernel
theorem dL_law_286 : decode cL_law 286 = .ok (.iadd, 1) := by decide +kernel
theorem dL_law_287 : decode cL_law 287 = .ok (.iaload, 1) := by decide +kernel
theorem dL_law_288 : decode cL_law 288 = .ok (.invokevirtual 24, 3) := by decide +kernel
theorem dL_law_291 : decode cL_law 291 = .ok (.if_icmp .eq 1367, 3) := by decide +kernel
theorem dL_law_294 : decode cL_law 294 = .ok (.iconst 0, 1) := by decide +kernel
theorem dL_law_295 : decode cL_law 295 = .ok (.ireturn, 1) := by decide +kernel
theorem dL_law_296 : decode cL_law 296 = .ok (.aload_n 1, 1) := by decide +kernel
theorem dL_law_297 : decode cL_law 297 = .ok (.aload_n 0, 1) := by decide +kernel
theorem dL_law_298 : decode cL_law 298 = .ok (.iload_n 3, 1) := by decide +kernel
theorem dL_law_299 : decode cL_law 299 = .ok (.iconst 1, 1) := by decide +kernel
theorem dL_law_300 : decode cL_law 300 = .ok (.iadd, 1) := by decide +kernel
theorem dL_law_301 : decode cL_law 301 = .ok (.iaload, 1) := by decide +kernel
theorem dL_law_302 : decode cL_law 302 = .ok (.aload_n 0, 1) := by decide +kernel
theorem dL_law_303 : decode cL_law 303 = .ok (.iload_n 3, 1) := by decide +kernel
theorem dL_law_304 : decode cL_law 304 = .ok (.iconst 2, 1) := by decide +kernel
theorem dL_law_305 : decode cL_law 305 = .ok (.iadd, 1) := by decide +kernel
theorem dL_law_306 : decode cL_law 306 = .ok (.iaload, 1) := by decide +kernel
theorem dL_law_307 : decode cL_law 307 = .ok (.invokevirtual 25, 3) := by decide +kernel
theorem dL_law_310 : decode cL_law 310 = .ok (.aload_n 2, 1) := by decide +kernel
theorem dL_law_311 : decode cL_law 311 = .ok (.aload_n 0, 1) := by decide +kernel
theorem dL_law_312 : decode cL_law 312 = .ok (.iload_n 3, 1) := by decide +kernel
theorem dL_law_313 : decode cL_law 313 = .ok (.iconst 1, 1) := by decide +kernel
theorem dL_law_314 : decode cL_law 314 = .ok (.iadd, 1) := by decide +kernel
theorem dL_law_315 : decode cL_law 315 = .ok (.iaload, 1) := by decide +kernel
theorem dL_law_316 : decode cL_law 316 = .ok (.aload_n 0, 1) := by decide +kernel
theorem dL_law_317 : decode cL_law 317 = .ok (.iload_n 3, 1) := by decide +kernel
theorem dL_law_318 : decode cL_law 318 = .ok (.iconst 2, 1) := by decide +kernel
theorem dL_law_319 : decode cL_law 319 = .ok (.iadd, 1) := by decide +kernel
theorem dL_law_320 : decode cL_law 320 = .ok (.iaload, 1) := by decide +kernel
theorem dL_law_321 : decode cL_law 321 = .ok (.invokevirtual 28, 3) := by decide +kernel
theorem dL_law_324 : decode cL_law 324 = .ok (.if_icmp .eq 1334, 3) := by decide +kernel
theorem dL_law_327 : decode cL_law 327 = .ok (.iconst 0, 1) := by decide +kernel
theorem dL_law_328 : decode cL_law 328 = .ok (.ireturn, 1) := by decide +kernel
theorem dL_law_329 : decode cL_law 329 = .ok (.aload_n 1, 1) := by decide +kernel
theorem dL_law_330 : decode cL_law 330 = .ok (.aload_n 0, 1) := by decide +kernel
theorem dL_law_331 : decode cL_law 331 = .ok (.iload_n 3, 1) := by decide +kernel
theorem dL_law_332 : decode cL_law 332 = .ok (.iconst 1, 1) := by decide +kernel
theorem dL_law_333 : decode cL_law 333 = .ok (.iadd, 1) := by decide +kernel
theorem dL_law_334 : decode cL_law 334 = .ok (.iaload, 1) := by decide +kernel
theorem dL_law_335 : decode cL_law 335 = .ok (.aload_n 0, 1) := by decide +kernel
theorem dL_law_336 : decode cL_law 336 = .ok (.iload_n 3, 1) := by decide +kernel
theorem dL_law_337 : decode cL_law 337 = .ok (.iconst 2, 1) := by decide +kernel
theorem dL_law_338 : decode cL_law 338 = .ok (.iadd, 1) := by decide +kernel
theorem dL_law_339 : decode cL_law 339 = .ok (.iaload, 1) := by decide +kernel
theorem dL_law_340 : decode cL_law 340 = .ok (.aload_n 0, 1) := by decide +kernel
theorem dL_law_341 : decode cL_law 341 = .ok (.iload_n 3, 1) := by decide +kernel
theorem dL_law_342 : decode cL_law 342 = .ok (.iconst 3, 1) := by decide +kernel
theorem dL_law_343 : decode cL_law 343 = .ok (.iadd, 1) := by decide +kernel
theorem dL_law_344 : decode cL_law 344 = .ok (.iaload, 1) := by decide +kernel
theorem dL_law_345 : decode cL_law 345 = .ok (.aload_n 0, 1) := by decide +kernel
theorem dL_law_346 : decode cL_law 346 = .ok (.iload_n 3, 1) := by decide +kernel
theorem dL_law_347 : decode cL_law 347 = .ok (.iconst 4, 1) := by decide +kernel
theorem dL_law_348 : decode cL_law 348 = .ok (.iadd, 1) := by decide +kernel
theorem dL_law_349 : decode cL_law 349 = .ok (.iaload, 1) := by decide +kernel
theorem dL_law_350 : decode cL_law 350 = .ok (.aload_n 0, 1) := by decide +kernel
theorem dL_law_351 : decode cL_law 351 = .ok (.iload_n 3, 1) := by decide +kernel
theorem dL_law_352 : decode cL_law 352 = .ok (.iconst 5, 1) := by decide +kernel
theorem dL_law_353 : decode cL_law 353 = .ok (.iadd, 1) := by decide +kernel
theorem dL_law_354 : decode cL_law 354 = .ok (.iaload, 1) := by decide +kernel
theorem dL_law_355 : decode cL_law 355 = .ok (.aload_n 0, 1) := by decide +kernel
theorem dL_law_356 : decode cL_law 356 = .ok (.iload_n 3, 1) := by decide +kernel
theorem dL_law_357 : decode cL_law 357 = .ok (.bipush 6, 2) := by decide +kernel
theorem dL_law_359 : decode cL_law 359 = .ok (.iadd, 1) := by decide +kernel
theorem dL_law_360 : decode cL_law 360 = .ok (.iaload, 1) := by decide +kernel
theorem dL_law_361 : decode cL_law 361 = .ok (.invokevirtual 29, 3) := by decide +kernel
theorem dL_law_364 : decode cL_law 364 = .ok (.aload_n 2, 1) := by decide +kernel
theorem dL_law_365 : decode cL_law 365 = .ok (.aload_n 0, 1) := by decide +kernel
theorem dL_law_366 : decode cL_law 366 = .ok (.iload_n 3, 1) := by decide +kernel
theorem dL_law_367 : decode cL_law 367 = .ok (.iconst 1, 1) := by decide +kernel
theorem dL_law_368 : decode cL_law 368 = .ok (.iadd, 1) := by decide +kernel
theorem dL_law_369 : decode cL_law 369 = .ok (.iaload, 1) := by decide +kernel
theorem dL_law_370 : decode cL_law 370 = .ok (.aload_n 0, 1) := by decide +kernel
theorem dL_law_371 : decode cL_law 371 = .ok (.iload_n 3, 1) := by decide +kernel
theorem dL_law_372 : decode cL_law 372 = .ok (.iconst 2, 1) := by decide +kernel
theorem dL_law_373 : decode cL_law 373 = .ok (.iadd, 1) := by decide +kernel
theorem dL_law_374 : decode cL_law 374 = .ok (.iaload, 1) := by decide +kernel
theorem dL_law_375 : decode cL_law 375 = .ok (.aload_n 0, 1) := by decide +kernel
theorem dL_law_376 : decode cL_law 376 = .ok (.iload_n 3, 1) := by decide +kernel
theorem dL_law_377 : decode cL_law 377 = .ok (.iconst 3, 1) := by decide +kernel
theorem dL_law_378 : decode cL_law 378 = .ok (.iadd, 1) := by decide +kernel
theorem dL_law_379 : decode cL_law 379 = .ok (.iaload, 1) := by decide +kernel
theorem dL_law_380 : decode cL_law 380 = .ok (.aload_n 0, 1) := by decide +kernel
theorem dL_law_381 : decode cL_law 381 = .ok (.iload_n 3, 1) := by decide +kernel
theorem dL_law_382 : decode cL_law 382 = .ok (.iconst 4, 1) := by decide +kernel
theorem dL_law_383 : decode cL_law 383 = .ok (.iadd, 1) := by decide +kernel
theorem dL_law_384 : decode cL_law 384 = .ok (.iaload, 1) := by decide +kernel
theorem dL_law_385 : decode cL_law 385 = .ok (.aload_n 0, 1) := by decide +kernel
theorem dL_law_386 : decode cL_law 386 = .ok (.iload_n 3, 1) := by decide +kernel
theorem dL_law_387 : decode cL_law 387 = .ok (.iconst 5, 1) := by decide +kernel
theorem dL_law_388 : decode cL_law 388 = .ok (.iadd, 1) := by decide +kernel
theorem dL_law_389 : decode cL_law 389 = .ok (.iaload, 1) := by decide +kernel
theorem dL_law_390 : decode cL_law 390 = .ok (.aload_n 0, 1) := by decide +kernel
theorem dL_law_391 : decode cL_law 391 = .ok (.iload_n 3, 1) := by decide +kernel
theorem dL_law_392 : decode cL_law 392 = .ok (.bipush 6, 2) := by decide +kernel
theorem dL_law_394 : decode cL_law 394 = .ok (.iadd, 1) := by decide +kernel
theorem dL_law_395 : decode cL_law 395 = .ok (.iaload, 1) := by decide +kernel
theorem dL_law_396 : decode cL_law 396 = .ok (.invokevirtual 33, 3) := by decide +kernel
theorem dL_law_399 : decode cL_law 399 = .ok (.if_icmp .eq 1259, 3) := by decide +kernel
theorem dL_law_402 : decode cL_law 402 = .ok (.iconst 0, 1) := by decide +kernel
theorem dL_law_403 : decode cL_law 403 = .ok (.ireturn, 1) := by decide +kernel
theorem dL_law_404 : decode cL_law 404 = .ok (.aload_n 1, 1) := by decide +kernel
theorem dL_law_405 : decode cL_law 405 = .ok (.aload_n 0, 1) := by decide +kernel
theorem dL_law_406 : decode cL_law 406 = .ok (.iload_n 3, 1) := by decide +kernel
theorem dL_law_407 : decode cL_law 407 = .ok (.iconst 1, 1) := by decide +kernel
theorem dL_law_408 : decode cL_law 408 = .ok (.iadd, 1) := by decide +kernel
theorem dL_law_409 : decode cL_law 409 = .ok (.iaload, 1) := by decide +kernel
theorem dL_law_410 : decode cL_law 410 = .ok (.invokevirtual 34, 3) := by decide +kernel
theorem dL_law_413 : decode cL_law 413 = .ok (.aload_n 2, 1) := by decide +kernel
theorem dL_law_414 : decode cL_law 414 = .ok (.aload_n 0, 1) := by decide +kernel
theorem dL_law_415 : decode cL_law 415 = .ok (.iload_n 3, 1) := by decide +kernel
theorem dL_law_416 : decode cL_law 416 = .ok (.iconst 1, 1) := by decide +kernel
theorem dL_law_417 : decode cL_law 417 = .ok (.iadd, 1) := by decide +kernel
theorem dL_law_418 : decode cL_law 418 = .ok (.iaload, 1) := by decide +kernel
theorem dL_law_419 : decode cL_law 419 = .ok (.invokevirtual 38, 3) := by decide +kernel
theorem dL_law_422 : decode cL_law 422 = .ok (.if_icmp .eq 1236, 3) := by decide +kernel
theorem dL_law_425 : decode cL_law 425 = .ok (.iconst 0, 1) := by decide +kernel
theorem dL_law_426 : decode cL_law 426 = .ok (.ireturn, 1) := by decide +kernel
theorem dL_law_427 : decode cL_law 427 = .ok (.aload_n 1, 1) := by decide +kernel
theorem dL_law_428 : decode cL_law 428 = .ok (.aload_n 0, 1) := by decide +kernel
theorem dL_law_429 : decode cL_law 429 = .ok (.iload_n 3, 1) := by decide +kernel
theorem dL_law_430 : decode cL_law 430 = .ok (.iconst 1, 1) := by decide +kernel
theorem dL_law_431 : decode cL_law 431 = .ok (.iadd, 1) := by decide +kernel
theorem dL_law_432 : decode cL_law 432 = .ok (.iaload, 1) := by decide +kernel
theorem dL_law_433 : decode cL_law 433 = .ok (.aload_n 0, 1) := by decide +kernel
theorem dL_law_434 : decode cL_law 434 = .ok (.iload_n 3, 1) := by decide +kernel
theorem dL_law_435 : decode cL_law 435 = .ok (.iconst 2, 1) := by decide +kernel
theorem dL_law_436 : decode cL_law 436 = .ok (.iadd, 1) := by decide +kernel
theorem dL_law_437 : decode cL_law 437 = .ok (.iaload, 1) := by decide +kernel
theorem dL_law_438 : decode cL_law 438 = .ok (.aload_n 0, 1) := by decide +kernel
theorem dL_law_439 : decode cL_law 439 = .ok (.iload_n 3, 1) := by decide +kernel
theorem dL_law_440 : decode cL_law 440 = .ok (.iconst 3, 1) := by decide +kernel
theorem dL_law_441 : decode cL_law 441 = .ok (.iadd, 1) := by decide +kernel
theorem dL_law_442 : decode cL_law 442 = .ok (.iaload, 1) := by decide +kernel
theorem dL_law_443 : decode cL_law 443 = .ok (.aload_n 0, 1) := by decide +kernel
theorem dL_law_444 : decode cL_law 444 = .ok (.iload_n 3, 1) := by decide +kernel
theorem dL_law_445 : decode cL_law 445 = .ok (.iconst 4, 1) := by decide +kernel
theorem dL_law_446 : decode cL_law 446 = .ok (.iadd, 1) := by decide +kernel
theorem dL_law_447 : decode cL_law 447 = .ok (.iaload, 1) := by decide +kernel
theorem dL_law_448 : decode cL_law 448 = .ok (.invokevirtual 39, 3) := by decide +kernel
theorem dL_law_451 : decode cL_law 451 = .ok (.aload_n 2, 1) := by decide +kernel
theorem dL_law_452 : decode cL_law 452 = .ok (.aload_n 0, 1) := by decide +kernel
theorem dL_law_453 : decode cL_law 453 = .ok (.iload_n 3, 1) := by decide +kernel
theorem dL_law_454 : decode cL_law 454 = .ok (.iconst 1, 1) := by decide +kernel
theorem dL_law_455 : decode cL_law 455 = .ok (.iadd, 1) := by decide +kernel
theorem dL_law_456 : decode cL_law 456 = .ok (.iaload, 1) := by decide +kernel
theorem dL_law_457 : decode cL_law 457 = .ok (.aload_n 0, 1) := by decide +kernel
theorem dL_law_458 : decode cL_law 458 = .ok (.iload_n 3, 1) := by decide +kernel
theorem dL_law_459 : decode cL_law 459 = .ok (.iconst 2, 1) := by decide +kernel
theorem dL_law_460 : decode cL_law 460 = .ok (.iadd, 1) := by decide +kernel
theorem dL_law_461 : decode cL_law 461 = .ok (.iaload, 1) := by decide +kernel
theorem dL_law_462 : decode cL_law 462 = .ok (.aload_n 0, 1) := by decide +kernel
theorem dL_law_463 : decode cL_law 463 = .ok (.iload_n 3, 1) := by decide +kernel
theorem dL_law_464 : decode cL_law 464 = .ok (.iconst 3, 1) := by decide +kernel
theorem dL_law_465 : decode cL_law 465 = .ok (.iadd, 1) := by decide +kernel
theorem dL_law_466 : decode cL_law 466 = .ok (.iaload, 1) := by decide +kernel
theorem dL_law_467 : decode cL_law 467 = .ok (.aload_n 0, 1) := by decide +kernel
theorem dL_law_468 : decode cL_law 468 = .ok (.iload_n 3, 1) := by decide +kernel
theorem dL_law_469 : decode cL_law 469 = .ok (.iconst 4, 1) := by decide +kernel
theorem dL_law_470 : decode cL_law 470 = .ok (.iadd, 1) := by decide +kernel
theorem dL_law_471 : decode cL_law 471 = .ok (.iaload, 1) := by decide +kernel
theorem dL_law_472 : decode cL_law 472 = .ok (.invokevirtual 43, 3) := by decide +kernel
theorem dL_law_475 : decode cL_law 475 = .ok (.if_icmp .eq 1183, 3) := by decide +kernel
theorem dL_law_478 : decode cL_law 478 = .ok (.iconst 0, 1) := by decide +kernel
theorem dL_law_479 : decode cL_law 479 = .ok (.ireturn, 1) := by decide +kernel
theorem dL_law_480 : decode cL_law 480 = .ok (.aload_n 1, 1) := by decide +kernel
theorem dL_law_481 : decode cL_law 481 = .ok (.aload_n 0, 1) := by decide +kernel
theorem dL_law_482 : decode cL_law 482 = .ok (.iload_n 3, 1) := by decide +kernel
theorem dL_law_483 : decode cL_law 483 = .ok (.iconst 1, 1) := by decide +kernel
theorem dL_law_484 : decode cL_law 484 = .ok (.iadd, 1) := by decide +kernel
theorem dL_law_485 : decode cL_law 485 = .ok (.iaload, 1) := by decide +kernel
theorem dL_law_486 : decode cL_law 486 = .ok (.aload_n 0, 1) := by decide +kernel
theorem dL_law_487 : decode cL_law 487 = .ok (.iload_n 3, 1) := by decide +kernel
theorem dL_law_488 : decode cL_law 488 = .ok (.iconst 2, 1) := by decide +kernel
theorem dL_law_489 : decode cL_law 489 = .ok (.iadd, 1) := by decide +kernel
theorem dL_law_490 : decode cL_law 490 = .ok (.iaload, 1) := by decide +kernel
theorem dL_law_491 : decode cL_law 491 = .ok (.invokevirtual 44, 3) := by decide +kernel
theorem dL_law_494 : decode cL_law 494 = .ok (.aload_n 2, 1) := by decide +kernel
theorem dL_law_495 : decode cL_law 495 = .ok (.aload_n 0, 1) := by decide +kernel
theorem dL_law_496 : decode cL_law 496 = .ok (.iload_n 3, 1) := by decide +kernel
theorem dL_law_497 : decode cL_law 497 = .ok (.iconst 1, 1) := by decide +kernel
theorem dL_law_498 : decode cL_law 498 = .ok (.iadd, 1) := by decide +kernel
theorem dL_law_499 : decode cL_law 499 = .ok (.iaload, 1) := by decide +kernel
theorem dL_law_500 : decode cL_law 500 = .ok (.aload_n 0, 1) := by decide +kernel
theorem dL_law_501 : decode cL_law 501 = .ok (.iload_n 3, 1) := by decide +kernel
theorem dL_law_502 : decode cL_law 502 = .ok (.iconst 2, 1) := by decide +kernel
theorem dL_law_503 : decode cL_law 503 = .ok (.iadd, 1) := by decide +kernel
theorem dL_law_504 : decode cL_law 504 = .ok (.iaload, 1) := by decide +kernel
theorem dL_law_505 : decode cL_law 505 = .ok (.invokevirtual 47, 3) := by decide +kernel
theorem dL_law_508 : decode cL_law 508 = .ok (.if_icmp .eq 1150, 3) := by decide +kernel
theorem dL_law_511 : decode cL_law 511 = .ok (.iconst 0, 1) := by decide +kernel
theorem dL_law_512 : decode cL_law 512 = .ok (.ireturn, 1) := by decide +kernel
theorem dL_law_513 : decode cL_law 513 = .ok (.aload_n 1, 1) := by decide +kernel
theorem dL_law_514 : decode cL_law 514 = .ok (.aload_n 0, 1) := by decide +kernel
theorem dL_law_515 : decode cL_law 515 = .ok (.iload_n 3, 1) := by decide +kernel
theorem dL_law_516 : decode cL_law 516 = .ok (.iconst 1, 1) := by decide +kernel
theorem dL_law_517 : decode cL_law 517 = .ok (.iadd, 1) := by decide +kernel
theorem dL_law_518 : decode cL_law 518 = .ok (.iaload, 1) := by decide +kernel
theorem dL_law_519 : decode cL_law 519 = .ok (.aload_n 0, 1) := by decide +kernel
theorem dL_law_520 : decode cL_law 520 = .ok (.iload_n 3, 1) := by decide +kernel
theorem dL_law_521 : decode cL_law 521 = .ok (.iconst 2, 1) := by decide +kernel
theorem dL_law_522 : decode cL_law 522 = .ok (.iadd, 1) := by decide +kernel
theorem dL_law_523 : decode cL_law 523 = .ok (.iaload, 1) := by decide +kernel
theorem dL_law_524 : decode cL_law 524 = .ok (.aload_n 0, 1) := by decide +kernel
theorem dL_law_525 : decode cL_law 525 = .ok (.iload_n 3, 1) := by decide +kernel
theorem dL_law_526 : decode cL_law 526 = .ok (.iconst 3, 1) := by decide +kernel
theorem dL_law_527 : decode cL_law 527 = .ok (.iadd, 1) := by decide +kernel
theorem dL_law_528 : decode cL_law 528 = .ok (.iaload, 1) := by decide +kernel
theorem dL_law_529 : decode cL_law 529 = .ok (.invokevirtual 48, 3) := by decide +kernel
theorem dL_law_532 : decode cL_law 532 = .ok (.aload_n 2, 1) := by decide +kernel
theorem dL_law_533 : decode cL_law 533 = .ok (.aload_n 0, 1) := by decide +kernel
theorem dL_law_534 : decode cL_law 534 = .ok (.iload_n 3, 1) := by decide +kernel
theorem dL_law_535 : decode cL_law 535 = .ok (.iconst 1, 1) := by decide +kernel
theorem dL_law_536 : decode cL_law 536 = .ok (.iadd, 1) := by decide +kernel
theorem dL_law_537 : decode cL_law 537 = .ok (.iaload, 1) := by decide +kernel
theorem dL_law_538 : decode cL_law 538 = .ok (.aload_n 0, 1) := by decide +kernel
theorem dL_law_539 : decode cL_law 539 = .ok (.iload_n 3, 1) := by decide +kernel
theorem dL_law_540 : decode cL_law 540 = .ok (.iconst 2, 1) := by decide +kernel
theorem dL_law_541 : decode cL_law 541 = .ok (.iadd, 1) := by decide +kernel
theorem dL_law_542 : decode cL_law 542 = .ok (.iaload, 1) := by decide +kernel
theorem dL_law_543 : decode cL_law 543 = .ok (.aload_n 0, 1) := by decide +kernel
theorem dL_law_544 : decode cL_law 544 = .ok (.iload_n 3, 1) := by decide +kernel
theorem dL_law_545 : decode cL_law 545 = .ok (.iconst 3, 1) := by decide +kernel
theorem dL_law_546 : decode cL_law 546 = .ok (.iadd, 1) := by decide +kernel
theorem dL_law_547 : decode cL_law 547 = .ok (.iaload, 1) := by decide +kernel
theorem dL_law_548 : decode cL_law 548 = .ok (.invokevirtual 52, 3) := by decide +kernel
theorem dL_law_551 : decode cL_law 551 = .ok (.if_icmp .eq 1107, 3) := by decide +kernel
theorem dL_law_554 : decode cL_law 554 = .ok (.iconst 0, 1) := by decide +kernel
theorem dL_law_555 : decode cL_law 555 = .ok (.ireturn, 1) := by decide +kernel
theorem dL_law_556 : decode cL_law 556 = .ok (.aload_n 1, 1) := by decide +kernel
theorem dL_law_557 : decode cL_law 557 = .ok (.aload_n 0, 1) := by decide +kernel
theorem dL_law_558 : decode cL_law 558 = .ok (.iload_n 3, 1) := by decide +kernel
theorem dL_law_559 : decode cL_law 559 = .ok (.iconst 1, 1) := by decide +kernel
theorem dL_law_560 : decode cL_law 560 = .ok (.iadd, 1) := by decide +kernel
theorem dL_law_561 : decode cL_law 561 = .ok (.iaload, 1) := by decide +kernel
theorem dL_law_562 : decode cL_law 562 = .ok (.aload_n 0, 1) := by decide +kernel
theorem dL_law_563 : decode cL_law 563 = .ok (.iload_n 3, 1) := by decide +kernel
theorem dL_law_564 : decode cL_law 564 = .ok (.iconst 2, 1) := by decide +kernel
theorem dL_law_565 : decode cL_law 565 = .ok (.iadd, 1) := by decide +kernel
theorem dL_law_566 : decode cL_law 566 = .ok (.iaload, 1) := by decide +kernel
theorem dL_law_567 : decode cL_law 567 = .ok (.aload_n 0, 1) := by decide +kernel
theorem dL_law_568 : decode cL_law 568 = .ok (.iload_n 3, 1) := by decide +kernel
theorem dL_law_569 : decode cL_law 569 = .ok (.iconst 3, 1) := by decide +kernel
theorem dL_law_570 : decode cL_law 570 = .ok (.iadd, 1) := by decide +kernel
theorem dL_law_571 : decode cL_law 571 = .ok (.iaload, 1) := by decide +kernel
theorem dL_law_572 : decode cL_law 572 = .ok (.aload_n 0, 1) := by decide +kernel
theorem dL_law_573 : decode cL_law 573 = .ok (.iload_n 3, 1) := by decide +kernel
theorem dL_law_574 : decode cL_law 574 = .ok (.iconst 4, 1) := by decide +kernel
theorem dL_law_575 : decode cL_law 575 = .ok (.iadd, 1) := by decide +kernel
theorem dL_law_576 : decode cL_law 576 = .ok (.iaload, 1) := by decide +kernel
theorem dL_law_577 : decode cL_law 577 = .ok (.aload_n 0, 1) := by decide +kernel
theorem dL_law_578 : decode cL_law 578 = .ok (.iload_n 3, 1) := by decide +kernel
theorem dL_law_579 : decode cL_law 579 = .ok (.iconst 5, 1) := by decide +kernel
theorem dL_law_580 : decode cL_law 580 = .ok (.iadd, 1) := by decide +kernel
theorem dL_law_581 : decode cL_law 581 = .ok (.iaload, 1) := by decide +kernel
theorem dL_law_582 : decode cL_law 582 = .ok (.invokevirtual 53, 3) := by decide +kernel
theorem dL_law_585 : decode cL_law 585 = .ok (.aload_n 2, 1) := by decide +kernel
theorem dL_law_586 : decode cL_law 586 = .ok (.aload_n 0, 1) := by decide +kernel
theorem dL_law_587 : decode cL_law 587 = .ok (.iload_n 3, 1) := by decide +kernel
theorem dL_law_588 : decode cL_law 588 = .ok (.iconst 1, 1) := by decide +kernel
theorem dL_law_589 : decode cL_law 589 = .ok (.iadd, 1) := by decide +kernel
theorem dL_law_590 : decode cL_law 590 = .ok (.iaload, 1) := by decide +kernel
theorem dL_law_591 : decode cL_law 591 = .ok (.aload_n 0, 1) := by decide +kernel
theorem dL_law_592 : decode cL_law 592 = .ok (.iload_n 3, 1) := by decide +kernel
theorem dL_law_593 : decode cL_law 593 = .ok (.iconst 2, 1) := by decide +kernel
theorem dL_law_594 : decode cL_law 594 = .ok (.iadd, 1) := by decide +kernel
theorem dL_law_595 : decode cL_law 595 = .ok (.iaload, 1) := by decide +kernel
theorem dL_law_596 : decode cL_law 596 = .ok (.aload_n 0, 1) := by decide +kernel
theorem dL_law_597 : decode cL_law 597 = .ok (.iload_n 3, 1) := by decide +kernel
theorem dL_law_598 : decode cL_law 598 = .ok (.iconst 3, 1) := by decide +kernel
theorem dL_law_599 : decode cL_law 599 = .ok (.iadd, 1) := by decide +kernel
theorem dL_law_600 : decode cL_law 600 = .ok (.iaload, 1) := by decide +kernel
theorem dL_law_601 : decode cL_law 601 = .ok (.aload_n 0, 1) := by decide +kernel
theorem dL_law_602 : decode cL_law 602 = .ok (.iload_n 3, 1) := by decide +kernel
theorem dL_law_603 : decode cL_law 603 = .ok (.iconst 4, 1) := by decide +kernel
theorem dL_law_604 : decode cL_law 604 = .ok (.iadd, 1) := by decide +kernel
theorem dL_law_605 : decode cL_law 605 = .ok (.iaload, 1) := by decide +kernel
theorem dL_law_606 : decode cL_law 606 = .ok (.aload_n 0, 1) := by decide +kernel
theorem dL_law_607 : decode cL_law 607 = .ok (.iload_n 3, 1) := by decide +kernel
theorem dL_law_608 : decode cL_law 608 = .ok (.iconst 5, 1) := by decide +kernel
theorem dL_law_609 : decode cL_law 609 = .ok (.iadd, 1) := by decide +kernel
theorem dL_law_610 : decode cL_law 610 = .ok (.iaload, 1) := by decide +kernel
theorem dL_law_611 : decode cL_law 611 = .ok (.invokevirtual 57, 3) := by decide +kernel
theorem dL_law_614 : decode cL_law 614 = .ok (.if_icmp .eq 1044, 3) := by decide +kernel
theorem dL_law_617 : decode cL_law 617 = .ok (.iconst 0, 1) := by decide +kernel
theorem dL_law_618 : decode cL_law 618 = .ok (.ireturn, 1) := by decide +kernel
theorem dL_law_619 : decode cL_law 619 = .ok (.aload_n 1, 1) := by decide +kernel
theorem dL_law_620 : decode cL_law 620 = .ok (.aload_n 0, 1) := by decide +kernel
theorem dL_law_621 : decode cL_law 621 = .ok (.iload_n 3, 1) := by decide +kernel
theorem dL_law_622 : decode cL_law 622 = .ok (.iconst 1, 1) := by decide +kernel
theorem dL_law_623 : decode cL_law 623 = .ok (.iadd, 1) := by decide +kernel
theorem dL_law_624 : decode cL_law 624 = .ok (.iaload, 1) := by decide +kernel
theorem dL_law_625 : decode cL_law 625 = .ok (.invokevirtual 58, 3) := by decide +kernel
theorem dL_law_628 : decode cL_law 628 = .ok (.aload_n 2, 1) := by decide +kernel
theorem dL_law_629 : decode cL_law 629 = .ok (.aload_n 0, 1) := by decide +kernel
theorem dL_law_630 : decode cL_law 630 = .ok (.iload_n 3, 1) := by decide +kernel
theorem dL_law_631 : decode cL_law 631 = .ok (.iconst 1, 1) := by decide +kernel
theorem dL_law_632 : decode cL_law 632 = .ok (.iadd, 1) := by decide +kernel
theorem dL_law_633 : decode cL_law 633 = .ok (.iaload, 1) := by decide +kernel
theorem dL_law_634 : decode cL_law 634 = .ok (.invokevirtual 62, 3) := by decide +kernel
theorem dL_law_637 : decode cL_law 637 = .ok (.if_icmp .eq 1021, 3) := by decide +kernel
theorem dL_law_640 : decode cL_law 640 = .ok (.iconst 0, 1) := by decide +kernel
theorem dL_law_641 : decode cL_law 641 = .ok (.ireturn, 1) := by decide +kernel
theorem dL_law_642 : decode cL_law 642 = .ok (.aload_n 1, 1) := by decide +kernel
theorem dL_law_643 : decode cL_law 643 = .ok (.invokevirtual 63, 3) := by decide +kernel
theorem dL_law_646 : decode cL_law 646 = .ok (.aload_n 2, 1) := by decide +kernel
theorem dL_law_647 : decode cL_law 647 = .ok (.invokevirtual 67, 3) := by decide +kernel
theorem dL_law_650 : decode cL_law 650 = .ok (.if_icmp .eq 1008, 3) := by decide +kernel
theorem dL_law_653 : decode cL_law 653 = .ok (.iconst 0, 1) := by decide +kernel
theorem dL_law_654 : decode cL_law 654 = .ok (.ireturn, 1) := by decide +kernel
theorem dL_law_655 : decode cL_law 655 = .ok (.aload_n 1, 1) := by decide +kernel
theorem dL_law_656 : decode cL_law 656 = .ok (.aload_n 0, 1) := by decide +kernel
theorem dL_law_657 : decode cL_law 657 = .ok (.iload_n 3, 1) := by decide +kernel
theorem dL_law_658 : decode cL_law 658 = .ok (.iconst 1, 1) := by decide +kernel
theorem dL_law_659 : decode cL_law 659 = .ok (.iadd, 1) := by decide +kernel
theorem dL_law_660 : decode cL_law 660 = .ok (.iaload, 1) := by decide +kernel
theorem dL_law_661 : decode cL_law 661 = .ok (.invokevirtual 68, 3) := by decide +kernel
theorem dL_law_664 : decode cL_law 664 = .ok (.aload_n 2, 1) := by decide +kernel
theorem dL_law_665 : decode cL_law 665 = .ok (.aload_n 0, 1) := by decide +kernel
theorem dL_law_666 : decode cL_law 666 = .ok (.iload_n 3, 1) := by decide +kernel
theorem dL_law_667 : decode cL_law 667 = .ok (.iconst 1, 1) := by decide +kernel
theorem dL_law_668 : decode cL_law 668 = .ok (.iadd, 1) := by decide +kernel
theorem dL_law_669 : decode cL_law 669 = .ok (.iaload, 1) := by decide +kernel
theorem dL_law_670 : decode cL_law 670 = .ok (.invokevirtual 71, 3) := by decide +kernel
theorem dL_law_673 : decode cL_law 673 = .ok (.if_icmp .eq 985, 3) := by decide +kernel
theorem dL_law_676 : decode cL_law 676 = .ok (.iconst 0, 1) := by decide +kernel
theorem dL_law_677 : decode cL_law 677 = .ok (.ireturn, 1) := by decide +kernel
theorem dL_law_678 : decode cL_law 678 = .ok (.aload_n 1, 1) := by decide +kernel
theorem dL_law_679 : decode cL_law 679 = .ok (.aload_n 0, 1) := by decide +kernel
theorem dL_law_680 : decode cL_law 680 = .ok (.iload_n 3, 1) := by decide +kernel
theorem dL_law_681 : decode cL_law 681 = .ok (.iconst 1, 1) := by decide +kernel
theorem dL_law_682 : decode cL_law 682 = .ok (.iadd, 1) := by decide +kernel
theorem dL_law_683 : decode cL_law 683 = .ok (.iaload, 1) := by decide +kernel
theorem dL_law_684 : decode cL_law 684 = .ok (.aload_n 0, 1) := by decide +kernel
theorem dL_law_685 : decode cL_law 685 = .ok (.iload_n 3, 1) := by decide +kernel
theorem dL_law_686 : decode cL_law 686 = .ok (.iconst 2, 1) := by decide +kernel
theorem dL_law_687 : decode cL_law 687 = .ok (.iadd, 1) := by decide +kernel
theorem dL_law_688 : decode cL_law 688 = .ok (.iaload, 1) := by decide +kernel
theorem dL_law_689 : decode cL_law 689 = .ok (.invokevirtual 72, 3) := by decide +kernel
theorem dL_law_692 : decode cL_law 692 = .ok (.aload_n 2, 1) := by decide +kernel
theorem dL_law_693 : decode cL_law 693 = .ok (.aload_n 0, 1) := by decide +kernel
theorem dL_law_694 : decode cL_law 694 = .ok (.iload_n 3, 1) := by decide +kernel
theorem dL_law_695 : decode cL_law 695 = .ok (.iconst 1, 1) := by decide +kernel
theorem dL_law_696 : decode cL_law 696 = .ok (.iadd, 1) := by decide +kernel
theorem dL_law_697 : decode cL_law 697 = .ok (.iaload, 1) := by decide +kernel
theorem dL_law_698 : decode cL_law 698 = .ok (.aload_n 0, 1) := by decide +kernel
theorem dL_law_699 : decode cL_law 699 = .ok (.iload_n 3, 1) := by decide +kernel
theorem dL_law_700 : decode cL_law 700 = .ok (.iconst 2, 1) := by decide +kernel
theorem dL_law_701 : decode cL_law 701 = .ok (.iadd, 1) := by decide +kernel
theorem dL_law_702 : decode cL_law 702 = .ok (.iaload, 1) := by decide +kernel
theorem dL_law_703 : decode cL_law 703 = .ok (.invokevirtual 76, 3) := by decide +kernel
theorem dL_law_706 : decode cL_law 706 = .ok (.if_icmp .eq 952, 3) := by decide +kernel
theorem dL_law_709 : decode cL_law 709 = .ok (.iconst 0, 1) := by decide +kernel
theorem dL_law_710 : decode cL_law 710 = .ok (.ireturn, 1) := by decide +kernel
theorem dL_law_711 : decode cL_law 711 = .ok (.aload_n 1, 1) := by decide +kernel
theorem dL_law_712 : decode cL_law 712 = .ok (.aload_n 0, 1) := by decide +kernel
theorem dL_law_713 : decode cL_law 713 = .ok (.iload_n 3, 1) := by decide +kernel
theorem dL_law_714 : decode cL_law 714 = .ok (.iconst 1, 1) := by decide +kernel
theorem dL_law_715 : decode cL_law 715 = .ok (.iadd, 1) := by decide +kernel
theorem dL_law_716 : decode cL_law 716 = .ok (.iaload, 1) := by decide +kernel
theorem dL_law_717 : decode cL_law 717 = .ok (.invokevirtual 77, 3) := by decide +kernel
theorem dL_law_720 : decode cL_law 720 = .ok (.aload_n 2, 1) := by decide +kernel
theorem dL_law_721 : decode cL_law 721 = .ok (.aload_n 0, 1) := by decide +kernel
theorem dL_law_722 : decode cL_law 722 = .ok (.iload_n 3, 1) := by decide +kernel
theorem dL_law_723 : decode cL_law 723 = .ok (.iconst 1, 1) := by decide +kernel
theorem dL_law_724 : decode cL_law 724 = .ok (.iadd, 1) := by decide +kernel
theorem dL_law_725 : decode cL_law 725 = .ok (.iaload, 1) := by decide +kernel
theorem dL_law_726 : decode cL_law 726 = .ok (.invokevirtual 80, 3) := by decide +kernel
theorem dL_law_729 : decode cL_law 729 = .ok (.if_icmp .eq 929, 3) := by decide +kernel
theorem dL_law_732 : decode cL_law 732 = .ok (.iconst 0, 1) := by decide +kernel
theorem dL_law_733 : decode cL_law 733 = .ok (.ireturn, 1) := by decide +kernel
theorem dL_law_734 : decode cL_law 734 = .ok (.aload_n 1, 1) := by decide +kernel
theorem dL_law_735 : decode cL_law 735 = .ok (.aload_n 0, 1) := by decide +kernel
theorem dL_law_736 : decode cL_law 736 = .ok (.iload_n 3, 1) := by decide +kernel
theorem dL_law_737 : decode cL_law 737 = .ok (.iconst 1, 1) := by decide +kernel
theorem dL_law_738 : decode cL_law 738 = .ok (.iadd, 1) := by decide +kernel
theorem dL_law_739 : decode cL_law 739 = .ok (.iaload, 1) := by decide +kernel
theorem dL_law_740 : decode cL_law 740 = .ok (.aload_n 0, 1) := by decide +kernel
theorem dL_law_741 : decode cL_law 741 = .ok (.iload_n 3, 1) := by decide +kernel
theorem dL_law_742 : decode cL_law 742 = .ok (.iconst 2, 1) := by decide +kernel
theorem dL_law_743 : decode cL_law 743 = .ok (.iadd, 1) := by decide +kernel
theorem dL_law_744 : decode cL_law 744 = .ok (.iaload, 1) := by decide +kernel
theorem dL_law_745 : decode cL_law 745 = .ok (.aload_n 0, 1) := by decide +kernel
theorem dL_law_746 : decode cL_law 746 = .ok (.iload_n 3, 1) := by decide +kernel
theorem dL_law_747 : decode cL_law 747 = .ok (.iconst 3, 1) := by decide +kernel
theorem dL_law_748 : decode cL_law 748 = .ok (.iadd, 1) := by decide +kernel
theorem dL_law_749 : decode cL_law 749 = .ok (.iaload, 1) := by decide +kernel
theorem dL_law_750 : decode cL_law 750 = .ok (.aload_n 0, 1) := by decide +kernel
theorem dL_law_751 : decode cL_law 751 = .ok (.iload_n 3, 1) := by decide +kernel
theorem dL_law_752 : decode cL_law 752 = .ok (.iconst 4, 1) := by decide +kernel
theorem dL_law_753 : decode cL_law 753 = .ok (.iadd, 1) := by decide +kernel
theorem dL_law_754 : decode cL_law 754 = .ok (.iaload, 1) := by decide +kernel
theorem dL_law_755 : decode cL_law 755 = .ok (.aload_n 0, 1) := by decide +kernel
theorem dL_law_756 : decode cL_law 756 = .ok (.iload_n 3, 1) := by decide +kernel
theorem dL_law_757 : decode cL_law 757 = .ok (.iconst 5, 1) := by decide +kernel
theorem dL_law_758 : decode cL_law 758 = .ok (.iadd, 1) := by decide +kernel
theorem dL_law_759 : decode cL_law 759 = .ok (.iaload, 1) := by decide +kernel
theorem dL_law_760 : decode cL_law 760 = .ok (.invokevirtual 81, 3) := by decide +kernel
theorem dL_law_763 : decode cL_law 763 = .ok (.aload_n 2, 1) := by decide +kernel
theorem dL_law_764 : decode cL_law 764 = .ok (.aload_n 0, 1) := by decide +kernel
theorem dL_law_765 : decode cL_law 765 = .ok (.iload_n 3, 1) := by decide +kernel
theorem dL_law_766 : decode cL_law 766 = .ok (.iconst 1, 1) := by decide +kernel
theorem dL_law_767 : decode cL_law 767 = .ok (.iadd, 1) := by decide +kernel
theorem dL_law_768 : decode cL_law 768 = .ok (.iaload, 1) := by decide +kernel
theorem dL_law_769 : decode cL_law 769 = .ok (.aload_n 0, 1) := by decide +kernel
theorem dL_law_770 : decode cL_law 770 = .ok (.iload_n 3, 1) := by decide +kernel
theorem dL_law_771 : decode cL_law 771 = .ok (.iconst 2, 1) := by decide +kernel
theorem dL_law_772 : decode cL_law 772 = .ok (.iadd, 1) := by decide +kernel
theorem dL_law_773 : decode cL_law 773 = .ok (.iaload, 1) := by decide +kernel
theorem dL_law_774 : decode cL_law 774 = .ok (.aload_n 0, 1) := by decide +kernel
theorem dL_law_775 : decode cL_law 775 = .ok (.iload_n 3, 1) := by decide +kernel
theorem dL_law_776 : decode cL_law 776 = .ok (.iconst 3, 1) := by decide +kernel
theorem dL_law_777 : decode cL_law 777 = .ok (.iadd, 1) := by decide +kernel
theorem dL_law_778 : decode cL_law 778 = .ok (.iaload, 1) := by decide +kernel
theorem dL_law_779 : decode cL_law 779 = .ok (.aload_n 0, 1) := by decide +kernel
theorem dL_law_780 : decode cL_law 780 = .ok (.iload_n 3, 1) := by decide +kernel
theorem dL_law_781 : decode cL_law 781 = .ok (.iconst 4, 1) := by decide +kernel
theorem dL_law_782 : decode cL_law 782 = .ok (.iadd, 1) := by decide +kernel
theorem dL_law_783 : decode cL_law 783 = .ok (.iaload, 1) := by decide +kernel
theorem dL_law_784 : decode cL_law 784 = .ok (.aload_n 0, 1) := by decide +kernel
theorem dL_law_785 : decode cL_law 785 = .ok (.iload_n 3, 1) := by decide +kernel
theorem dL_law_786 : decode cL_law 786 = .ok (.iconst 5, 1) := by decide +kernel
theorem dL_law_787 : decode cL_law 787 = .ok (.iadd, 1) := by decide +kernel
theorem dL_law_788 : decode cL_law 788 = .ok (.iaload, 1) := by decide +kernel
theorem dL_law_789 : decode cL_law 789 = .ok (.invokevirtual 84, 3) := by decide +kernel
theorem dL_law_792 : decode cL_law 792 = .ok (.if_icmp .eq 866, 3) := by decide +kernel
theorem dL_law_795 : decode cL_law 795 = .ok (.iconst 0, 1) := by decide +kernel
theorem dL_law_796 : decode cL_law 796 = .ok (.ireturn, 1) := by decide +kernel
theorem dL_law_797 : decode cL_law 797 = .ok (.aload_n 1, 1) := by decide +kernel
theorem dL_law_798 : decode cL_law 798 = .ok (.aload_n 0, 1) := by decide +kernel
theorem dL_law_799 : decode cL_law 799 = .ok (.iload_n 3, 1) := by decide +kernel
theorem dL_law_800 : decode cL_law 800 = .ok (.iconst 1, 1) := by decide +kernel
theorem dL_law_801 : decode cL_law 801 = .ok (.iadd, 1) := by decide +kernel
theorem dL_law_802 : decode cL_law 802 = .ok (.iaload, 1) := by decide +kernel
theorem dL_law_803 : decode cL_law 803 = .ok (.invokevirtual 85, 3) := by decide +kernel
theorem dL_law_806 : decode cL_law 806 = .ok (.aload_n 2, 1) := by decide +kernel
theorem dL_law_807 : decode cL_law 807 = .ok (.aload_n 0, 1) := by decide +kernel
theorem dL_law_808 : decode cL_law 808 = .ok (.iload_n 3, 1) := by decide +kernel
theorem dL_law_809 : decode cL_law 809 = .ok (.iconst 1, 1) := by decide +kernel
theorem dL_law_810 : decode cL_law 810 = .ok (.iadd, 1) := by decide +kernel
theorem dL_law_811 : decode cL_law 811 = .ok (.iaload, 1) := by decide +kernel
theorem dL_law_812 : decode cL_law 812 = .ok (.invokevirtual 88, 3) := by decide +kernel
theorem dL_law_815 : decode cL_law 815 = .ok (.if_icmp .eq 843, 3) := by decide +kernel
theorem dL_law_818 : decode cL_law 818 = .ok (.iconst 0, 1) := by decide +kernel
theorem dL_law_819 : decode cL_law 819 = .ok (.ireturn, 1) := by decide +kernel
theorem dL_law_820 : decode cL_law 820 = .ok (.aload_n 1, 1) := by decide +kernel
theorem dL_law_821 : decode cL_law 821 = .ok (.aload_n 0, 1) := by decide +kernel
theorem dL_law_822 : decode cL_law 822 = .ok (.iload_n 3, 1) := by decide +kernel
theorem dL_law_823 : decode cL_law 823 = .ok (.iconst 1, 1) := by decide +kernel
theorem dL_law_824 : decode cL_law 824 = .ok (.iadd, 1) := by decide +kernel
theorem dL_law_825 : decode cL_law 825 = .ok (.iaload, 1) := by decide +kernel
theorem dL_law_826 : decode cL_law 826 = .ok (.aload_n 0, 1) := by decide +kernel
theorem dL_law_827 : decode cL_law 827 = .ok (.iload_n 3, 1) := by decide +kernel
theorem dL_law_828 : decode cL_law 828 = .ok (.iconst 2, 1) := by decide +kernel
theorem dL_law_829 : decode cL_law 829 = .ok (.iadd, 1) := by decide +kernel
theorem dL_law_830 : decode cL_law 830 = .ok (.iaload, 1) := by decide +kernel
theorem dL_law_831 : decode cL_law 831 = .ok (.aload_n 0, 1) := by decide +kernel
theorem dL_law_832 : decode cL_law 832 = .ok (.iload_n 3, 1) := by decide +kernel
theorem dL_law_833 : decode cL_law 833 = .ok (.iconst 3, 1) := by decide +kernel
theorem dL_law_834 : decode cL_law 834 = .ok (.iadd, 1) := by decide +kernel
theorem dL_law_835 : decode cL_law 835 = .ok (.iaload, 1) := by decide +kernel
theorem dL_law_836 : decode cL_law 836 = .ok (.aload_n 0, 1) := by decide +kernel
theorem dL_law_837 : decode cL_law 837 = .ok (.iload_n 3, 1) := by decide +kernel
theorem dL_law_838 : decode cL_law 838 = .ok (.iconst 4, 1) := by decide +kernel
theorem dL_law_839 : decode cL_law 839 = .ok (.iadd, 1) := by decide +kernel
theorem dL_law_840 : decode cL_law 840 = .ok (.iaload, 1) := by decide +kernel
theorem dL_law_841 : decode cL_law 841 = .ok (.invokevirtual 89, 3) := by decide +kernel
theorem dL_law_844 : decode cL_law 844 = .ok (.aload_n 2, 1) := by decide +kernel
theorem dL_law_845 : decode cL_law 845 = .ok (.aload_n 0, 1) := by decide +kernel
theorem dL_law_846 : decode cL_law 846 = .ok (.iload_n 3, 1) := by decide +kernel
theorem dL_law_847 : decode cL_law 847 = .ok (.iconst 1, 1) := by decide +kernel
theorem dL_law_848 : decode cL_law 848 = .ok (.iadd, 1) := by decide +kernel
theorem dL_law_849 : decode cL_law 849 = .ok (.iaload, 1) := by decide +kernel
theorem dL_law_850 : decode cL_law 850 = .ok (.aload_n 0, 1) := by decide +kernel
theorem dL_law_851 : decode cL_law 851 = .ok (.iload_n 3, 1) := by decide +kernel
theorem dL_law_852 : decode cL_law 852 = .ok (.iconst 2, 1) := by decide +kernel
theorem dL_law_853 : decode cL_law 853 = .ok (.iadd, 1) := by decide +kernel
theorem dL_law_854 : decode cL_law 854 = .ok (.iaload, 1) := by decide +kernel
theorem dL_law_855 : decode cL_law 855 = .ok (.aload_n 0, 1) := by decide +kernel
theorem dL_law_856 : decode cL_law 856 = .ok (.iload_n 3, 1) := by decide +kernel
theorem dL_law_857 : decode cL_law 857 = .ok (.iconst 3, 1) := by decide +kernel
theorem dL_law_858 : decode cL_law 858 = .ok (.iadd, 1) := by decide +kernel
theorem dL_law_859 : decode cL_law 859 = .ok (.iaload, 1) := by decide +kernel
theorem dL_law_860 : decode cL_law 860 = .ok (.aload_n 0, 1) := by decide +kernel
theorem dL_law_861 : decode cL_law 861 = .ok (.iload_n 3, 1) := by decide +kernel
theorem dL_law_862 : decode cL_law 862 = .ok (.iconst 4, 1) := by decide +kernel
theorem dL_law_863 : decode cL_law 863 = .ok (.iadd, 1) := by decide +kernel
theorem dL_law_864 : decode cL_law 864 = .ok (.iaload, 1) := by decide +kernel
theorem dL_law_865 : decode cL_law 865 = .ok (.invokevirtual 93, 3) := by decide +kernel
theorem dL_law_868 : decode cL_law 868 = .ok (.if_icmp .eq 790, 3) := by decide +kernel
theorem dL_law_871 : decode cL_law 871 = .ok (.iconst 0, 1) := by decide +kernel
theorem dL_law_872 : decode cL_law 872 = .ok (.ireturn, 1) := by decide +kernel
theorem dL_law_873 : decode cL_law 873 = .ok (.aload_n 1, 1) := by decide +kernel
theorem dL_law_874 : decode cL_law 874 = .ok (.aload_n 0, 1) := by decide +kernel
theorem dL_law_875 : decode cL_law 875 = .ok (.iload_n 3, 1) := by decide +kernel
theorem dL_law_876 : decode cL_law 876 = .ok (.iconst 1, 1) := by decide +kernel
theorem dL_law_877 : decode cL_law 877 = .ok (.iadd, 1) := by decide +kernel
theorem dL_law_878 : decode cL_law 878 = .ok (.iaload, 1) := by decide +kernel
theorem dL_law_879 : decode cL_law 879 = .ok (.aload_n 0, 1) := by decide +kernel
theorem dL_law_880 : decode cL_law 880 = .ok (.iload_n 3, 1) := by decide +kernel
theorem dL_law_881 : decode cL_law 881 = .ok (.iconst 2, 1) := by decide +kernel
theorem dL_law_882 : decode cL_law 882 = .ok (.iadd, 1) := by decide +kernel
theorem dL_law_883 : decode cL_law 883 = .ok (.iaload, 1) := by decide +kernel
theorem dL_law_884 : decode cL_law 884 = .ok (.invokevirtual 94, 3) := by decide +kernel
theorem dL_law_887 : decode cL_law 887 = .ok (.aload_n 2, 1) := by decide +kernel
theorem dL_law_888 : decode cL_law 888 = .ok (.aload_n 0, 1) := by decide +kernel
theorem dL_law_889 : decode cL_law 889 = .ok (.iload_n 3, 1) := by decide +kernel
theorem dL_law_890 : decode cL_law 890 = .ok (.iconst 1, 1) := by decide +kernel
theorem dL_law_891 : decode cL_law 891 = .ok (.iadd, 1) := by decide +kernel
theorem dL_law_892 : decode cL_law 892 = .ok (.iaload, 1) := by decide +kernel
theorem dL_law_893 : decode cL_law 893 = .ok (.aload_n 0, 1) := by decide +kernel
theorem dL_law_894 : decode cL_law 894 = .ok (.iload_n 3, 1) := by decide +kernel
theorem dL_law_895 : decode cL_law 895 = .ok (.iconst 2, 1) := by decide +kernel
theorem dL_law_896 : decode cL_law 896 = .ok (.iadd, 1) := by decide +kernel
theorem dL_law_897 : decode cL_law 897 = .ok (.iaload, 1) := by decide +kernel
theorem dL_law_898 : decode cL_law 898 = .ok (.invokevirtual 97, 3) := by decide +kernel
theorem dL_law_901 : decode cL_law 901 = .ok (.if_icmp .eq 757, 3) := by decide +kernel
theorem dL_law_904 : decode cL_law 904 = .ok (.iconst 0, 1) := by decide +kernel
theorem dL_law_905 : decode cL_law 905 = .ok (.ireturn, 1) := by decide +kernel
theorem dL_law_906 : decode cL_law 906 = .ok (.aload_n 1, 1) := by decide +kernel
theorem dL_law_907 : decode cL_law 907 = .ok (.aload_n 0, 1) := by decide +kernel
theorem dL_law_908 : decode cL_law 908 = .ok (.iload_n 3, 1) := by decide +kernel
theorem dL_law_909 : decode cL_law 909 = .ok (.iconst 1, 1) := by decide +kernel
theorem dL_law_910 : decode cL_law 910 = .ok (.iadd, 1) := by decide +kernel
theorem dL_law_911 : decode cL_law 911 = .ok (.iaload, 1) := by decide +kernel
theorem dL_law_912 : decode cL_law 912 = .ok (.invokevirtual 98, 3) := by decide +kernel
theorem dL_law_915 : decode cL_law 915 = .ok (.aload_n 2, 1) := by decide +kernel
theorem dL_law_916 : decode cL_law 916 = .ok (.aload_n 0, 1) := by decide +kernel
theorem dL_law_917 : decode cL_law 917 = .ok (.iload_n 3, 1) := by decide +kernel
theorem dL_law_918 : decode cL_law 918 = .ok (.iconst 1, 1) := by decide +kernel
theorem dL_law_919 : decode cL_law 919 = .ok (.iadd, 1) := by decide +kernel
theorem dL_law_920 : decode cL_law 920 = .ok (.iaload, 1) := by decide +kernel
theorem dL_law_921 : decode cL_law 921 = .ok (.invokevirtual 101, 3) := by decide +kernel
theorem dL_law_924 : decode cL_law 924 = .ok (.if_icmp .eq 734, 3) := by decide +kernel
theorem dL_law_927 : decode cL_law 927 = .ok (.iconst 0, 1) := by decide +kernel
theorem dL_law_928 : decode cL_law 928 = .ok (.ireturn, 1) := by decide +kernel
theorem dL_law_929 : decode cL_law 929 = .ok (.aload_n 1, 1) := by decide +kernel
theorem dL_law_930 : decode cL_law 930 = .ok (.aload_n 0, 1) := by decide +kernel
theorem dL_law_931 : decode cL_law 931 = .ok (.iload_n 3, 1) := by decide +kernel
theorem dL_law_932 : decode cL_law 932 = .ok (.iconst 1, 1) := by decide +kernel
theorem dL_law_933 : decode cL_law 933 = .ok (.iadd, 1) := by decide +kernel
theorem dL_law_934 : decode cL_law 934 = .ok (.iaload, 1) := by decide +kernel
theorem dL_law_935 : decode cL_law 935 = .ok (.invokevirtual 102, 3) := by decide +kernel
theorem dL_law_938 : decode cL_law 938 = .ok (.aload_n 2, 1) := by decide +kernel
theorem dL_law_939 : decode cL_law 939 = .ok (.aload_n 0, 1) := by decide +kernel
theorem dL_law_940 : decode cL_law 940 = .ok (.iload_n 3, 1) := by decide +kernel
theorem dL_law_941 : decode cL_law 941 = .ok (.iconst 1, 1) := by decide +kernel
theorem dL_law_942 : decode cL_law 942 = .ok (.iadd, 1) := by decide +kernel
theorem dL_law_943 : decode cL_law 943 = .ok (.iaload, 1) := by decide +kernel
theorem dL_law_944 : decode cL_law 944 = .ok (.invokevirtual 105, 3) := by decide +kernel
theorem dL_law_947 : decode cL_law 947 = .ok (.if_icmp .eq 711, 3) := by decide +kernel
theorem dL_law_950 : decode cL_law 950 = .ok (.iconst 0, 1) := by decide +kernel
theorem dL_law_951 : decode cL_law 951 = .ok (.ireturn, 1) := by decide +kernel
theorem dL_law_952 : decode cL_law 952 = .ok (.aload_n 1, 1) := by decide +kernel
theorem dL_law_953 : decode cL_law 953 = .ok (.aload_n 0, 1) := by decide +kernel
theorem dL_law_954 : decode cL_law 954 = .ok (.iload_n 3, 1) := by decide +kernel
theorem dL_law_955 : decode cL_law 955 = .ok (.iconst 1, 1) := by decide +kernel
theorem dL_law_956 : decode cL_law 956 = .ok (.iadd, 1) := by decide +kernel
theorem dL_law_957 : decode cL_law 957 = .ok (.iaload, 1) := by decide +kernel
theorem dL_law_958 : decode cL_law 958 = .ok (.aload_n 0, 1) := by decide +kernel
theorem dL_law_959 : decode cL_law 959 = .ok (.iload_n 3, 1) := by decide +kernel
theorem dL_law_960 : decode cL_law 960 = .ok (.iconst 2, 1) := by decide +kernel
theorem dL_law_961 : decode cL_law 961 = .ok (.iadd, 1) := by decide +kernel
theorem dL_law_962 : decode cL_law 962 = .ok (.iaload, 1) := by decide +kernel
theorem dL_law_963 : decode cL_law 963 = .ok (.invokevirtual 106, 3) := by decide +kernel
theorem dL_law_966 : decode cL_law 966 = .ok (.aload_n 2, 1) := by decide +kernel
theorem dL_law_967 : decode cL_law 967 = .ok (.aload_n 0, 1) := by decide +kernel
theorem dL_law_968 : decode cL_law 968 = .ok (.iload_n 3, 1) := by decide +kernel
theorem dL_law_969 : decode cL_law 969 = .ok (.iconst 1, 1) := by decide +kernel
theorem dL_law_970 : decode cL_law 970 = .ok (.iadd, 1) := by decide +kernel
theorem dL_law_971 : decode cL_law 971 = .ok (.iaload, 1) := by decide +kernel
theorem dL_law_972 : decode cL_law 972 = .ok (.aload_n 0, 1) := by decide +kernel
theorem dL_law_973 : decode cL_law 973 = .ok (.iload_n 3, 1) := by decide +kernel
theorem dL_law_974 : decode cL_law 974 = .ok (.iconst 2, 1) := by decide +kernel
theorem dL_law_975 : decode cL_law 975 = .ok (.iadd, 1) := by decide +kernel
theorem dL_law_976 : decode cL_law 976 = .ok (.iaload, 1) := by decide +kernel
theorem dL_law_977 : decode cL_law 977 = .ok (.invokevirtual 109, 3) := by decide +kernel
theorem dL_law_980 : decode cL_law 980 = .ok (.if_icmp .eq 678, 3) := by decide +kernel
theorem dL_law_983 : decode cL_law 983 = .ok (.iconst 0, 1) := by decide +kernel
theorem dL_law_984 : decode cL_law 984 = .ok (.ireturn, 1) := by decide +kernel
theorem dL_law_985 : decode cL_law 985 = .ok (.aload_n 1, 1) := by decide +kernel
theorem dL_law_986 : decode cL_law 986 = .ok (.aload_n 0, 1) := by decide +kernel
theorem dL_law_987 : decode cL_law 987 = .ok (.iload_n 3, 1) := by decide +kernel
theorem dL_law_988 : decode cL_law 988 = .ok (.iconst 1, 1) := by decide +kernel
theorem dL_law_989 : decode cL_law 989 = .ok (.iadd, 1) := by decide +kernel
theorem dL_law_990 : decode cL_law 990 = .ok (.iaload, 1) := by decide +kernel
theorem dL_law_991 : decode cL_law 991 = .ok (.aload_n 0, 1) := by decide +kernel
theorem dL_law_992 : decode cL_law 992 = .ok (.iload_n 3, 1) := by decide +kernel
theorem dL_law_993 : decode cL_law 993 = .ok (.iconst 2, 1) := by decide +kernel
theorem dL_law_994 : decode cL_law 994 = .ok (.iadd, 1) := by decide +kernel
theorem dL_law_995 : decode cL_law 995 = .ok (.iaload, 1) := by decide +kernel
theorem dL_law_996 : decode cL_law 996 = .ok (.aload_n 0, 1) := by decide +kernel
theorem dL_law_997 : decode cL_law 997 = .ok (.iload_n 3, 1) := by decide +kernel
theorem dL_law_998 : decode cL_law 998 = .ok (.iconst 3, 1) := by decide +kernel
theorem dL_law_999 : decode cL_law 999 = .ok (.iadd, 1) := by decide +kernel
theorem dL_law_1000 : decode cL_law 1000 = .ok (.iaload, 1) := by decide +kernel
theorem dL_law_1001 : decode cL_law 1001 = .ok (.invokevirtual 110, 3) := by decide +kernel
theorem dL_law_1004 : decode cL_law 1004 = .ok (.aload_n 2, 1) := by decide +kernel
theorem dL_law_1005 : decode cL_law 1005 = .ok (.aload_n 0, 1) := by decide +kernel
theorem dL_law_1006 : decode cL_law 1006 = .ok (.iload_n 3, 1) := by decide +kernel
theorem dL_law_1007 : decode cL_law 1007 = .ok (.iconst 1, 1) := by decide +kernel
theorem dL_law_1008 : decode cL_law 1008 = .ok (.iadd, 1) := by decide +kernel
theorem dL_law_1009 : decode cL_law 1009 = .ok (.iaload, 1) := by decide +kernel
theorem dL_law_1010 : decode cL_law 1010 = .ok (.aload_n 0, 1) := by decide +kernel
theorem dL_law_1011 : decode cL_law 1011 = .ok (.iload_n 3, 1) := by decide +kernel
theorem dL_law_1012 : decode cL_law 1012 = .ok (.iconst 2, 1) := by decide +kernel
theorem dL_law_1013 : decode cL_law 1013 = .ok (.iadd, 1) := by decide +kernel
theorem dL_law_1014 : decode cL_law 1014 = .ok (.iaload, 1) := by decide +kernel
theorem dL_law_1015 : decode cL_law 1015 = .ok (.aload_n 0, 1) := by decide +kernel
theorem dL_law_1016 : decode cL_law 1016 = .ok (.iload_n 3, 1) := by decide +kernel
theorem dL_law_1017 : decode cL_law 1017 = .ok (.iconst 3, 1) := by decide +kernel
theorem dL_law_1018 : decode cL_law 1018 = .ok (.iadd, 1) := by decide +kernel
theorem dL_law_1019 : decode cL_law 1019 = .ok (.iaload, 1) := by decide +kernel
theorem dL_law_1020 : decode cL_law 1020 = .ok (.invokevirtual 113, 3) := by decide +kernel
theorem dL_law_1023 : decode cL_law 1023 = .ok (.if_icmp .eq 635, 3) := by decide +kernel
theorem dL_law_1026 : decode cL_law 1026 = .ok (.iconst 0, 1) := by decide +kernel
theorem dL_law_1027 : decode cL_law 1027 = .ok (.ireturn, 1) := by decide +kernel
theorem dL_law_1028 : decode cL_law 1028 = .ok (.aload_n 1, 1) := by decide +kernel
theorem dL_law_1029 : decode cL_law 1029 = .ok (.aload_n 0, 1) := by decide +kernel
theorem dL_law_1030 : decode cL_law 1030 = .ok (.iload_n 3, 1) := by decide +kernel
theorem dL_law_1031 : decode cL_law 1031 = .ok (.iconst 1, 1) := by decide +kernel
theorem dL_law_1032 : decode cL_law 1032 = .ok (.iadd, 1) := by decide +kernel
theorem dL_law_1033 : decode cL_law 1033 = .ok (.iaload, 1) := by decide +kernel
theorem dL_law_1034 : decode cL_law 1034 = .ok (.aload_n 0, 1) := by decide +kernel
theorem dL_law_1035 : decode cL_law 1035 = .ok (.iload_n 3, 1) := by decide +kernel
theorem dL_law_1036 : decode cL_law 1036 = .ok (.iconst 2, 1) := by decide +kernel
theorem dL_law_1037 : decode cL_law 1037 = .ok (.iadd, 1) := by decide +kernel
theorem dL_law_1038 : decode cL_law 1038 = .ok (.iaload, 1) := by decide +kernel
theorem dL_law_1039 : decode cL_law 1039 = .ok (.invokevirtual 114, 3) := by decide +kernel
theorem dL_law_1042 : decode cL_law 1042 = .ok (.aload_n 2, 1) := by decide +kernel
theorem dL_law_1043 : decode cL_law 1043 = .ok (.aload_n 0, 1) := by decide +kernel
theorem dL_law_1044 : decode cL_law 1044 = .ok (.iload_n 3, 1) := by decide +kernel
theorem dL_law_1045 : decode cL_law 1045 = .ok (.iconst 1, 1) := by decide +kernel
theorem dL_law_1046 : decode cL_law 1046 = .ok (.iadd, 1) := by decide +kernel
theorem dL_law_1047 : decode cL_law 1047 = .ok (.iaload, 1) := by decide +kernel
theorem dL_law_1048 : decode cL_law 1048 = .ok (.aload_n 0, 1) := by decide +kernel
theorem dL_law_1049 : decode cL_law 1049 = .ok (.iload_n 3, 1) := by decide +kernel
theorem dL_law_1050 : decode cL_law 1050 = .ok (.iconst 2, 1) := by decide +kernel
theorem dL_law_1051 : decode cL_law 1051 = .ok (.iadd, 1) := by decide +kernel
theorem dL_law_1052 : decode cL_law 1052 = .ok (.iaload, 1) := by decide +kernel
theorem dL_law_1053 : decode cL_law 1053 = .ok (.invokevirtual 117, 3) := by decide +kernel
theorem dL_law_1056 : decode cL_law 1056 = .ok (.if_icmp .eq 602, 3) := by decide +kernel
theorem dL_law_1059 : decode cL_law 1059 = .ok (.iconst 0, 1) := by decide +kernel
theorem dL_law_1060 : decode cL_law 1060 = .ok (.ireturn, 1) := by decide +kernel
theorem dL_law_1061 : decode cL_law 1061 = .ok (.aload_n 1, 1) := by decide +kernel
theorem dL_law_1062 : decode cL_law 1062 = .ok (.aload_n 0, 1) := by decide +kernel
theorem dL_law_1063 : decode cL_law 1063 = .ok (.iload_n 3, 1) := by decide +kernel
theorem dL_law_1064 : decode cL_law 1064 = .ok (.iconst 1, 1) := by decide +kernel
theorem dL_law_1065 : decode cL_law 1065 = .ok (.iadd, 1) := by decide +kernel
theorem dL_law_1066 : decode cL_law 1066 = .ok (.iaload, 1) := by decide +kernel
theorem dL_law_1067 : decode cL_law 1067 = .ok (.aload_n 0, 1) := by decide +kernel
theorem dL_law_1068 : decode cL_law 1068 = .ok (.iload_n 3, 1) := by decide +kernel
theorem dL_law_1069 : decode cL_law 1069 = .ok (.iconst 2, 1) := by decide +kernel
theorem dL_law_1070 : decode cL_law 1070 = .ok (.iadd, 1) := by decide +kernel
theorem dL_law_1071 : decode cL_law 1071 = .ok (.iaload, 1) := by decide +kernel
theorem dL_law_1072 : decode cL_law 1072 = .ok (.invokevirtual 118, 3) := by decide +kernel
theorem dL_law_1075 : decode cL_law 1075 = .ok (.aload_n 2, 1) := by decide +kernel
theorem dL_law_1076 : decode cL_law 1076 = .ok (.aload_n 0, 1) := by decide +kernel
theorem dL_law_1077 : decode cL_law 1077 = .ok (.iload_n 3, 1) := by decide +kernel
theorem dL_law_1078 : decode cL_law 1078 = .ok (.iconst 1, 1) := by decide +kernel
theorem dL_law_1079 : decode cL_law 1079 = .ok (.iadd, 1) := by decide +kernel
theorem dL_law_1080 : decode cL_law 1080 = .ok (.iaload, 1) := by decide +kernel
theorem dL_law_1081 : decode cL_law 1081 = .ok (.aload_n 0, 1) := by decide +kernel
theorem dL_law_1082 : decode cL_law 1082 = .ok (.iload_n 3, 1) := by decide +kernel
theorem dL_law_1083 : decode cL_law 1083 = .ok (.iconst 2, 1) := by decide +kernel
theorem dL_law_1084 : decode cL_law 1084 = .ok (.iadd, 1) := by decide +kernel
theorem dL_law_1085 : decode cL_law 1085 = .ok (.iaload, 1) := by decide +kernel
theorem dL_law_1086 : decode cL_law 1086 = .ok (.invokevirtual 121, 3) := by decide +kernel
theorem dL_law_1089 : decode cL_law 1089 = .ok (.if_icmp .eq 569, 3) := by decide +kernel
theorem dL_law_1092 : decode cL_law 1092 = .ok (.iconst 0, 1) := by decide +kernel
theorem dL_law_1093 : decode cL_law 1093 = .ok (.ireturn, 1) := by decide +kernel
theorem dL_law_1094 : decode cL_law 1094 = .ok (.aload_n 1, 1) := by decide +kernel
theorem dL_law_1095 : decode cL_law 1095 = .ok (.aload_n 0, 1) := by decide +kernel
theorem dL_law_1096 : decode cL_law 1096 = .ok (.iload_n 3, 1) := by decide +kernel
theorem dL_law_1097 : decode cL_law 1097 = .ok (.iconst 1, 1) := by decide +kernel
theorem dL_law_1098 : decode cL_law 1098 = .ok (.iadd, 1) := by decide +kernel
theorem dL_law_1099 : decode cL_law 1099 = .ok (.iaload, 1) := by decide +kernel
theorem dL_law_1100 : decode cL_law 1100 = .ok (.aload_n 0, 1) := by decide +kernel
theorem dL_law_1101 : decode cL_law 1101 = .ok (.iload_n 3, 1) := by decide +kernel
theorem dL_law_1102 : decode cL_law 1102 = .ok (.iconst 2, 1) := by decide +kernel
theorem dL_law_1103 : decode cL_law 1103 = .ok (.iadd, 1) := by decide +kernel
theorem dL_law_1104 : decode cL_law 1104 = .ok (.iaload, 1) := by decide +kernel
theorem dL_law_1105 : decode cL_law 1105 = .ok (.aload_n 0, 1) := by decide +kernel
theorem dL_law_1106 : decode cL_law 1106 = .ok (.iload_n 3, 1) := by decide +kernel
theorem dL_law_1107 : decode cL_law 1107 = .ok (.iconst 3, 1) := by decide +kernel
theorem dL_law_1108 : decode cL_law 1108 = .ok (.iadd, 1) := by decide +kernel
theorem dL_law_1109 : decode cL_law 1109 = .ok (.iaload, 1) := by decide +kernel
theorem dL_law_1110 : decode cL_law 1110 = .ok (.invokevirtual 122, 3) := by decide +kernel
theorem dL_law_1113 : decode cL_law 1113 = .ok (.aload_n 2, 1) := by decide +kernel
theorem dL_law_1114 : decode cL_law 1114 = .ok (.aload_n 0, 1) := by decide +kernel
theorem dL_law_1115 : decode cL_law 1115 = .ok (.iload_n 3, 1) := by decide +kernel
theorem dL_law_1116 : decode cL_law 1116 = .ok (.iconst 1, 1) := by decide +kernel
theorem dL_law_1117 : decode cL_law 1117 = .ok (.iadd, 1) := by decide +kernel
theorem dL_law_1118 : decode cL_law 1118 = .ok (.iaload, 1) := by decide +kernel
theorem dL_law_1119 : decode cL_law 1119 = .ok (.aload_n 0, 1) := by decide +kernel
theorem dL_law_1120 : decode cL_law 1120 = .ok (.iload_n 3, 1) := by decide +kernel
theorem dL_law_1121 : decode cL_law 1121 = .ok (.iconst 2, 1) := by decide +kernel
theorem dL_law_1122 : decode cL_law 1122 = .ok (.iadd, 1) := by decide +kernel
theorem dL_law_1123 : decode cL_law 1123 = .ok (.iaload, 1) := by decide +kernel
theorem dL_law_1124 : decode cL_law 1124 = .ok (.aload_n 0, 1) := by decide +kernel
theorem dL_law_1125 : decode cL_law 1125 = .ok (.iload_n 3, 1) := by decide +kernel
theorem dL_law_1126 : decode cL_law 1126 = .ok (.iconst 3, 1) := by decide +kernel
theorem dL_law_1127 : decode cL_law 1127 = .ok (.iadd, 1) := by decide +kernel
theorem dL_law_1128 : decode cL_law 1128 = .ok (.iaload, 1) := by decide +kernel
theorem dL_law_1129 : decode cL_law 1129 = .ok (.invokevirtual 125, 3) := by decide +kernel
theorem dL_law_1132 : decode cL_law 1132 = .ok (.if_icmp .eq 526, 3) := by decide +kernel
theorem dL_law_1135 : decode cL_law 1135 = .ok (.iconst 0, 1) := by decide +kernel
theorem dL_law_1136 : decode cL_law 1136 = .ok (.ireturn, 1) := by decide +kernel
theorem dL_law_1137 : decode cL_law 1137 = .ok (.aload_n 1, 1) := by decide +kernel
theorem dL_law_1138 : decode cL_law 1138 = .ok (.aload_n 0, 1) := by decide +kernel
theorem dL_law_1139 : decode cL_law 1139 = .ok (.iload_n 3, 1) := by decide +kernel
theorem dL_law_1140 : decode cL_law 1140 = .ok (.iconst 1, 1) := by decide +kernel
theorem dL_law_1141 : decode cL_law 1141 = .ok (.iadd, 1) := by decide +kernel
theorem dL_law_1142 : decode cL_law 1142 = .ok (.iaload, 1) := by decide +kernel
theorem dL_law_1143 : decode cL_law 1143 = .ok (.aload_n 0, 1) := by decide +kernel
theorem dL_law_1144 : decode cL_law 1144 = .ok (.iload_n 3, 1) := by decide +kernel
theorem dL_law_1145 : decode cL_law 1145 = .ok (.iconst 2, 1) := by decide +kernel
theorem dL_law_1146 : decode cL_law 1146 = .ok (.iadd, 1) := by decide +kernel
theorem dL_law_1147 : decode cL_law 1147 = .ok (.iaload, 1) := by decide +kernel
theorem dL_law_1148 : decode cL_law 1148 = .ok (.aload_n 0, 1) := by decide +kernel
theorem dL_law_1149 : decode cL_law 1149 = .ok (.iload_n 3, 1) := by decide +kernel
theorem dL_law_1150 : decode cL_law 1150 = .ok (.iconst 3, 1) := by decide +kernel
theorem dL_law_1151 : decode cL_law 1151 = .ok (.iadd, 1) := by decide +kernel
theorem dL_law_1152 : decode cL_law 1152 = .ok (.iaload, 1) := by decide +kernel
theorem dL_law_1153 : decode cL_law 1153 = .ok (.aload_n 0, 1) := by decide +kernel
theorem dL_law_1154 : decode cL_law 1154 = .ok (.iload_n 3, 1) := by decide +kernel
theorem dL_law_1155 : decode cL_law 1155 = .ok (.iconst 4, 1) := by decide +kernel
theorem dL_law_1156 : decode cL_law 1156 = .ok (.iadd, 1) := by decide +kernel
theorem dL_law_1157 : decode cL_law 1157 = .ok (.iaload, 1) := by decide +kernel
theorem dL_law_1158 : decode cL_law 1158 = .ok (.ifCond .eq 7, 3) := by decide +kernel
theorem dL_law_1161 : decode cL_law 1161 = .ok (.iconst 1, 1) := by decide +kernel
theorem dL_law_1162 : decode cL_law 1162 = .ok (.goto 4, 3) := by decide +kernel
theorem dL_law_1165 : decode cL_law 1165 = .ok (.iconst 0, 1) := by decide +kernel
theorem dL_law_1166 : decode cL_law 1166 = .ok (.invokevirtual 126, 3) := by decide +kernel
theorem dL_law_1169 : decode cL_law 1169 = .ok (.aload_n 2, 1) := by decide +kernel
theorem dL_law_1170 : decode cL_law 1170 = .ok (.aload_n 0, 1) := by decide +kernel
theorem dL_law_1171 : decode cL_law 1171 = .ok (.iload_n 3, 1) := by decide +kernel
theorem dL_law_1172 : decode cL_law 1172 = .ok (.iconst 1, 1) := by decide +kernel
theorem dL_law_1173 : decode cL_law 1173 = .ok (.iadd, 1) := by decide +kernel
theorem dL_law_1174 : decode cL_law 1174 = .ok (.iaload, 1) := by decide +kernel
theorem dL_law_1175 : decode cL_law 1175 = .ok (.aload_n 0, 1) := by decide +kernel
theorem dL_law_1176 : decode cL_law 1176 = .ok (.iload_n 3, 1) := by decide +kernel
theorem dL_law_1177 : decode cL_law 1177 = .ok (.iconst 2, 1) := by decide +kernel
theorem dL_law_1178 : decode cL_law 1178 = .ok (.iadd, 1) := by decide +kernel
theorem dL_law_1179 : decode cL_law 1179 = .ok (.iaload, 1) := by decide +kernel
theorem dL_law_1180 : decode cL_law 1180 = .ok (.aload_n 0, 1) := by decide +kernel
theorem dL_law_1181 : decode cL_law 1181 = .ok (.iload_n 3, 1) := by decide +kernel
theorem dL_law_1182 : decode cL_law 1182 = .ok (.iconst 3, 1) := by decide +kernel
theorem dL_law_1183 : decode cL_law 1183 = .ok (.iadd, 1) := by decide +kernel
theorem dL_law_1184 : decode cL_law 1184 = .ok (.iaload, 1) := by decide +kernel
theorem dL_law_1185 : decode cL_law 1185 = .ok (.aload_n 0, 1) := by decide +kernel
theorem dL_law_1186 : decode cL_law 1186 = .ok (.iload_n 3, 1) := by decide +kernel
theorem dL_law_1187 : decode cL_law 1187 = .ok (.iconst 4, 1) := by decide +kernel
theorem dL_law_1188 : decode cL_law 1188 = .ok (.iadd, 1) := by decide +kernel
theorem dL_law_1189 : decode cL_law 1189 = .ok (.iaload, 1) := by decide +kernel
theorem dL_law_1190 : decode cL_law 1190 = .ok (.ifCond .eq 7, 3) := by decide +kernel
theorem dL_law_1193 : decode cL_law 1193 = .ok (.iconst 1, 1) := by decide +kernel
theorem dL_law_1194 : decode cL_law 1194 = .ok (.goto 4, 3) := by decide +kernel
theorem dL_law_1197 : decode cL_law 1197 = .ok (.iconst 0, 1) := by decide +kernel
theorem dL_law_1198 : decode cL_law 1198 = .ok (.invokevirtual 130, 3) := by decide +kernel
theorem dL_law_1201 : decode cL_law 1201 = .ok (.if_icmp .eq 457, 3) := by decide +kernel
theorem dL_law_1204 : decode cL_law 1204 = .ok (.iconst 0, 1) := by decide +kernel
theorem dL_law_1205 : decode cL_law 1205 = .ok (.ireturn, 1) := by decide +kernel
theorem dL_law_1206 : decode cL_law 1206 = .ok (.aload_n 1, 1) := by decide +kernel
theorem dL_law_1207 : decode cL_law 1207 = .ok (.aload_n 0, 1) := by decide +kernel
theorem dL_law_1208 : decode cL_law 1208 = .ok (.iload_n 3, 1) := by decide +kernel
theorem dL_law_1209 : decode cL_law 1209 = .ok (.iconst 1, 1) := by decide +kernel
theorem dL_law_1210 : decode cL_law 1210 = .ok (.iadd, 1) := by decide +kernel
theorem dL_law_1211 : decode cL_law 1211 = .ok (.iaload, 1) := by decide +kernel
theorem dL_law_1212 : decode cL_law 1212 = .ok (.aload_n 0, 1) := by decide +kernel
theorem dL_law_1213 : decode cL_law 1213 = .ok (.iload_n 3, 1) := by decide +kernel
theorem dL_law_1214 : decode cL_law 1214 = .ok (.iconst 2, 1) := by decide +kernel
theorem dL_law_1215 : decode cL_law 1215 = .ok (.iadd, 1) := by decide +kernel
theorem dL_law_1216 : decode cL_law 1216 = .ok (.iaload, 1) := by decide +kernel
theorem dL_law_1217 : decode cL_law 1217 = .ok (.aload_n 0, 1) := by decide +kernel
theorem dL_law_1218 : decode cL_law 1218 = .ok (.iload_n 3, 1) := by decide +kernel
theorem dL_law_1219 : decode cL_law 1219 = .ok (.iconst 3, 1) := by decide +kernel
theorem dL_law_1220 : decode cL_law 1220 = .ok (.iadd, 1) := by decide +kernel
theorem dL_law_1221 : decode cL_law 1221 = .ok (.iaload, 1) := by decide +kernel
theorem dL_law_1222 : decode cL_law 1222 = .ok (.aload_n 0, 1) := by decide +kernel
theorem dL_law_1223 : decode cL_law 1223 = .ok (.iload_n 3, 1) := by decide +kernel
theorem dL_law_1224 : decode cL_law 1224 = .ok (.iconst 4, 1) := by decide +kernel
theorem dL_law_1225 : decode cL_law 1225 = .ok (.iadd, 1) := by decide +kernel
theorem dL_law_1226 : decode cL_law 1226 = .ok (.iaload, 1) := by decide +kernel
theorem dL_law_1227 : decode cL_law 1227 = .ok (.invokevirtual 131, 3) := by decide +kernel
theorem dL_law_1230 : decode cL_law 1230 = .ok (.aload_n 2, 1) := by decide +kernel
theorem dL_law_1231 : decode cL_law 1231 = .ok (.aload_n 0, 1) := by decide +kernel
theorem dL_law_1232 : decode cL_law 1232 = .ok (.iload_n 3, 1) := by decide +kernel
theorem dL_law_1233 : decode cL_law 1233 = .ok (.iconst 1, 1) := by decide +kernel
theorem dL_law_1234 : decode cL_law 1234 = .ok (.iadd, 1) := by decide +kernel
theorem dL_law_1235 : decode cL_law 1235 = .ok (.iaload, 1) := by decide +kernel
theorem dL_law_1236 : decode cL_law 1236 = .ok (.aload_n 0, 1) := by decide +kernel
theorem dL_law_1237 : decode cL_law 1237 = .ok (.iload_n 3, 1) := by decide +kernel
theorem dL_law_1238 : decode cL_law 1238 = .ok (.iconst 2, 1) := by decide +kernel
theorem dL_law_1239 : decode cL_law 1239 = .ok (.iadd, 1) := by decide +kernel
theorem dL_law_1240 : decode cL_law 1240 = .ok (.iaload, 1) := by decide +kernel
theorem dL_law_1241 : decode cL_law 1241 = .ok (.aload_n 0, 1) := by decide +kernel
theorem dL_law_1242 : decode cL_law 1242 = .ok (.iload_n 3, 1) := by decide +kernel
theorem dL_law_1243 : decode cL_law 1243 = .ok (.iconst 3, 1) := by decide +kernel
theorem dL_law_1244 : decode cL_law 1244 = .ok (.iadd, 1) := by decide +kernel
theorem dL_law_1245 : decode cL_law 1245 = .ok (.iaload, 1) := by decide +kernel
theorem dL_law_1246 : decode cL_law 1246 = .ok (.aload_n 0, 1) := by decide +kernel
theorem dL_law_1247 : decode cL_law 1247 = .ok (.iload_n 3, 1) := by decide +kernel
theorem dL_law_1248 : decode cL_law 1248 = .ok (.iconst 4, 1) := by decide +kernel
theorem dL_law_1249 : decode cL_law 1249 = .ok (.iadd, 1) := by decide +kernel
theorem dL_law_1250 : decode cL_law 1250 = .ok (.iaload, 1) := by decide +kernel
theorem dL_law_1251 : decode cL_law 1251 = .ok (.invokevirtual 134, 3) := by decide +kernel
theorem dL_law_1254 : decode cL_law 1254 = .ok (.if_icmp .eq 404, 3) := by decide +kernel
theorem dL_law_1257 : decode cL_law 1257 = .ok (.iconst 0, 1) := by decide +kernel
theorem dL_law_1258 : decode cL_law 1258 = .ok (.ireturn, 1) := by decide +kernel
theorem dL_law_1259 : decode cL_law 1259 = .ok (.aload_n 1, 1) := by decide +kernel
theorem dL_law_1260 : decode cL_law 1260 = .ok (.aload_n 0, 1) := by decide +kernel
theorem dL_law_1261 : decode cL_law 1261 = .ok (.iload_n 3, 1) := by decide +kernel
theorem dL_law_1262 : decode cL_law 1262 = .ok (.iconst 1, 1) := by decide +kernel
theorem dL_law_1263 : decode cL_law 1263 = .ok (.iadd, 1) := by decide +kernel
theorem dL_law_1264 : decode cL_law 1264 = .ok (.iaload, 1) := by decide +kernel
theorem dL_law_1265 : decode cL_law 1265 = .ok (.aload_n 0, 1) := by decide +kernel
theorem dL_law_1266 : decode cL_law 1266 = .ok (.iload_n 3, 1) := by decide +kernel
theorem dL_law_1267 : decode cL_law 1267 = .ok (.iconst 2, 1) := by decide +kernel
theorem dL_law_1268 : decode cL_law 1268 = .ok (.iadd, 1) := by decide +kernel
theorem dL_law_1269 : decode cL_law 1269 = .ok (.iaload, 1) := by decide +kernel
theorem dL_law_1270 : decode cL_law 1270 = .ok (.aload_n 0, 1) := by decide +kernel
theorem dL_law_1271 : decode cL_law 1271 = .ok (.iload_n 3, 1) := by decide +kernel
theorem dL_law_1272 : decode cL_law 1272 = .ok (.iconst 3, 1) := by decide +kernel
theorem dL_law_1273 : decode cL_law 1273 = .ok (.iadd, 1) := by decide +kernel
theorem dL_law_1274 : decode cL_law 1274 = .ok (.iaload, 1) := by decide +kernel
theorem dL_law_1275 : decode cL_law 1275 = .ok (.invokevirtual 135, 3) := by decide +kernel
theorem dL_law_1278 : decode cL_law 1278 = .ok (.aload_n 2, 1) := by decide +kernel
theorem dL_law_1279 : decode cL_law 1279 = .ok (.aload_n 0, 1) := by decide +kernel
theorem dL_law_1280 : decode cL_law 1280 = .ok (.iload_n 3, 1) := by decide +kernel
theorem dL_law_1281 : decode cL_law 1281 = .ok (.iconst 1, 1) := by decide +kernel
theorem dL_law_1282 : decode cL_law 1282 = .ok (.iadd, 1) := by decide +kernel
theorem dL_law_1283 : decode cL_law 1283 = .ok (.iaload, 1) := by decide +kernel
theorem dL_law_1284 : decode cL_law 1284 = .ok (.aload_n 0, 1) := by decide +kernel
theorem dL_law_1285 : decode cL_law 1285 = .ok (.iload_n 3, 1) := by decide +kernel
theorem dL_law_1286 : decode cL_law 1286 = .ok (.iconst 2, 1) := by decide +kernel
theorem dL_law_1287 : decode cL_law 1287 = .ok (.iadd, 1) := by decide +kernel
theorem dL_law_1288 : decode cL_law 1288 = .ok (.iaload, 1) := by decide +kernel
theorem dL_law_1289 : decode cL_law 1289 = .ok (.aload_n 0, 1) := by decide +kernel
theorem dL_law_1290 : decode cL_law 1290 = .ok (.iload_n 3, 1) := by decide +kernel
theorem dL_law_1291 : decode cL_law 1291 = .ok (.iconst 3, 1) := by decide +kernel
theorem dL_law_1292 : decode cL_law 1292 = .ok (.iadd, 1) := by decide +kernel
theorem dL_law_1293 : decode cL_law 1293 = .ok (.iaload, 1) := by decide +kernel
theorem dL_law_1294 : decode cL_law 1294 = .ok (.invokevirtual 138, 3) := by decide +kernel
theorem dL_law_1297 : decode cL_law 1297 = .ok (.if_icmp .eq 361, 3) := by decide +kernel
theorem dL_law_1300 : decode cL_law 1300 = .ok (.iconst 0, 1) := by decide +kernel
theorem dL_law_1301 : decode cL_law 1301 = .ok (.ireturn, 1) := by decide +kernel
theorem dL_law_1302 : decode cL_law 1302 = .ok (.aload_n 1, 1) := by decide +kernel
theorem dL_law_1303 : decode cL_law 1303 = .ok (.aload_n 0, 1) := by decide +kernel
theorem dL_law_1304 : decode cL_law 1304 = .ok (.iload_n 3, 1) := by decide +kernel
theorem dL_law_1305 : decode cL_law 1305 = .ok (.iconst 1, 1) := by decide +kernel
theorem dL_law_1306 : decode cL_law 1306 = .ok (.iadd, 1) := by decide +kernel
theorem dL_law_1307 : decode cL_law 1307 = .ok (.iaload, 1) := by decide +kernel
theorem dL_law_1308 : decode cL_law 1308 = .ok (.invokevirtual 139, 3) := by decide +kernel
theorem dL_law_1311 : decode cL_law 1311 = .ok (.aload_n 2, 1) := by decide +kernel
theorem dL_law_1312 : decode cL_law 1312 = .ok (.aload_n 0, 1) := by decide +kernel
theorem dL_law_1313 : decode cL_law 1313 = .ok (.iload_n 3, 1) := by decide +kernel
theorem dL_law_1314 : decode cL_law 1314 = .ok (.iconst 1, 1) := by decide +kernel
theorem dL_law_1315 : decode cL_law 1315 = .ok (.iadd, 1) := by decide +kernel
theorem dL_law_1316 : decode cL_law 1316 = .ok (.iaload, 1) := by decide +kernel
theorem dL_law_1317 : decode cL_law 1317 = .ok (.invokevirtual 142, 3) := by decide +kernel
theorem dL_law_1320 : decode cL_law 1320 = .ok (.if_icmp .eq 338, 3) := by decide +kernel
theorem dL_law_1323 : decode cL_law 1323 = .ok (.iconst 0, 1) := by decide +kernel
theorem dL_law_1324 : decode cL_law 1324 = .ok (.ireturn, 1) := by decide +kernel
theorem dL_law_1325 : decode cL_law 1325 = .ok (.aload_n 1, 1) := by decide +kernel
theorem dL_law_1326 : decode cL_law 1326 = .ok (.aload_n 0, 1) := by decide +kernel
theorem dL_law_1327 : decode cL_law 1327 = .ok (.iload_n 3, 1) := by decide +kernel
theorem dL_law_1328 : decode cL_law 1328 = .ok (.iconst 1, 1) := by decide +kernel
theorem dL_law_1329 : decode cL_law 1329 = .ok (.iadd, 1) := by decide +kernel
theorem dL_law_1330 : decode cL_law 1330 = .ok (.iaload, 1) := by decide +kernel
theorem dL_law_1331 : decode cL_law 1331 = .ok (.aload_n 0, 1) := by decide +kernel
theorem dL_law_1332 : decode cL_law 1332 = .ok (.iload_n 3, 1) := by decide +kernel
theorem dL_law_1333 : decode cL_law 1333 = .ok (.iconst 2, 1) := by decide +kernel
theorem dL_law_1334 : decode cL_law 1334 = .ok (.iadd, 1) := by decide +kernel
theorem dL_law_1335 : decode cL_law 1335 = .ok (.iaload, 1) := by decide +kernel
theorem dL_law_1336 : decode cL_law 1336 = .ok (.aload_n 0, 1) := by decide +kernel
theorem dL_law_1337 : decode cL_law 1337 = .ok (.iload_n 3, 1) := by decide +kernel
theorem dL_law_1338 : decode cL_law 1338 = .ok (.iconst 3, 1) := by decide +kernel
theorem dL_law_1339 : decode cL_law 1339 = .ok (.iadd, 1) := by decide +kernel
theorem dL_law_1340 : decode cL_law 1340 = .ok (.iaload, 1) := by decide +kernel
theorem dL_law_1341 : decode cL_law 1341 = .ok (.invokevirtual 143, 3) := by decide +kernel
theorem dL_law_1344 : decode cL_law 1344 = .ok (.aload_n 2, 1) := by decide +kernel
theorem dL_law_1345 : decode cL_law 1345 = .ok (.aload_n 0, 1) := by decide +kernel
theorem dL_law_1346 : decode cL_law 1346 = .ok (.iload_n 3, 1) := by decide +kernel
theorem dL_law_1347 : decode cL_law 1347 = .ok (.iconst 1, 1) := by decide +kernel
theorem dL_law_1348 : decode cL_law 1348 = .ok (.iadd, 1) := by decide +kernel
theorem dL_law_1349 : decode cL_law 1349 = .ok (.iaload, 1) := by decide +kernel
theorem dL_law_1350 : decode cL_law 1350 = .ok (.aload_n 0, 1) := by decide +kernel
theorem dL_law_1351 : decode cL_law 1351 = .ok (.iload_n 3, 1) := by decide +kernel
theorem dL_law_1352 : decode cL_law 1352 = .ok (.iconst 2, 1) := by decide +kernel
theorem dL_law_1353 : decode cL_law 1353 = .ok (.iadd, 1) := by decide +kernel
theorem dL_law_1354 : decode cL_law 1354 = .ok (.iaload, 1) := by decide +kernel
theorem dL_law_1355 : decode cL_law 1355 = .ok (.aload_n 0, 1) := by decide +kernel
theorem dL_law_1356 : decode cL_law 1356 = .ok (.iload_n 3, 1) := by decide +kernel
theorem dL_law_1357 : decode cL_law 1357 = .ok (.iconst 3, 1) := by decide +kernel
theorem dL_law_1358 : decode cL_law 1358 = .ok (.iadd, 1) := by decide +kernel
theorem dL_law_1359 : decode cL_law 1359 = .ok (.iaload, 1) := by decide +kernel
theorem dL_law_1360 : decode cL_law 1360 = .ok (.invokevirtual 146, 3) := by decide +kernel
theorem dL_law_1363 : decode cL_law 1363 = .ok (.if_icmp .eq 295, 3) := by decide +kernel
theorem dL_law_1366 : decode cL_law 1366 = .ok (.iconst 0, 1) := by decide +kernel
theorem dL_law_1367 : decode cL_law 1367 = .ok (.ireturn, 1) := by decide +kernel
theorem dL_law_1368 : decode cL_law 1368 = .ok (.aload_n 1, 1) := by decide +kernel
theorem dL_law_1369 : decode cL_law 1369 = .ok (.aload_n 0, 1) := by decide +kernel
theorem dL_law_1370 : decode cL_law 1370 = .ok (.iload_n 3, 1) := by decide +kernel
theorem dL_law_1371 : decode cL_law 1371 = .ok (.iconst 1, 1) := by decide +kernel
theorem dL_law_1372 : decode cL_law 1372 = .ok (.iadd, 1) := by decide +kernel
theorem dL_law_1373 : decode cL_law 1373 = .ok (.iaload, 1) := by decide +kernel
theorem dL_law_1374 : decode cL_law 1374 = .ok (.aload_n 0, 1) := by decide +kernel
theorem dL_law_1375 : decode cL_law 1375 = .ok (.iload_n 3, 1) := by decide +kernel
theorem dL_law_1376 : decode cL_law 1376 = .ok (.iconst 2, 1) := by decide +kernel
theorem dL_law_1377 : decode cL_law 1377 = .ok (.iadd, 1) := by decide +kernel
theorem dL_law_1378 : decode cL_law 1378 = .ok (.iaload, 1) := by decide +kernel
theorem dL_law_1379 : decode cL_law 1379 = .ok (.invokevirtual 147, 3) := by decide +kernel
theorem dL_law_1382 : decode cL_law 1382 = .ok (.aload_n 2, 1) := by decide +kernel
theorem dL_law_1383 : decode cL_law 1383 = .ok (.aload_n 0, 1) := by decide +kernel
theorem dL_law_1384 : decode cL_law 1384 = .ok (.iload_n 3, 1) := by decide +kernel
theorem dL_law_1385 : decode cL_law 1385 = .ok (.iconst 1, 1) := by decide +kernel
theorem dL_law_1386 : decode cL_law 1386 = .ok (.iadd, 1) := by decide +kernel
theorem dL_law_1387 : decode cL_law 1387 = .ok (.iaload, 1) := by decide +kernel
theorem dL_law_1388 : decode cL_law 1388 = .ok (.aload_n 0, 1) := by decide +kernel
theorem dL_law_1389 : decode cL_law 1389 = .ok (.iload_n 3, 1) := by decide +kernel
theorem dL_law_1390 : decode cL_law 1390 = .ok (.iconst 2, 1) := by decide +kernel
theorem dL_law_1391 : decode cL_law 1391 = .ok (.iadd, 1) := by decide +kernel
theorem dL_law_1392 : decode cL_law 1392 = .ok (.iaload, 1) := by decide +kernel
theorem dL_law_1393 : decode cL_law 1393 = .ok (.invokevirtual 150, 3) := by decide +kernel
theorem dL_law_1396 : decode cL_law 1396 = .ok (.if_icmp .eq 262, 3) := by decide +kernel
theorem dL_law_1399 : decode cL_law 1399 = .ok (.iconst 0, 1) := by decide +kernel
theorem dL_law_1400 : decode cL_law 1400 = .ok (.ireturn, 1) := by decide +kernel
theorem dL_law_1401 : decode cL_law 1401 = .ok (.aload_n 1, 1) := by decide +kernel
theorem dL_law_1402 : decode cL_law 1402 = .ok (.aload_n 0, 1) := by decide +kernel
theorem dL_law_1403 : decode cL_law 1403 = .ok (.iload_n 3, 1) := by decide +kernel
theorem dL_law_1404 : decode cL_law 1404 = .ok (.iconst 1, 1) := by decide +kernel
theorem dL_law_1405 : decode cL_law 1405 = .ok (.iadd, 1) := by decide +kernel
theorem dL_law_1406 : decode cL_law 1406 = .ok (.iaload, 1) := by decide +kernel
theorem dL_law_1407 : decode cL_law 1407 = .ok (.aload_n 0, 1) := by decide +kernel
theorem dL_law_1408 : decode cL_law 1408 = .ok (.iload_n 3, 1) := by decide +kernel
theorem dL_law_1409 : decode cL_law 1409 = .ok (.iconst 2, 1) := by decide +kernel
theorem dL_law_1410 : decode cL_law 1410 = .ok (.iadd, 1) := by decide +kernel
theorem dL_law_1411 : decode cL_law 1411 = .ok (.iaload, 1) := by decide +kernel
theorem dL_law_1412 : decode cL_law 1412 = .ok (.aload_n 0, 1) := by decide +kernel
theorem dL_law_1413 : decode cL_law 1413 = .ok (.iload_n 3, 1) := by decide +kernel
theorem dL_law_1414 : decode cL_law 1414 = .ok (.iconst 3, 1) := by decide +kernel
theorem dL_law_1415 : decode cL_law 1415 = .ok (.iadd, 1) := by decide +kernel
theorem dL_law_1416 : decode cL_law 1416 = .ok (.iaload, 1) := by decide +kernel
theorem dL_law_1417 : decode cL_law 1417 = .ok (.aload_n 0, 1) := by decide +kernel
theorem dL_law_1418 : decode cL_law 1418 = .ok (.iload_n 3, 1) := by decide +kernel
theorem dL_law_1419 : decode cL_law 1419 = .ok (.iconst 4, 1) := by decide +kernel
theorem dL_law_1420 : decode cL_law 1420 = .ok (.iadd, 1) := by decide +kernel
theorem dL_law_1421 : decode cL_law 1421 = .ok (.iaload, 1) := by decide +kernel
theorem dL_law_1422 : decode cL_law 1422 = .ok (.aload_n 0, 1) := by decide +kernel
theorem dL_law_1423 : decode cL_law 1423 = .ok (.iload_n 3, 1) := by decide +kernel
theorem dL_law_1424 : decode cL_law 1424 = .ok (.iconst 5, 1) := by decide +kernel
theorem dL_law_1425 : decode cL_law 1425 = .ok (.iadd, 1) := by decide +kernel
theorem dL_law_1426 : decode cL_law 1426 = .ok (.iaload, 1) := by decide +kernel
theorem dL_law_1427 : decode cL_law 1427 = .ok (.invokevirtual 151, 3) := by decide +kernel
theorem dL_law_1430 : decode cL_law 1430 = .ok (.aload_n 2, 1) := by decide +kernel
theorem dL_law_1431 : decode cL_law 1431 = .ok (.aload_n 0, 1) := by decide +kernel
theorem dL_law_1432 : decode cL_law 1432 = .ok (.iload_n 3, 1) := by decide +kernel
theorem dL_law_1433 : decode cL_law 1433 = .ok (.iconst 1, 1) := by decide +kernel
theorem dL_law_1434 : decode cL_law 1434 = .ok (.iadd, 1) := by decide +kernel
theorem dL_law_1435 : decode cL_law 1435 = .ok (.iaload, 1) := by decide +kernel
theorem dL_law_1436 : decode cL_law 1436 = .ok (.aload_n 0, 1) := by decide +kernel
theorem dL_law_1437 : decode cL_law 1437 = .ok (.iload_n 3, 1) := by decide +kernel
theorem dL_law_1438 : decode cL_law 1438 = .ok (.iconst 2, 1) := by decide +kernel
theorem dL_law_1439 : decode cL_law 1439 = .ok (.iadd, 1) := by decide +kernel
theorem dL_law_1440 : decode cL_law 1440 = .ok (.iaload, 1) := by decide +kernel
theorem dL_law_1441 : decode cL_law 1441 = .ok (.aload_n 0, 1) := by decide +kernel
theorem dL_law_1442 : decode cL_law 1442 = .ok (.iload_n 3, 1) := by decide +kernel
theorem dL_law_1443 : decode cL_law 1443 = .ok (.iconst 3, 1) := by decide +kernel
theorem dL_law_1444 : decode cL_law 1444 = .ok (.iadd, 1) := by decide +kernel
theorem dL_law_1445 : decode cL_law 1445 = .ok (.iaload, 1) := by decide +kernel
theorem dL_law_1446 : decode cL_law 1446 = .ok (.aload_n 0, 1) := by decide +kernel
theorem dL_law_1447 : decode cL_law 1447 = .ok (.iload_n 3, 1) := by decide +kernel
theorem dL_law_1448 : decode cL_law 1448 = .ok (.iconst 4, 1) := by decide +kernel
theorem dL_law_1449 : decode cL_law 1449 = .ok (.iadd, 1) := by decide +kernel
theorem dL_law_1450 : decode cL_law 1450 = .ok (.iaload, 1) := by decide +kernel
theorem dL_law_1451 : decode cL_law 1451 = .ok (.aload_n 0, 1) := by decide +kernel
theorem dL_law_1452 : decode cL_law 1452 = .ok (.iload_n 3, 1) := by decide +kernel
theorem dL_law_1453 : decode cL_law 1453 = .ok (.iconst 5, 1) := by decide +kernel
theorem dL_law_1454 : decode cL_law 1454 = .ok (.iadd, 1) := by decide +kernel
theorem dL_law_1455 : decode cL_law 1455 = .ok (.iaload, 1) := by decide +kernel
theorem dL_law_1456 : decode cL_law 1456 = .ok (.invokevirtual 154, 3) := by decide +kernel
theorem dL_law_1459 : decode cL_law 1459 = .ok (.if_icmp .eq 199, 3) := by decide +kernel
theorem dL_law_1462 : decode cL_law 1462 = .ok (.iconst 0, 1) := by decide +kernel
theorem dL_law_1463 : decode cL_law 1463 = .ok (.ireturn, 1) := by decide +kernel
theorem dL_law_1464 : decode cL_law 1464 = .ok (.aload_n 1, 1) := by decide +kernel
theorem dL_law_1465 : decode cL_law 1465 = .ok (.aload_n 0, 1) := by decide +kernel
theorem dL_law_1466 : decode cL_law 1466 = .ok (.iload_n 3, 1) := by decide +kernel
theorem dL_law_1467 : decode cL_law 1467 = .ok (.iconst 1, 1) := by decide +kernel
theorem dL_law_1468 : decode cL_law 1468 = .ok (.iadd, 1) := by decide +kernel
theorem dL_law_1469 : decode cL_law 1469 = .ok (.iaload, 1) := by decide +kernel
theorem dL_law_1470 : decode cL_law 1470 = .ok (.aload_n 0, 1) := by decide +kernel
theorem dL_law_1471 : decode cL_law 1471 = .ok (.iload_n 3, 1) := by decide +kernel
theorem dL_law_1472 : decode cL_law 1472 = .ok (.iconst 2, 1) := by decide +kernel
theorem dL_law_1473 : decode cL_law 1473 = .ok (.iadd, 1) := by decide +kernel
theorem dL_law_1474 : decode cL_law 1474 = .ok (.iaload, 1) := by decide +kernel
theorem dL_law_1475 : decode cL_law 1475 = .ok (.invokevirtual 155, 3) := by decide +kernel
theorem dL_law_1478 : decode cL_law 1478 = .ok (.aload_n 2, 1) := by decide +kernel
theorem dL_law_1479 : decode cL_law 1479 = .ok (.aload_n 0, 1) := by decide +kernel
theorem dL_law_1480 : decode cL_law 1480 = .ok (.iload_n 3, 1) := by decide +kernel
theorem dL_law_1481 : decode cL_law 1481 = .ok (.iconst 1, 1) := by decide +kernel
theorem dL_law_1482 : decode cL_law 1482 = .ok (.iadd, 1) := by decide +kernel
theorem dL_law_1483 : decode cL_law 1483 = .ok (.iaload, 1) := by decide +kernel
theorem dL_law_1484 : decode cL_law 1484 = .ok (.aload_n 0, 1) := by decide +kernel
theorem dL_law_1485 : decode cL_law 1485 = .ok (.iload_n 3, 1) := by decide +kernel
theorem dL_law_1486 : decode cL_law 1486 = .ok (.iconst 2, 1) := by decide +kernel
theorem dL_law_1487 : decode cL_law 1487 = .ok (.iadd, 1) := by decide +kernel
theorem dL_law_1488 : decode cL_law 1488 = .ok (.iaload, 1) := by decide +kernel
theorem dL_law_1489 : decode cL_law 1489 = .ok (.invokevirtual 158, 3) := by decide +kernel
theorem dL_law_1492 : decode cL_law 1492 = .ok (.if_icmp .eq 166, 3) := by decide +kernel
theorem dL_law_1495 : decode cL_law 1495 = .ok (.iconst 0, 1) := by decide +kernel
theorem dL_law_1496 : decode cL_law 1496 = .ok (.ireturn, 1) := by decide +kernel
theorem dL_law_1497 : decode cL_law 1497 = .ok (.aload_n 1, 1) := by decide +kernel
theorem dL_law_1498 : decode cL_law 1498 = .ok (.aload_n 0, 1) := by decide +kernel
theorem dL_law_1499 : decode cL_law 1499 = .ok (.iload_n 3, 1) := by decide +kernel
theorem dL_law_1500 : decode cL_law 1500 = .ok (.iconst 1, 1) := by decide +kernel
theorem dL_law_1501 : decode cL_law 1501 = .ok (.iadd, 1) := by decide +kernel
theorem dL_law_1502 : decode cL_law 1502 = .ok (.iaload, 1) := by decide +kernel
theorem dL_law_1503 : decode cL_law 1503 = .ok (.aload_n 0, 1) := by decide +kernel
theorem dL_law_1504 : decode cL_law 1504 = .ok (.iload_n 3, 1) := by decide +kernel
theorem dL_law_1505 : decode cL_law 1505 = .ok (.iconst 2, 1) := by decide +kernel
theorem dL_law_1506 : decode cL_law 1506 = .ok (.iadd, 1) := by decide +kernel
theorem dL_law_1507 : decode cL_law 1507 = .ok (.iaload, 1) := by decide +kernel
theorem dL_law_1508 : decode cL_law 1508 = .ok (.aload_n 0, 1) := by decide +kernel
theorem dL_law_1509 : decode cL_law 1509 = .ok (.iload_n 3, 1) := by decide +kernel
theorem dL_law_1510 : decode cL_law 1510 = .ok (.iconst 3, 1) := by decide +kernel
theorem dL_law_1511 : decode cL_law 1511 = .ok (.iadd, 1) := by decide +kernel
theorem dL_law_1512 : decode cL_law 1512 = .ok (.iaload, 1) := by decide +kernel
theorem dL_law_1513 : decode cL_law 1513 = .ok (.aload_n 0, 1) := by decide +kernel
theorem dL_law_1514 : decode cL_law 1514 = .ok (.iload_n 3, 1) := by decide +kernel
theorem dL_law_1515 : decode cL_law 1515 = .ok (.iconst 4, 1) := by decide +kernel
theorem dL_law_1516 : decode cL_law 1516 = .ok (.iadd, 1) := by decide +kernel
theorem dL_law_1517 : decode cL_law 1517 = .ok (.iaload, 1) := by decide +kernel
theorem dL_law_1518 : decode cL_law 1518 = .ok (.aload_n 0, 1) := by decide +kernel
theorem dL_law_1519 : decode cL_law 1519 = .ok (.iload_n 3, 1) := by decide +kernel
theorem dL_law_1520 : decode cL_law 1520 = .ok (.iconst 5, 1) := by decide +kernel
theorem dL_law_1521 : decode cL_law 1521 = .ok (.iadd, 1) := by decide +kernel
theorem dL_law_1522 : decode cL_law 1522 = .ok (.iaload, 1) := by decide +kernel
theorem dL_law_1523 : decode cL_law 1523 = .ok (.ifCond .eq 7, 3) := by decide +kernel
theorem dL_law_1526 : decode cL_law 1526 = .ok (.iconst 1, 1) := by decide +kernel
theorem dL_law_1527 : decode cL_law 1527 = .ok (.goto 4, 3) := by decide +kernel
theorem dL_law_1530 : decode cL_law 1530 = .ok (.iconst 0, 1) := by decide +kernel
theorem dL_law_1531 : decode cL_law 1531 = .ok (.invokevirtual 159, 3) := by decide +kernel
theorem dL_law_1534 : decode cL_law 1534 = .ok (.aload_n 2, 1) := by decide +kernel
theorem dL_law_1535 : decode cL_law 1535 = .ok (.aload_n 0, 1) := by decide +kernel
theorem dL_law_1536 : decode cL_law 1536 = .ok (.iload_n 3, 1) := by decide +kernel
theorem dL_law_1537 : decode cL_law 1537 = .ok (.iconst 1, 1) := by decide +kernel
theorem dL_law_1538 : decode cL_law 1538 = .ok (.iadd, 1) := by decide +kernel
theorem dL_law_1539 : decode cL_law 1539 = .ok (.iaload, 1) := by decide +kernel
theorem dL_law_1540 : decode cL_law 1540 = .ok (.aload_n 0, 1) := by decide +kernel
theorem dL_law_1541 : decode cL_law 1541 = .ok (.iload_n 3, 1) := by decide +kernel
theorem dL_law_1542 : decode cL_law 1542 = .ok (.iconst 2, 1) := by decide +kernel
theorem dL_law_1543 : decode cL_law 1543 = .ok (.iadd, 1) := by decide +kernel
theorem dL_law_1544 : decode cL_law 1544 = .ok (.iaload, 1) := by decide +kernel
theorem dL_law_1545 : decode cL_law 1545 = .ok (.aload_n 0, 1) := by decide +kernel
theorem dL_law_1546 : decode cL_law 1546 = .ok (.iload_n 3, 1) := by decide +kernel
theorem dL_law_1547 : decode cL_law 1547 = .ok (.iconst 3, 1) := by decide +kernel
theorem dL_law_1548 : decode cL_law 1548 = .ok (.iadd, 1) := by decide +kernel
theorem dL_law_1549 : decode cL_law 1549 = .ok (.iaload, 1) := by decide +kernel
theorem dL_law_1550 : decode cL_law 1550 = .ok (.aload_n 0, 1) := by decide +kernel
theorem dL_law_1551 : decode cL_law 1551 = .ok (.iload_n 3, 1) := by decide +kernel
theorem dL_law_1552 : decode cL_law 1552 = .ok (.iconst 4, 1) := by decide +kernel
theorem dL_law_1553 : decode cL_law 1553 = .ok (.iadd, 1) := by decide +kernel
theorem dL_law_1554 : decode cL_law 1554 = .ok (.iaload, 1) := by decide +kernel
theorem dL_law_1555 : decode cL_law 1555 = .ok (.aload_n 0, 1) := by decide +kernel
theorem dL_law_1556 : decode cL_law 1556 = .ok (.iload_n 3, 1) := by decide +kernel
theorem dL_law_1557 : decode cL_law 1557 = .ok (.iconst 5, 1) := by decide +kernel
theorem dL_law_1558 : decode cL_law 1558 = .ok (.iadd, 1) := by decide +kernel
theorem dL_law_1559 : decode cL_law 1559 = .ok (.iaload, 1) := by decide +kernel
theorem dL_law_1560 : decode cL_law 1560 = .ok (.ifCond .eq 7, 3) := by decide +kernel
theorem dL_law_1563 : decode cL_law 1563 = .ok (.iconst 1, 1) := by decide +kernel
theorem dL_law_1564 : decode cL_law 1564 = .ok (.goto 4, 3) := by decide +kernel
theorem dL_law_1567 : decode cL_law 1567 = .ok (.iconst 0, 1) := by decide +kernel
theorem dL_law_1568 : decode cL_law 1568 = .ok (.invokevirtual 163, 3) := by decide +kernel
theorem dL_law_1571 : decode cL_law 1571 = .ok (.if_icmp .eq 87, 3) := by decide +kernel
theorem dL_law_1574 : decode cL_law 1574 = .ok (.iconst 0, 1) := by decide +kernel
theorem dL_law_1575 : decode cL_law 1575 = .ok (.ireturn, 1) := by decide +kernel
theorem dL_law_1576 : decode cL_law 1576 = .ok (.aload_n 1, 1) := by decide +kernel
theorem dL_law_1577 : decode cL_law 1577 = .ok (.aload_n 0, 1) := by decide +kernel
theorem dL_law_1578 : decode cL_law 1578 = .ok (.iload_n 3, 1) := by decide +kernel
theorem dL_law_1579 : decode cL_law 1579 = .ok (.iconst 1, 1) := by decide +kernel
theorem dL_law_1580 : decode cL_law 1580 = .ok (.iadd, 1) := by decide +kernel
theorem dL_law_1581 : decode cL_law 1581 = .ok (.iaload, 1) := by decide +kernel
theorem dL_law_1582 : decode cL_law 1582 = .ok (.aload_n 0, 1) := by decide +kernel
theorem dL_law_1583 : decode cL_law 1583 = .ok (.iload_n 3, 1) := by decide +kernel
theorem dL_law_1584 : decode cL_law 1584 = .ok (.iconst 2, 1) := by decide +kernel
theorem dL_law_1585 : decode cL_law 1585 = .ok (.iadd, 1) := by decide +kernel
theorem dL_law_1586 : decode cL_law 1586 = .ok (.iaload, 1) := by decide +kernel
theorem dL_law_1587 : decode cL_law 1587 = .ok (.invokevirtual 164, 3) := by decide +kernel
theorem dL_law_1590 : decode cL_law 1590 = .ok (.aload_n 2, 1) := by decide +kernel
theorem dL_law_1591 : decode cL_law 1591 = .ok (.aload_n 0, 1) := by decide +kernel
theorem dL_law_1592 : decode cL_law 1592 = .ok (.iload_n 3, 1) := by decide +kernel
theorem dL_law_1593 : decode cL_law 1593 = .ok (.iconst 1, 1) := by decide +kernel
theorem dL_law_1594 : decode cL_law 1594 = .ok (.iadd, 1) := by decide +kernel
theorem dL_law_1595 : decode cL_law 1595 = .ok (.iaload, 1) := by decide +kernel
theorem dL_law_1596 : decode cL_law 1596 = .ok (.aload_n 0, 1) := by decide +kernel
theorem dL_law_1597 : decode cL_law 1597 = .ok (.iload_n 3, 1) := by decide +kernel
theorem dL_law_1598 : decode cL_law 1598 = .ok (.iconst 2, 1) := by decide +kernel
theorem dL_law_1599 : decode cL_law 1599 = .ok (.iadd, 1) := by decide +kernel
theorem dL_law_1600 : decode cL_law 1600 = .ok (.iaload, 1) := by decide +kernel
theorem dL_law_1601 : decode cL_law 1601 = .ok (.invokevirtual 167, 3) := by decide +kernel
theorem dL_law_1604 : decode cL_law 1604 = .ok (.if_icmp .eq 54, 3) := by decide +kernel
theorem dL_law_1607 : decode cL_law 1607 = .ok (.iconst 0, 1) := by decide +kernel
theorem dL_law_1608 : decode cL_law 1608 = .ok (.ireturn, 1) := by decide +kernel
theorem dL_law_1609 : decode cL_law 1609 = .ok (.aload_n 1, 1) := by decide +kernel
theorem dL_law_1610 : decode cL_law 1610 = .ok (.invokevirtual 168, 3) := by decide +kernel
theorem dL_law_1613 : decode cL_law 1613 = .ok (.aload_n 2, 1) := by decide +kernel
theorem dL_law_1614 : decode cL_law 1614 = .ok (.invokevirtual 171, 3) := by decide +kernel
theorem dL_law_1617 : decode cL_law 1617 = .ok (.if_icmp .eq 41, 3) := by decide +kernel
theorem dL_law_1620 : decode cL_law 1620 = .ok (.iconst 0, 1) := by decide +kernel
theorem dL_law_1621 : decode cL_law 1621 = .ok (.ireturn, 1) := by decide +kernel
theorem dL_law_1622 : decode cL_law 1622 = .ok (.aload_n 1, 1) := by decide +kernel
theorem dL_law_1623 : decode cL_law 1623 = .ok (.invokevirtual 172, 3) := by decide +kernel
theorem dL_law_1626 : decode cL_law 1626 = .ok (.aload_n 2, 1) := by decide +kernel
theorem dL_law_1627 : decode cL_law 1627 = .ok (.invokevirtual 175, 3) := by decide +kernel
theorem dL_law_1630 : decode cL_law 1630 = .ok (.if_icmp .eq 28, 3) := by decide +kernel
theorem dL_law_1633 : decode cL_law 1633 = .ok (.iconst 0, 1) := by decide +kernel
theorem dL_law_1634 : decode cL_law 1634 = .ok (.ireturn, 1) := by decide +kernel
theorem dL_law_1635 : decode cL_law 1635 = .ok (.aload_n 1, 1) := by decide +kernel
theorem dL_law_1636 : decode cL_law 1636 = .ok (.aload_n 0, 1) := by decide +kernel
theorem dL_law_1637 : decode cL_law 1637 = .ok (.iload_n 3, 1) := by decide +kernel
theorem dL_law_1638 : decode cL_law 1638 = .ok (.iconst 1, 1) := by decide +kernel
theorem dL_law_1639 : decode cL_law 1639 = .ok (.iadd, 1) := by decide +kernel
theorem dL_law_1640 : decode cL_law 1640 = .ok (.iaload, 1) := by decide +kernel
theorem dL_law_1641 : decode cL_law 1641 = .ok (.invokevirtual 176, 3) := by decide +kernel
theorem dL_law_1644 : decode cL_law 1644 = .ok (.aload_n 2, 1) := by decide +kernel
theorem dL_law_1645 : decode cL_law 1645 = .ok (.aload_n 0, 1) := by decide +kernel
theorem dL_law_1646 : decode cL_law 1646 = .ok (.iload_n 3, 1) := by decide +kernel
theorem dL_law_1647 : decode cL_law 1647 = .ok (.iconst 1, 1) := by decide +kernel
theorem dL_law_1648 : decode cL_law 1648 = .ok (.iadd, 1) := by decide +kernel
theorem dL_law_1649 : decode cL_law 1649 = .ok (.iaload, 1) := by decide +kernel
theorem dL_law_1650 : decode cL_law 1650 = .ok (.invokevirtual 179, 3) := by decide +kernel
theorem dL_law_1653 : decode cL_law 1653 = .ok (.if_icmp .eq 5, 3) := by decide +kernel
theorem dL_law_1656 : decode cL_law 1656 = .ok (.iconst 0, 1) := by decide +kernel
theorem dL_law_1657 : decode cL_law 1657 = .ok (.ireturn, 1) := by decide +kernel
theorem dL_law_1658 : decode cL_law 1658 = .ok (.iinc 3 7, 3) := by decide +kernel
theorem dL_law_1661 : decode cL_law 1661 = .ok (.goto (-1643), 3) := by decide +kernel
theorem dL_law_1664 : decode cL_law 1664 = .ok (.iconst 1, 1) := by decide +kernel
theorem dL_law_1665 : decode cL_law 1665 = .ok (.ireturn, 1) := by decide +kernel
