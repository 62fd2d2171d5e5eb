theorem dX8_isTwo_67 : decode cX8_isTwo 67 = .ok (.iconst 1, 1) := by decide +kernel
theorem dX8_isTwo_68 : decode cX8_isTwo 68 = .ok (.ireturn, 1) := by decide +kernel
theorem dX8_isTwo_69 : decode cX8_isTwo 69 = .ok (.iinc 1 2, 3) := by decide +kernel
theorem dX8_isTwo_72 : decode cX8_isTwo 72 = .ok (.goto (-70), 3) := by decide +kernel
theorem dX8_isTwo_75 : decode cX8_isTwo 75 = .ok (.aload_n 0, 1) := by decide +kernel
theorem dX8_isTwo_76 : decode cX8_isTwo 76 = .ok (.getfield 57, 3) := by decide +kernel
theorem dX8_isTwo_79 : decode cX8_isTwo 79 = .ok (.ifCond .ne 7, 3) := by decide +kernel
theorem dX8_isTwo_82 : decode cX8_isTwo 82 = .ok (.iconst 1, 1) := by decide +kernel
theorem dX8_isTwo_83 : decode cX8_isTwo 83 = .ok (.goto 4, 3) := by decide +kernel
theorem dX8_isTwo_86 : decode cX8_isTwo 86 = .ok (.iconst 0, 1) := by decide +kernel
theorem dX8_isTwo_87 : decode cX8_isTwo 87 = .ok (.ireturn, 1) := by decide +kernel
theorem dX8_heaps_0 : decode cX8_heaps 0 = .ok (.aload_n 0, 1) := by decide +kernel
theorem dX8_heaps_1 : decode cX8_heaps 1 = .ok (.invokevirtual 130, 3) := by decide +kernel
theorem dX8_heaps_4 : decode cX8_heaps 4 = .ok (.ifCond .eq 7, 3) := by decide +kernel
theorem dX8_heaps_7 : decode cX8_heaps 7 = .ok (.iconst 1, 1) := by decide +kernel
theorem dX8_heaps_8 : decode cX8_heaps 8 = .ok (.goto 4, 3) := by decide +kernel
theorem dX8_heaps_11 : decode cX8_heaps 11 = .ok (.iconst 0, 1) := by decide +kernel
theorem dX8_heaps_12 : decode cX8_heaps 12 = .ok (.ireturn, 1) := by decide +kernel
theorem dX8_two_0 : decode cX8_two 0 = .ok (.aload_n 0, 1) := by decide +kernel
theorem dX8_two_1 : decode cX8_two 1 = .ok (.invokevirtual 121, 3) := by decide +kernel
theorem dX8_two_4 : decode cX8_two 4 = .ok (.istore_n 1, 1) := by decide +kernel
theorem dX8_two_5 : decode cX8_two 5 = .ok (.aload_n 0, 1) := by decide +kernel
theorem dX8_two_6 : decode cX8_two 6 = .ok (.invokevirtual 130, 3) := by decide +kernel
theorem dX8_two_9 : decode cX8_two 9 = .ok (.ifCond .eq 9, 3) := by decide +kernel
theorem dX8_two_12 : decode cX8_two 12 = .ok (.iload_n 1, 1) := by decide +kernel
theorem dX8_two_13 : decode cX8_two 13 = .ok (.bipush 16, 2) := by decide +kernel
theorem dX8_two_15 : decode cX8_two 15 = .ok (.if_icmp .le 6, 3) := by decide +kernel
theorem dX8_two_18 : decode cX8_two 18 = .ok (.bipush (-2), 2) := by decide +kernel
theorem dX8_two_20 : decode cX8_two 20 = .ok (.ireturn, 1) := by decide +kernel
theorem dX8_two_21 : decode cX8_two 21 = .ok (.iconst 0, 1) := by decide +kernel
theorem dX8_two_22 : decode cX8_two 22 = .ok (.istore_n 2, 1) := by decide +kernel
theorem dX8_two_23 : decode cX8_two 23 = .ok (.iload_n 2, 1) := by decide +kernel
theorem dX8_two_24 : decode cX8_two 24 = .ok (.aload_n 0, 1) := by decide +kernel
theorem dX8_two_25 : decode cX8_two 25 = .ok (.getfield 57, 3) := by decide +kernel
theorem dX8_two_28 : decode cX8_two 28 = .ok (.if_icmp .ge 16, 3) := by decide +kernel
theorem dX8_two_31 : decode cX8_two 31 = .ok (.aload_n 0, 1) := by decide +kernel
theorem dX8_two_32 : decode cX8_two 32 = .ok (.getfield 16, 3) := by decide +kernel
theorem dX8_two_35 : decode cX8_two 35 = .ok (.iload_n 2, 1) := by decide +kernel
theorem dX8_two_36 : decode cX8_two 36 = .ok (.iconst (-1), 1) := by decide +kernel
theorem dX8_two_37 : decode cX8_two 37 = .ok (.iastore, 1) := by decide +kernel
theorem dX8_two_38 : decode cX8_two 38 = .ok (.iinc 2 1, 3) := by decide +kernel
theorem dX8_two_41 : decode cX8_two 41 = .ok (.goto (-18), 3) := by decide +kernel
theorem dX8_two_44 : decode cX8_two 44 = .ok (.iconst 0, 1) := by decide +kernel
theorem dX8_two_45 : decode cX8_two 45 = .ok (.istore_n 2, 1) := by decide +kernel
theorem dX8_two_46 : decode cX8_two 46 = .ok (.iload_n 2, 1) := by decide +kernel
theorem dX8_two_47 : decode cX8_two 47 = .ok (.aload_n 0, 1) := by decide +kernel
theorem dX8_two_48 : decode cX8_two 48 = .ok (.getfield 57, 3) := by decide +kernel
theorem dX8_two_51 : decode cX8_two 51 = .ok (.if_icmp .ge 117, 3) := by decide +kernel
theorem dX8_two_54 : decode cX8_two 54 = .ok (.iconst 0, 1) := by decide +kernel
theorem dX8_two_55 : decode cX8_two 55 = .ok (.istore_n 3, 1) := by decide +kernel
theorem dX8_two_56 : decode cX8_two 56 = .ok (.iload_n 3, 1) := by decide +kernel
theorem dX8_two_57 : decode cX8_two 57 = .ok (.iload_n 1, 1) := by decide +kernel
theorem dX8_two_58 : decode cX8_two 58 = .ok (.if_icmp .ge 37, 3) := by decide +kernel
theorem dX8_two_61 : decode cX8_two 61 = .ok (.aload_n 0, 1) := by decide +kernel
theorem dX8_two_62 : decode cX8_two 62 = .ok (.aload_n 0, 1) := by decide +kernel
theorem dX8_two_63 : decode cX8_two 63 = .ok (.getfield 7, 3) := by decide +kernel
theorem dX8_two_66 : decode cX8_two 66 = .ok (.iload_n 2, 1) := by decide +kernel
theorem dX8_two_67 : decode cX8_two 67 = .ok (.iaload, 1) := by decide +kernel
theorem dX8_two_68 : decode cX8_two 68 = .ok (.iload_n 3, 1) := by decide +kernel
theorem dX8_two_69 : decode cX8_two 69 = .ok (.invokevirtual 84, 3) := by decide +kernel
theorem dX8_two_72 : decode cX8_two 72 = .ok (.ifCond .ge 17, 3) := by decide +kernel
theorem dX8_two_75 : decode cX8_two 75 = .ok (.aload_n 0, 1) := by decide +kernel
theorem dX8_two_76 : decode cX8_two 76 = .ok (.aload_n 0, 1) := by decide +kernel
theorem dX8_two_77 : decode cX8_two 77 = .ok (.getfield 13, 3) := by decide +kernel
theorem dX8_two_80 : decode cX8_two 80 = .ok (.iload_n 2, 1) := by decide +kernel
theorem dX8_two_81 : decode cX8_two 81 = .ok (.iaload, 1) := by decide +kernel
theorem dX8_two_82 : decode cX8_two 82 = .ok (.iload_n 3, 1) := by decide +kernel
theorem dX8_two_83 : decode cX8_two 83 = .ok (.invokevirtual 84, 3) := by decide +kernel
theorem dX8_two_86 : decode cX8_two 86 = .ok (.ifCond .lt 9, 3) := by decide +kernel
theorem dX8_two_89 : decode cX8_two 89 = .ok (.iinc 3 1, 3) := by decide +kernel
theorem dX8_two_92 : decode cX8_two 92 = .ok (.goto (-36), 3) := by decide +kernel
theorem dX8_two_95 : decode cX8_two 95 = .ok (.iload_n 3, 1) := by decide +kernel
theorem dX8_two_96 : decode cX8_two 96 = .ok (.iload_n 1, 1) := by decide +kernel
theorem dX8_two_97 : decode cX8_two 97 = .ok (.if_icmp .ne 58, 3) := by decide +kernel
theorem dX8_two_100 : decode cX8_two 100 = .ok (.aload_n 0, 1) := by decide +kernel
theorem dX8_two_101 : decode cX8_two 101 = .ok (.aload_n 0, 1) := by decide +kernel
theorem dX8_two_102 : decode cX8_two 102 = .ok (.getfield 7, 3) := by decide +kernel
theorem dX8_two_105 : decode cX8_two 105 = .ok (.iload_n 2, 1) := by decide +kernel
theorem dX8_two_106 : decode cX8_two 106 = .ok (.iaload, 1) := by decide +kernel
theorem dX8_two_107 : decode cX8_two 107 = .ok (.invokevirtual 88, 3) := by decide +kernel
theorem dX8_two_110 : decode cX8_two 110 = .ok (.istore 4, 2) := by decide +kernel
theorem dX8_two_112 : decode cX8_two 112 = .ok (.aload_n 0, 1) := by decide +kernel
theorem dX8_two_113 : decode cX8_two 113 = .ok (.aload_n 0, 1) := by decide +kernel
theorem dX8_two_114 : decode cX8_two 114 = .ok (.getfield 13, 3) := by decide +kernel
theorem dX8_two_117 : decode cX8_two 117 = .ok (.iload_n 2, 1) := by decide +kernel
theorem dX8_two_118 : decode cX8_two 118 = .ok (.iaload, 1) := by decide +kernel
theorem dX8_two_119 : decode cX8_two 119 = .ok (.invokevirtual 88, 3) := by decide +kernel
theorem dX8_two_122 : decode cX8_two 122 = .ok (.istore 5, 2) := by decide +kernel
theorem dX8_two_124 : decode cX8_two 124 = .ok (.aload_n 0, 1) := by decide +kernel
theorem dX8_two_125 : decode cX8_two 125 = .ok (.aload_n 0, 1) := by decide +kernel
theorem dX8_two_126 : decode cX8_two 126 = .ok (.aload_n 0, 1) := by decide +kernel
theorem dX8_two_127 : decode cX8_two 127 = .ok (.aload_n 0, 1) := by decide +kernel
theorem dX8_two_128 : decode cX8_two 128 = .ok (.getfield 13, 3) := by decide +kernel
theorem dX8_two_131 : decode cX8_two 131 = .ok (.iload_n 2, 1) := by decide +kernel
theorem dX8_two_132 : decode cX8_two 132 = .ok (.iaload, 1) := by decide +kernel
theorem dX8_two_133 : decode cX8_two 133 = .ok (.iload 4, 2) := by decide +kernel
theorem dX8_two_135 : decode cX8_two 135 = .ok (.invokevirtual 84, 3) := by decide +kernel
theorem dX8_two_138 : decode cX8_two 138 = .ok (.iload 4, 2) := by decide +kernel
theorem dX8_two_140 : decode cX8_two 140 = .ok (.iload 5, 2) := by decide +kernel
theorem dX8_two_142 : decode cX8_two 142 = .ok (.invokevirtual 103, 3) := by decide +kernel
theorem dX8_two_145 : decode cX8_two 145 = .ok (.iload 4, 2) := by decide +kernel
theorem dX8_two_147 : decode cX8_two 147 = .ok (.iload 5, 2) := by decide +kernel
theorem dX8_two_149 : decode cX8_two 149 = .ok (.invokevirtual 110, 3) := by decide +kernel
theorem dX8_two_152 : decode cX8_two 152 = .ok (.iload 4, 2) := by decide +kernel
theorem dX8_two_154 : decode cX8_two 154 = .ok (.istore_n 3, 1) := by decide +kernel
theorem dX8_two_155 : decode cX8_two 155 = .ok (.aload_n 0, 1) := by decide +kernel
theorem dX8_two_156 : decode cX8_two 156 = .ok (.getfield 16, 3) := by decide +kernel
theorem dX8_two_159 : decode cX8_two 159 = .ok (.iload_n 2, 1) := by decide +kernel
theorem dX8_two_160 : decode cX8_two 160 = .ok (.iload_n 3, 1) := by decide +kernel
theorem dX8_two_161 : decode cX8_two 161 = .ok (.iastore, 1) := by decide +kernel
theorem dX8_two_162 : decode cX8_two 162 = .ok (.iinc 2 1, 3) := by decide +kernel
theorem dX8_two_165 : decode cX8_two 165 = .ok (.goto (-119), 3) := by decide +kernel
theorem dX8_two_168 : decode cX8_two 168 = .ok (.iload_n 1, 1) := by decide +kernel
theorem dX8_two_169 : decode cX8_two 169 = .ok (.ireturn, 1) := by decide +kernel
theorem dX8_haveIt_0 : decode cX8_haveIt 0 = .ok (.iconst 0, 1) := by decide +kernel
theorem dX8_haveIt_1 : decode cX8_haveIt 1 = .ok (.istore_n 2, 1) := by decide +kernel
theorem dX8_haveIt_2 : decode cX8_haveIt 2 = .ok (.iconst 0, 1) := by decide +kernel
theorem dX8_haveIt_3 : decode cX8_haveIt 3 = .ok (.istore_n 3, 1) := by decide +kernel
theorem dX8_haveIt_4 : decode cX8_haveIt 4 = .ok (.iload_n 3, 1) := by decide +kernel
theorem dX8_haveIt_5 : decode cX8_haveIt 5 = .ok (.aload_n 0, 1) := by decide +kernel
theorem dX8_haveIt_6 : decode cX8_haveIt 6 = .ok (.getfield 57, 3) := by decide +kernel
theorem dX8_haveIt_9 : decode cX8_haveIt 9 = .ok (.if_icmp .ge 27, 3) := by decide +kernel
theorem dX8_haveIt_12 : decode cX8_haveIt 12 = .ok (.iload_n 2, 1) := by decide +kernel
theorem dX8_haveIt_13 : decode cX8_haveIt 13 = .ok (.aload_n 0, 1) := by decide +kernel
theorem dX8_haveIt_14 : decode cX8_haveIt 14 = .ok (.getfield 16, 3) := by decide +kernel
theorem dX8_haveIt_17 : decode cX8_haveIt 17 = .ok (.iload_n 3, 1) := by decide +kernel
theorem dX8_haveIt_18 : decode cX8_haveIt 18 = .ok (.iaload, 1) := by decide +kernel
theorem dX8_haveIt_19 : decode cX8_haveIt 19 = .ok (.iload_n 1, 1) := by decide +kernel
theorem dX8_haveIt_20 : decode cX8_haveIt 20 = .ok (.if_icmp .ne 7, 3) := by decide +kernel
theorem dX8_haveIt_23 : decode cX8_haveIt 23 = .ok (.iconst 1, 1) := by decide +kernel
theorem dX8_haveIt_24 : decode cX8_haveIt 24 = .ok (.goto 4, 3) := by decide +kernel
theorem dX8_haveIt_27 : decode cX8_haveIt 27 = .ok (.iconst 0, 1) := by decide +kernel
theorem dX8_haveIt_28 : decode cX8_haveIt 28 = .ok (.iadd, 1) := by decide +kernel
theorem dX8_haveIt_29 : decode cX8_haveIt 29 = .ok (.istore_n 2, 1) := by decide +kernel
theorem dX8_haveIt_30 : decode cX8_haveIt 30 = .ok (.iinc 3 1, 3) := by decide +kernel
theorem dX8_haveIt_33 : decode cX8_haveIt 33 = .ok (.goto (-29), 3) := by decide +kernel
theorem dX8_haveIt_36 : decode cX8_haveIt 36 = .ok (.iload_n 2, 1) := by decide +kernel
theorem dX8_haveIt_37 : decode cX8_haveIt 37 = .ok (.ireturn, 1) := by decide +kernel
theorem dX8_even_0 : decode cX8_even 0 = .ok (.iload_n 1, 1) := by decide +kernel
theorem dX8_even_1 : decode cX8_even 1 = .ok (.iconst 1, 1) := by decide +kernel
theorem dX8_even_2 : decode cX8_even 2 = .ok (.bipush 16, 2) := by decide +kernel
theorem dX8_even_4 : decode cX8_even 4 = .ok (.invokestatic 60, 3) := by decide +kernel
theorem dX8_even_7 : decode cX8_even 7 = .ok (.ifCond .ne 6, 3) := by decide +kernel
theorem dX8_even_10 : decode cX8_even 10 = .ok (.bipush (-2), 2) := by decide +kernel
theorem dX8_even_12 : decode cX8_even 12 = .ok (.ireturn, 1) := by decide +kernel
theorem dX8_even_13 : decode cX8_even 13 = .ok (.iconst 0, 1) := by decide +kernel
theorem dX8_even_14 : decode cX8_even 14 = .ok (.istore_n 2, 1) := by decide +kernel
theorem dX8_even_15 : decode cX8_even 15 = .ok (.iload_n 2, 1) := by decide +kernel
theorem dX8_even_16 : decode cX8_even 16 = .ok (.aload_n 0, 1) := by decide +kernel
theorem dX8_even_17 : decode cX8_even 17 = .ok (.getfield 57, 3) := by decide +kernel
theorem dX8_even_20 : decode cX8_even 20 = .ok (.if_icmp .ge 31, 3) := by decide +kernel
theorem dX8_even_23 : decode cX8_even 23 = .ok (.aload_n 0, 1) := by decide +kernel
theorem dX8_even_24 : decode cX8_even 24 = .ok (.getfield 16, 3) := by decide +kernel
theorem dX8_even_27 : decode cX8_even 27 = .ok (.iload_n 2, 1) := by decide +kernel
theorem dX8_even_28 : decode cX8_even 28 = .ok (.iaload, 1) := by decide +kernel
theorem dX8_even_29 : decode cX8_even 29 = .ok (.ifCond .lt 13, 3) := by decide +kernel
theorem dX8_even_32 : decode cX8_even 32 = .ok (.aload_n 0, 1) := by decide +kernel
theorem dX8_even_33 : decode cX8_even 33 = .ok (.getfield 16, 3) := by decide +kernel
theorem dX8_even_36 : decode cX8_even 36 = .ok (.iload_n 2, 1) := by decide +kernel
theorem dX8_even_37 : decode cX8_even 37 = .ok (.iaload, 1) := by decide +kernel
theorem dX8_even_38 : decode cX8_even 38 = .ok (.iload_n 1, 1) := by decide +kernel
theorem dX8_even_39 : decode cX8_even 39 = .ok (.if_icmp .lt 6, 3) := by decide +kernel
theorem dX8_even_42 : decode cX8_even 42 = .ok (.bipush (-2), 2) := by decide +kernel
theorem dX8_even_44 : decode cX8_even 44 = .ok (.ireturn, 1) := by decide +kernel
theorem dX8_even_45 : decode cX8_even 45 = .ok (.iinc 2 1, 3) := by decide +kernel
theorem dX8_even_48 : decode cX8_even 48 = .ok (.goto (-33), 3) := by decide +kernel
theorem dX8_even_51 : decode cX8_even 51 = .ok (.aload_n 0, 1) := by decide +kernel
theorem dX8_even_52 : decode cX8_even 52 = .ok (.invokevirtual 97, 3) := by decide +kernel
theorem dX8_even_55 : decode cX8_even 55 = .ok (.ifCond .lt 6, 3) := by decide +kernel
theorem dX8_even_58 : decode cX8_even 58 = .ok (.bipush (-2), 2) := by decide +kernel
theorem dX8_even_60 : decode cX8_even 60 = .ok (.ireturn, 1) := by decide +kernel
theorem dX8_even_61 : decode cX8_even 61 = .ok (.iconst 0, 1) := by decide +kernel
theorem dX8_even_62 : decode cX8_even 62 = .ok (.istore_n 2, 1) := by decide +kernel
theorem dX8_even_63 : decode cX8_even 63 = .ok (.iconst 0, 1) := by decide +kernel
theorem dX8_even_64 : decode cX8_even 64 = .ok (.istore_n 3, 1) := by decide +kernel
theorem dX8_even_65 : decode cX8_even 65 = .ok (.iconst 0, 1) := by decide +kernel
theorem dX8_even_66 : decode cX8_even 66 = .ok (.istore 4, 2) := by decide +kernel
theorem dX8_even_68 : decode cX8_even 68 = .ok (.iconst 0, 1) := by decide +kernel
theorem dX8_even_69 : decode cX8_even 69 = .ok (.istore 5, 2) := by decide +kernel
theorem dX8_even_71 : decode cX8_even 71 = .ok (.iload 5, 2) := by decide +kernel
theorem dX8_even_73 : decode cX8_even 73 = .ok (.iload_n 1, 1) := by decide +kernel
theorem dX8_even_74 : decode cX8_even 74 = .ok (.if_icmp .ge 45, 3) := by decide +kernel
theorem dX8_even_77 : decode cX8_even 77 = .ok (.aload_n 0, 1) := by decide +kernel
theorem dX8_even_78 : decode cX8_even 78 = .ok (.iload 5, 2) := by decide +kernel
theorem dX8_even_80 : decode cX8_even 80 = .ok (.invokevirtual 133, 3) := by decide +kernel
theorem dX8_even_83 : decode cX8_even 83 = .ok (.aload_n 0, 1) := by decide +kernel
theorem dX8_even_84 : decode cX8_even 84 = .ok (.iload_n 3, 1) := by decide +kernel
theorem dX8_even_85 : decode cX8_even 85 = .ok (.invokevirtual 133, 3) := by decide +kernel
theorem dX8_even_88 : decode cX8_even 88 = .ok (.if_icmp .le 6, 3) := by decide +kernel
theorem dX8_even_91 : decode cX8_even 91 = .ok (.iload 5, 2) := by decide +kernel
theorem dX8_even_93 : decode cX8_even 93 = .ok (.istore_n 3, 1) := by decide +kernel
theorem dX8_even_94 : decode cX8_even 94 = .ok (.aload_n 0, 1) := by decide +kernel
theorem dX8_even_95 : decode cX8_even 95 = .ok (.iload 5, 2) := by decide +kernel
theorem dX8_even_97 : decode cX8_even 97 = .ok (.invokevirtual 133, 3) := by decide +kernel
theorem dX8_even_100 : decode cX8_even 100 = .ok (.aload_n 0, 1) := by decide +kernel
theorem dX8_even_101 : decode cX8_even 101 = .ok (.iload 4, 2) := by decide +kernel
theorem dX8_even_103 : decode cX8_even 103 = .ok (.invokevirtual 133, 3) := by decide +kernel
theorem dX8_even_106 : decode cX8_even 106 = .ok (.if_icmp .ge 7, 3) := by decide +kernel
theorem dX8_even_109 : decode cX8_even 109 = .ok (.iload 5, 2) := by decide +kernel
theorem dX8_even_111 : decode cX8_even 111 = .ok (.istore 4, 2) := by decide +kernel
theorem dX8_even_113 : decode cX8_even 113 = .ok (.iinc 5 1, 3) := by decide +kernel
theorem dX8_even_116 : decode cX8_even 116 = .ok (.goto (-45), 3) := by decide +kernel
theorem dX8_even_119 : decode cX8_even 119 = .ok (.aload_n 0, 1) := by decide +kernel
theorem dX8_even_120 : decode cX8_even 120 = .ok (.iload_n 3, 1) := by decide +kernel
theorem dX8_even_121 : decode cX8_even 121 = .ok (.invokevirtual 133, 3) := by decide +kernel
theorem dX8_even_124 : decode cX8_even 124 = .ok (.aload_n 0, 1) := by decide +kernel
theorem dX8_even_125 : decode cX8_even 125 = .ok (.iload 4, 2) := by decide +kernel
theorem dX8_even_127 : decode cX8_even 127 = .ok (.invokevirtual 133, 3) := by decide +kernel
theorem dX8_even_130 : decode cX8_even 130 = .ok (.iconst 2, 1) := by decide +kernel
theorem dX8_even_131 : decode cX8_even 131 = .ok (.iadd, 1) := by decide +kernel
theorem dX8_even_132 : decode cX8_even 132 = .ok (.if_icmp .ge 5, 3) := by decide +kernel
theorem dX8_even_135 : decode cX8_even 135 = .ok (.iload_n 2, 1) := by decide +kernel
theorem dX8_even_136 : decode cX8_even 136 = .ok (.ireturn, 1) := by decide +kernel
theorem dX8_even_137 : decode cX8_even 137 = .ok (.iconst 0, 1) := by decide +kernel
theorem dX8_even_138 : decode cX8_even 138 = .ok (.istore 5, 2) := by decide +kernel
theorem dX8_even_140 : decode cX8_even 140 = .ok (.iconst 0, 1) := by decide +kernel
theorem dX8_even_141 : decode cX8_even 141 = .ok (.istore 6, 2) := by decide +kernel
theorem dX8_even_143 : decode cX8_even 143 = .ok (.iload 6, 2) := by decide +kernel
theorem dX8_even_145 : decode cX8_even 145 = .ok (.ifCond .ne 122, 3) := by decide +kernel
theorem dX8_even_148 : decode cX8_even 148 = .ok (.aload_n 0, 1) := by decide +kernel
theorem dX8_even_149 : decode cX8_even 149 = .ok (.getfield 16, 3) := by decide +kernel
theorem dX8_even_152 : decode cX8_even 152 = .ok (.iload 5, 2) := by decide +kernel
theorem dX8_even_154 : decode cX8_even 154 = .ok (.iaload, 1) := by decide +kernel
theorem dX8_even_155 : decode cX8_even 155 = .ok (.iload_n 3, 1) := by decide +kernel
theorem dX8_even_156 : decode cX8_even 156 = .ok (.if_icmp .eq 15, 3) := by decide +kernel
theorem dX8_even_159 : decode cX8_even 159 = .ok (.aload_n 0, 1) := by decide +kernel
theorem dX8_even_160 : decode cX8_even 160 = .ok (.getfield 16, 3) := by decide +kernel
theorem dX8_even_163 : decode cX8_even 163 = .ok (.iload 5, 2) := by decide +kernel
theorem dX8_even_165 : decode cX8_even 165 = .ok (.iaload, 1) := by decide +kernel
theorem dX8_even_166 : decode cX8_even 166 = .ok (.iload 4, 2) := by decide +kernel
theorem dX8_even_168 : decode cX8_even 168 = .ok (.if_icmp .ne 93, 3) := by decide +kernel
theorem dX8_even_171 : decode cX8_even 171 = .ok (.aload_n 0, 1) := by decide +kernel
theorem dX8_even_172 : decode cX8_even 172 = .ok (.iload 5, 2) := by decide +kernel
theorem dX8_even_174 : decode cX8_even 174 = .ok (.iload_n 3, 1) := by decide +kernel
theorem dX8_even_175 : decode cX8_even 175 = .ok (.iload 4, 2) := by decide +kernel
theorem dX8_even_177 : decode cX8_even 177 = .ok (.invokevirtual 103, 3) := by decide +kernel
theorem dX8_even_180 : decode cX8_even 180 = .ok (.istore 7, 2) := by decide +kernel
theorem dX8_even_182 : decode cX8_even 182 = .ok (.iconst 0, 1) := by decide +kernel
theorem dX8_even_183 : decode cX8_even 183 = .ok (.istore 8, 2) := by decide +kernel
theorem dX8_even_185 : decode cX8_even 185 = .ok (.iconst 0, 1) := by decide +kernel
theorem dX8_even_186 : decode cX8_even 186 = .ok (.istore 9, 2) := by decide +kernel
theorem dX8_even_188 : decode cX8_even 188 = .ok (.iload 9, 2) := by decide +kernel
theorem dX8_even_190 : decode cX8_even 190 = .ok (.aload_n 0, 1) := by decide +kernel
theorem dX8_even_191 : decode cX8_even 191 = .ok (.getfield 57, 3) := by decide +kernel
theorem dX8_even_194 : decode cX8_even 194 = .ok (.if_icmp .ge 41, 3) := by decide +kernel
theorem dX8_even_197 : decode cX8_even 197 = .ok (.iload 7, 2) := by decide +kernel
theorem dX8_even_199 : decode cX8_even 199 = .ok (.iload 9, 2) := by decide +kernel
theorem dX8_even_201 : decode cX8_even 201 = .ok (.ishr, 1) := by decide +kernel
theorem dX8_even_202 : decode cX8_even 202 = .ok (.iconst 1, 1) := by decide +kernel
theorem dX8_even_203 : decode cX8_even 203 = .ok (.iand, 1) := by decide +kernel
theorem dX8_even_204 : decode cX8_even 204 = .ok (.iconst 1, 1) := by decide +kernel
theorem dX8_even_205 : decode cX8_even 205 = .ok (.if_icmp .ne 24, 3) := by decide +kernel
theorem dX8_even_208 : decode cX8_even 208 = .ok (.iload 8, 2) := by decide +kernel
theorem dX8_even_210 : decode cX8_even 210 = .ok (.aload_n 0, 1) := by decide +kernel
theorem dX8_even_211 : decode cX8_even 211 = .ok (.getfield 16, 3) := by decide +kernel
theorem dX8_even_214 : decode cX8_even 214 = .ok (.iload 9, 2) := by decide +kernel
theorem dX8_even_216 : decode cX8_even 216 = .ok (.iaload, 1) := by decide +kernel
theorem dX8_even_217 : decode cX8_even 217 = .ok (.iload_n 3, 1) := by decide +kernel
theorem dX8_even_218 : decode cX8_even 218 = .ok (.if_icmp .ne 7, 3) := by decide +kernel
theorem dX8_even_221 : decode cX8_even 221 = .ok (.iconst 1, 1) := by decide +kernel
theorem dX8_even_222 : decode cX8_even 222 = .ok (.goto 4, 3) := by decide +kernel
theorem dX8_even_225 : decode cX8_even 225 = .ok (.iconst (-1), 1) := by decide +kernel
theorem dX8_even_226 : decode cX8_even 226 = .ok (.iadd, 1) := by decide +kernel
theorem dX8_even_227 : decode cX8_even 227 = .ok (.istore 8, 2) := by decide +kernel
theorem dX8_even_229 : decode cX8_even 229 = .ok (.iinc 9 1, 3) := by decide +kernel
theorem dX8_even_232 : decode cX8_even 232 = .ok (.goto (-44), 3) := by decide +kernel
theorem dX8_even_235 : decode cX8_even 235 = .ok (.iload 8, 2) := by decide +kernel
theorem dX8_even_237 : decode cX8_even 237 = .ok (.ifCond .le 7, 3) := by decide +kernel
theorem dX8_even_240 : decode cX8_even 240 = .ok (.iconst 1, 1) := by decide +kernel
theorem dX8_even_241 : decode cX8_even 241 = .ok (.goto 4, 3) := by decide +kernel
theorem dX8_even_244 : decode cX8_even 244 = .ok (.iconst 0, 1) := by decide +kernel
theorem dX8_even_245 : decode cX8_even 245 = .ok (.istore 6, 2) := by decide +kernel
theorem dX8_even_247 : decode cX8_even 247 = .ok (.iload 6, 2) := by decide +kernel
theorem dX8_even_249 : decode cX8_even 249 = .ok (.ifCond .eq 12, 3) := by decide +kernel
theorem dX8_even_252 : decode cX8_even 252 = .ok (.aload_n 0, 1) := by decide +kernel
theorem dX8_even_253 : decode cX8_even 253 = .ok (.iload 7, 2) := by decide +kernel
theorem dX8_even_255 : decode cX8_even 255 = .ok (.iload_n 3, 1) := by decide +kernel
theorem dX8_even_256 : decode cX8_even 256 = .ok (.iload 4, 2) := by decide +kernel
theorem dX8_even_258 : decode cX8_even 258 = .ok (.invokevirtual 110, 3) := by decide +kernel
theorem dX8_even_261 : decode cX8_even 261 = .ok (.iinc 5 1, 3) := by decide +kernel
theorem dX8_even_264 : decode cX8_even 264 = .ok (.goto (-121), 3) := by decide +kernel
theorem dX8_even_267 : decode cX8_even 267 = .ok (.iinc 2 1, 3) := by decide +kernel
theorem dX8_even_270 : decode cX8_even 270 = .ok (.goto (-207), 3) := by decide +kernel
theorem dX8_lookAtRoads_0 : decode cX8_lookAtRoads 0 = .ok (.iconst 0, 1) := by decide +kernel
theorem dX8_lookAtRoads_1 : decode cX8_lookAtRoads 1 = .ok (.istore_n 1, 1) := by decide +kernel
theorem dX8_lookAtRoads_2 : decode cX8_lookAtRoads 2 = .ok (.iload_n 1, 1) := by decide +kernel
theorem dX8_lookAtRoads_3 : decode cX8_lookAtRoads 3 = .ok (.aload_n 0, 1) := by decide +kernel
theorem dX8_lookAtRoads_4 : decode cX8_lookAtRoads 4 = .ok (.getfield 57, 3) := by decide +kernel
theorem dX8_lookAtRoads_7 : decode cX8_lookAtRoads 7 = .ok (.if_icmp .ge 76, 3) := by decide +kernel
theorem dX8_lookAtRoads_10 : decode cX8_lookAtRoads 10 = .ok (.aload_n 0, 1) := by decide +kernel
theorem dX8_lookAtRoads_11 : decode cX8_lookAtRoads 11 = .ok (.getfield 38, 3) := by decide +kernel
theorem dX8_lookAtRoads_14 : decode cX8_lookAtRoads 14 = .ok (.iload_n 1, 1) := by decide +kernel
theorem dX8_lookAtRoads_15 : decode cX8_lookAtRoads 15 = .ok (.iconst 0, 1) := by decide +kernel
theorem dX8_lookAtRoads_16 : decode cX8_lookAtRoads 16 = .ok (.iastore, 1) := by decide +kernel
theorem dX8_lookAtRoads_17 : decode cX8_lookAtRoads 17 = .ok (.iconst 0, 1) := by decide +kernel
theorem dX8_lookAtRoads_18 : decode cX8_lookAtRoads 18 = .ok (.istore_n 2, 1) := by decide +kernel
theorem dX8_lookAtRoads_19 : decode cX8_lookAtRoads 19 = .ok (.iload_n 2, 1) := by decide +kernel
theorem dX8_lookAtRoads_20 : decode cX8_lookAtRoads 20 = .ok (.aload_n 0, 1) := by decide +kernel
theorem dX8_lookAtRoads_21 : decode cX8_lookAtRoads 21 = .ok (.getfield 57, 3) := by decide +kernel
theorem dX8_lookAtRoads_24 : decode cX8_lookAtRoads 24 = .ok (.if_icmp .ge 39, 3) := by decide +kernel
theorem dX8_lookAtRoads_27 : decode cX8_lookAtRoads 27 = .ok (.aload_n 0, 1) := by decide +kernel
theorem dX8_lookAtRoads_28 : decode cX8_lookAtRoads 28 = .ok (.getfield 38, 3) := by decide +kernel
theorem dX8_lookAtRoads_31 : decode cX8_lookAtRoads 31 = .ok (.iload_n 1, 1) := by decide +kernel
theorem dX8_lookAtRoads_32 : decode cX8_lookAtRoads 32 = .ok (.dup2, 1) := by decide +kernel
theorem dX8_lookAtRoads_33 : decode cX8_lookAtRoads 33 = .ok (.iaload, 1) := by decide +kernel
theorem dX8_lookAtRoads_34 : decode cX8_lookAtRoads 34 = .ok (.iload_n 2, 1) := by decide +kernel
theorem dX8_lookAtRoads_35 : decode cX8_lookAtRoads 35 = .ok (.iload_n 1, 1) := by decide +kernel
theorem dX8_lookAtRoads_36 : decode cX8_lookAtRoads 36 = .ok (.if_icmp .eq 18, 3) := by decide +kernel
theorem dX8_lookAtRoads_39 : decode cX8_lookAtRoads 39 = .ok (.aload_n 0, 1) := by decide +kernel
theorem dX8_lookAtRoads_40 : decode cX8_lookAtRoads 40 = .ok (.iload_n 1, 1) := by decide +kernel
theorem dX8_lookAtRoads_41 : decode cX8_lookAtRoads 41 = .ok (.iload_n 2, 1) := by decide +kernel
theorem dX8_lookAtRoads_42 : decode cX8_lookAtRoads 42 = .ok (.invokevirtual 91, 3) := by decide +kernel
theorem dX8_lookAtRoads_45 : decode cX8_lookAtRoads 45 = .ok (.ifCond .eq 9, 3) := by decide +kernel
theorem dX8_lookAtRoads_48 : decode cX8_lookAtRoads 48 = .ok (.iconst 1, 1) := by decide +kernel
theorem dX8_lookAtRoads_49 : decode cX8_lookAtRoads 49 = .ok (.iload_n 2, 1) := by decide +kernel
theorem dX8_lookAtRoads_50 : decode cX8_lookAtRoads 50 = .ok (.ishl, 1) := by decide +kernel
theorem dX8_lookAtRoads_51 : decode cX8_lookAtRoads 51 = .ok (.goto 4, 3) := by decide +kernel
theorem dX8_lookAtRoads_54 : decode cX8_lookAtRoads 54 = .ok (.iconst 0, 1) := by decide +kernel
theorem dX8_lookAtRoads_55 : decode cX8_lookAtRoads 55 = .ok (.ior, 1) := by decide +kernel
theorem dX8_lookAtRoads_56 : decode cX8_lookAtRoads 56 = .ok (.iastore, 1) := by decide +kernel
theorem dX8_lookAtRoads_57 : decode cX8_lookAtRoads 57 = .ok (.iinc 2 1, 3) := by decide +kernel
theorem dX8_lookAtRoads_60 : decode cX8_lookAtRoads 60 = .ok (.goto (-41), 3) := by decide +kernel
theorem dX8_lookAtRoads_63 : decode cX8_lookAtRoads 63 = .ok (.aload_n 0, 1) := by decide +kernel
theorem dX8_lookAtRoads_64 : decode cX8_lookAtRoads 64 = .ok (.getfield 41, 3) := by decide +kernel
theorem dX8_lookAtRoads_67 : decode cX8_lookAtRoads 67 = .ok (.iload_n 1, 1) := by decide +kernel
theorem dX8_lookAtRoads_68 : decode cX8_lookAtRoads 68 = .ok (.iconst 0, 1) := by decide +kernel
theorem dX8_lookAtRoads_69 : decode cX8_lookAtRoads 69 = .ok (.iastore, 1) := by decide +kernel
theorem dX8_lookAtRoads_70 : decode cX8_lookAtRoads 70 = .ok (.aload_n 0, 1) := by decide +kernel
theorem dX8_lookAtRoads_71 : decode cX8_lookAtRoads 71 = .ok (.getfield 35, 3) := by decide +kernel
theorem dX8_lookAtRoads_74 : decode cX8_lookAtRoads 74 = .ok (.iload_n 1, 1) := by decide +kernel
theorem dX8_lookAtRoads_75 : decode cX8_lookAtRoads 75 = .ok (.iconst (-1), 1) := by decide +kernel
theorem dX8_lookAtRoads_76 : decode cX8_lookAtRoads 76 = .ok (.iastore, 1) := by decide +kernel
theorem dX8_lookAtRoads_77 : decode cX8_lookAtRoads 77 = .ok (.iinc 1 1, 3) := by decide +kernel
theorem dX8_lookAtRoads_80 : decode cX8_lookAtRoads 80 = .ok (.goto (-78), 3) := by decide +kernel
theorem dX8_lookAtRoads_83 : decode cX8_lookAtRoads 83 = .ok (.aload_n 0, 1) := by decide +kernel
theorem dX8_lookAtRoads_84 : decode cX8_lookAtRoads 84 = .ok (.getfield 44, 3) := by decide +kernel
theorem dX8_lookAtRoads_87 : decode cX8_lookAtRoads 87 = .ok (.iconst 0, 1) := by decide +kernel
theorem dX8_lookAtRoads_88 : decode cX8_lookAtRoads 88 = .ok (.iconst 0, 1) := by decide +kernel
theorem dX8_lookAtRoads_89 : decode cX8_lookAtRoads 89 = .ok (.iastore, 1) := by decide +kernel
theorem dX8_lookAtRoads_90 : decode cX8_lookAtRoads 90 = .ok (.return_, 1) := by decide +kernel
theorem dX8_goesOn_0 : decode cX8_goesOn 0 = .ok (.aload_n 0, 1) := by decide +kernel
theorem dX8_goesOn_1 : decode cX8_goesOn 1 = .ok (.getfield 35, 3) := by decide +kernel
theorem dX8_goesOn_4 : decode cX8_goesOn 4 = .ok (.iload_n 1, 1) := by decide +kernel
theorem dX8_goesOn_5 : decode cX8_goesOn 5 = .ok (.iaload, 1) := by decide +kernel
theorem dX8_goesOn_6 : decode cX8_goesOn 6 = .ok (.istore_n 3, 1) := by decide +kernel
theorem dX8_goesOn_7 : decode cX8_goesOn 7 = .ok (.iload_n 3, 1) := by decide +kernel
theorem dX8_goesOn_8 : decode cX8_goesOn 8 = .ok (.ifCond .lt 17, 3) := by decide +kernel
theorem dX8_goesOn_11 : decode cX8_goesOn 11 = .ok (.aload_n 0, 1) := by decide +kernel
theorem dX8_goesOn_12 : decode cX8_goesOn 12 = .ok (.getfield 41, 3) := by decide +kernel
theorem dX8_goesOn_15 : decode cX8_goesOn 15 = .ok (.iload_n 3, 1) := by decide +kernel
theorem dX8_goesOn_16 : decode cX8_goesOn 16 = .ok (.dup2, 1) := by decide +kernel
theorem dX8_goesOn_17 : decode cX8_goesOn 17 = .ok (.iaload, 1) := by decide +kernel
theorem dX8_goesOn_18 : decode cX8_goesOn 18 = .ok (.iconst 1, 1) := by decide +kernel
theorem dX8_goesOn_19 : decode cX8_goesOn 19 = .ok (.iload_n 1, 1) := by decide +kernel
theorem dX8_goesOn_20 : decode cX8_goesOn 20 = .ok (.ishl, 1) := by decide +kernel
theorem dX8_goesOn_21 : decode cX8_goesOn 21 = .ok (.iconst (-1), 1) := by decide +kernel
theorem dX8_goesOn_22 : decode cX8_goesOn 22 = .ok (.ixor, 1) := by decide +kernel
theorem dX8_goesOn_23 : decode cX8_goesOn 23 = .ok (.iand, 1) := by decide +kernel
theorem dX8_goesOn_24 : decode cX8_goesOn 24 = .ok (.iastore, 1) := by decide +kernel
theorem dX8_goesOn_25 : decode cX8_goesOn 25 = .ok (.iinc 3 1, 3) := by decide +kernel
theorem dX8_goesOn_28 : decode cX8_goesOn 28 = .ok (.iload_n 3, 1) := by decide +kernel
theorem dX8_goesOn_29 : decode cX8_goesOn 29 = .ok (.iload_n 2, 1) := by decide +kernel
theorem dX8_goesOn_30 : decode cX8_goesOn 30 = .ok (.if_icmp .ge 35, 3) := by decide +kernel
theorem dX8_goesOn_33 : decode cX8_goesOn 33 = .ok (.iload_n 3, 1) := by decide +kernel
theorem dX8_goesOn_34 : decode cX8_goesOn 34 = .ok (.aload_n 0, 1) := by decide +kernel
theorem dX8_goesOn_35 : decode cX8_goesOn 35 = .ok (.getfield 44, 3) := by decide +kernel
theorem dX8_goesOn_38 : decode cX8_goesOn 38 = .ok (.iload_n 1, 1) := by decide +kernel
theorem dX8_goesOn_39 : decode cX8_goesOn 39 = .ok (.iaload, 1) := by decide +kernel
theorem dX8_goesOn_40 : decode cX8_goesOn 40 = .ok (.if_icmp .gt 25, 3) := by decide +kernel
theorem dX8_goesOn_43 : decode cX8_goesOn 43 = .ok (.aload_n 0, 1) := by decide +kernel
theorem dX8_goesOn_44 : decode cX8_goesOn 44 = .ok (.getfield 41, 3) := by decide +kernel
theorem dX8_goesOn_47 : decode cX8_goesOn 47 = .ok (.iload_n 3, 1) := by decide +kernel
theorem dX8_goesOn_48 : decode cX8_goesOn 48 = .ok (.iaload, 1) := by decide +kernel
theorem dX8_goesOn_49 : decode cX8_goesOn 49 = .ok (.aload_n 0, 1) := by decide +kernel
theorem dX8_goesOn_50 : decode cX8_goesOn 50 = .ok (.getfield 38, 3) := by decide +kernel
theorem dX8_goesOn_53 : decode cX8_goesOn 53 = .ok (.iload_n 1, 1) := by decide +kernel
theorem dX8_goesOn_54 : decode cX8_goesOn 54 = .ok (.iaload, 1) := by decide +kernel
theorem dX8_goesOn_55 : decode cX8_goesOn 55 = .ok (.iand, 1) := by decide +kernel
theorem dX8_goesOn_56 : decode cX8_goesOn 56 = .ok (.ifCond .eq 9, 3) := by decide +kernel
theorem dX8_goesOn_59 : decode cX8_goesOn 59 = .ok (.iinc 3 1, 3) := by decide +kernel
theorem dX8_goesOn_62 : decode cX8_goesOn 62 = .ok (.goto (-34), 3) := by decide +kernel
theorem dX8_goesOn_65 : decode cX8_goesOn 65 = .ok (.iload_n 3, 1) := by decide +kernel
theorem dX8_goesOn_66 : decode cX8_goesOn 66 = .ok (.iload_n 2, 1) := by decide +kernel
theorem dX8_goesOn_67 : decode cX8_goesOn 67 = .ok (.if_icmp .ge 13, 3) := by decide +kernel
theorem dX8_goesOn_70 : decode cX8_goesOn 70 = .ok (.iload_n 3, 1) := by decide +kernel
theorem dX8_goesOn_71 : decode cX8_goesOn 71 = .ok (.aload_n 0, 1) := by decide +kernel
theorem dX8_goesOn_72 : decode cX8_goesOn 72 = .ok (.getfield 44, 3) := by decide +kernel
theorem dX8_goesOn_75 : decode cX8_goesOn 75 = .ok (.iload_n 1, 1) := by decide +kernel
theorem dX8_goesOn_76 : decode cX8_goesOn 76 = .ok (.iaload, 1) := by decide +kernel
theorem dX8_goesOn_77 : decode cX8_goesOn 77 = .ok (.if_icmp .le 12, 3) := by decide +kernel
theorem dX8_goesOn_80 : decode cX8_goesOn 80 = .ok (.aload_n 0, 1) := by decide +kernel
theorem dX8_goesOn_81 : decode cX8_goesOn 81 = .ok (.getfield 35, 3) := by decide +kernel
theorem dX8_goesOn_84 : decode cX8_goesOn 84 = .ok (.iload_n 1, 1) := by decide +kernel
theorem dX8_goesOn_85 : decode cX8_goesOn 85 = .ok (.iconst (-1), 1) := by decide +kernel
theorem dX8_goesOn_86 : decode cX8_goesOn 86 = .ok (.iastore, 1) := by decide +kernel
theorem dX8_goesOn_87 : decode cX8_goesOn 87 = .ok (.iconst 0, 1) := by decide +kernel
theorem dX8_goesOn_88 : decode cX8_goesOn 88 = .ok (.ireturn, 1) := by decide +kernel
theorem dX8_goesOn_89 : decode cX8_goesOn 89 = .ok (.aload_n 0, 1) := by decide +kernel
theorem dX8_goesOn_90 : decode cX8_goesOn 90 = .ok (.getfield 35, 3) := by decide +kernel
theorem dX8_goesOn_93 : decode cX8_goesOn 93 = .ok (.iload_n 1, 1) := by decide +kernel
theorem dX8_goesOn_94 : decode cX8_goesOn 94 = .ok (.iload_n 3, 1) := by decide +kernel
theorem dX8_goesOn_95 : decode cX8_goesOn 95 = .ok (.iastore, 1) := by decide +kernel
theorem dX8_goesOn_96 : decode cX8_goesOn 96 = .ok (.aload_n 0, 1) := by decide +kernel
theorem dX8_goesOn_97 : decode cX8_goesOn 97 = .ok (.getfield 41, 3) := by decide +kernel
theorem dX8_goesOn_100 : decode cX8_goesOn 100 = .ok (.iload_n 3, 1) := by decide +kernel
theorem dX8_goesOn_101 : decode cX8_goesOn 101 = .ok (.dup2, 1) := by decide +kernel
theorem dX8_goesOn_102 : decode cX8_goesOn 102 = .ok (.iaload, 1) := by decide +kernel
theorem dX8_goesOn_103 : decode cX8_goesOn 103 = .ok (.iconst 1, 1) := by decide +kernel
theorem dX8_goesOn_104 : decode cX8_goesOn 104 = .ok (.iload_n 1, 1) := by decide +kernel
theorem dX8_goesOn_105 : decode cX8_goesOn 105 = .ok (.ishl, 1) := by decide +kernel
theorem dX8_goesOn_106 : decode cX8_goesOn 106 = .ok (.ior, 1) := by decide +kernel
theorem dX8_goesOn_107 : decode cX8_goesOn 107 = .ok (.iastore, 1) := by decide +kernel
theorem dX8_goesOn_108 : decode cX8_goesOn 108 = .ok (.aload_n 0, 1) := by decide +kernel
theorem dX8_goesOn_109 : decode cX8_goesOn 109 = .ok (.getfield 44, 3) := by decide +kernel
theorem dX8_goesOn_112 : decode cX8_goesOn 112 = .ok (.iload_n 1, 1) := by decide +kernel
theorem dX8_goesOn_113 : decode cX8_goesOn 113 = .ok (.iconst 1, 1) := by decide +kernel
theorem dX8_goesOn_114 : decode cX8_goesOn 114 = .ok (.iadd, 1) := by decide +kernel
theorem dX8_goesOn_115 : decode cX8_goesOn 115 = .ok (.iload_n 3, 1) := by decide +kernel
theorem dX8_goesOn_116 : decode cX8_goesOn 116 = .ok (.aload_n 0, 1) := by decide +kernel
theorem dX8_goesOn_117 : decode cX8_goesOn 117 = .ok (.getfield 44, 3) := by decide +kernel
theorem dX8_goesOn_120 : decode cX8_goesOn 120 = .ok (.iload_n 1, 1) := by decide +kernel
theorem dX8_goesOn_121 : decode cX8_goesOn 121 = .ok (.iaload, 1) := by decide +kernel
theorem dX8_goesOn_122 : decode cX8_goesOn 122 = .ok (.if_icmp .ne 9, 3) := by decide +kernel
theorem dX8_goesOn_125 : decode cX8_goesOn 125 = .ok (.iload_n 3, 1) := by decide +kernel
theorem dX8_goesOn_126 : decode cX8_goesOn 126 = .ok (.iconst 1, 1) := by decide +kernel
theorem dX8_goesOn_127 : decode cX8_goesOn 127 = .ok (.iadd, 1) := by decide +kernel
theorem dX8_goesOn_128 : decode cX8_goesOn 128 = .ok (.goto 9, 3) := by decide +kernel
theorem dX8_goesOn_131 : decode cX8_goesOn 131 = .ok (.aload_n 0, 1) := by decide +kernel
theorem dX8_goesOn_132 : decode cX8_goesOn 132 = .ok (.getfield 44, 3) := by decide +kernel
theorem dX8_goesOn_135 : decode cX8_goesOn 135 = .ok (.iload_n 1, 1) := by decide +kernel
theorem dX8_goesOn_136 : decode cX8_goesOn 136 = .ok (.iaload, 1) := by decide +kernel
theorem dX8_goesOn_137 : decode cX8_goesOn 137 = .ok (.iastore, 1) := by decide +kernel
theorem dX8_goesOn_138 : decode cX8_goesOn 138 = .ok (.iconst 1, 1) := by decide +kernel
theorem dX8_goesOn_139 : decode cX8_goesOn 139 = .ok (.ireturn, 1) := by decide +kernel
theorem dX8_tries_0 : decode cX8_tries 0 = .ok (.aload_n 0, 1) := by decide +kernel
theorem dX8_tries_1 : decode cX8_tries 1 = .ok (.invokevirtual 136, 3) := by decide +kernel
theorem dX8_tries_4 : decode cX8_tries 4 = .ok (.iconst 0, 1) := by decide +kernel
theorem dX8_tries_5 : decode cX8_tries 5 = .ok (.istore_n 3, 1) := by decide +kernel
theorem dX8_tries_6 : decode cX8_tries 6 = .ok (.iload_n 3, 1) := by decide +kernel
theorem dX8_tries_7 : decode cX8_tries 7 = .ok (.aload_n 0, 1) := by decide +kernel
theorem dX8_tries_8 : decode cX8_tries 8 = .ok (.getfield 57, 3) := by decide +kernel
theorem dX8_tries_11 : decode cX8_tries 11 = .ok (.if_icmp .ge 60, 3) := by decide +kernel
theorem dX8_tries_14 : decode cX8_tries 14 = .ok (.iload_n 3, 1) := by decide +kernel
theorem dX8_tries_15 : decode cX8_tries 15 = .ok (.iload_n 2, 1) := by decide +kernel
theorem dX8_tries_16 : decode cX8_tries 16 = .ok (.if_icmp .ne 23, 3) := by decide +kernel
theorem dX8_tries_19 : decode cX8_tries 19 = .ok (.aload_n 0, 1) := by decide +kernel
theorem dX8_tries_20 : decode cX8_tries 20 = .ok (.getfield 44, 3) := by decide +kernel
theorem dX8_tries_23 : decode cX8_tries 23 = .ok (.iload_n 3, 1) := by decide +kernel
theorem dX8_tries_24 : decode cX8_tries 24 = .ok (.iconst 1, 1) := by decide +kernel
theorem dX8_tries_25 : decode cX8_tries 25 = .ok (.iadd, 1) := by decide +kernel
theorem dX8_tries_26 : decode cX8_tries 26 = .ok (.aload_n 0, 1) := by decide +kernel
theorem dX8_tries_27 : decode cX8_tries 27 = .ok (.getfield 44, 3) := by decide +kernel
theorem dX8_tries_30 : decode cX8_tries 30 = .ok (.iload_n 3, 1) := by decide +kernel
theorem dX8_tries_31 : decode cX8_tries 31 = .ok (.iaload, 1) := by decide +kernel
theorem dX8_tries_32 : decode cX8_tries 32 = .ok (.iastore, 1) := by decide +kernel
theorem dX8_tries_33 : decode cX8_tries 33 = .ok (.iinc 3 1, 3) := by decide +kernel
theorem dX8_tries_36 : decode cX8_tries 36 = .ok (.goto (-30), 3) := by decide +kernel
theorem dX8_tries_39 : decode cX8_tries 39 = .ok (.aload_n 0, 1) := by decide +kernel
theorem dX8_tries_40 : decode cX8_tries 40 = .ok (.iload_n 3, 1) := by decide +kernel
theorem dX8_tries_41 : decode cX8_tries 41 = .ok (.iload_n 1, 1) := by decide +kernel
theorem dX8_tries_42 : decode cX8_tries 42 = .ok (.invokevirtual 139, 3) := by decide +kernel
theorem dX8_tries_45 : decode cX8_tries 45 = .ok (.ifCond .eq 9, 3) := by decide +kernel
theorem dX8_tries_48 : decode cX8_tries 48 = .ok (.iinc 3 1, 3) := by decide +kernel
theorem dX8_tries_51 : decode cX8_tries 51 = .ok (.goto (-45), 3) := by decide +kernel
theorem dX8_tries_54 : decode cX8_tries 54 = .ok (.iinc 3 (-1), 3) := by decide +kernel
theorem dX8_tries_57 : decode cX8_tries 57 = .ok (.iload_n 3, 1) := by decide +kernel
theorem dX8_tries_58 : decode cX8_tries 58 = .ok (.iload_n 2, 1) := by decide +kernel
theorem dX8_tries_59 : decode cX8_tries 59 = .ok (.if_icmp .ne 6, 3) := by decide +kernel
theorem dX8_tries_62 : decode cX8_tries 62 = .ok (.iinc 3 (-1), 3) := by decide +kernel
theorem dX8_tries_65 : decode cX8_tries 65 = .ok (.iload_n 3, 1) := by decide +kernel
theorem dX8_tries_66 : decode cX8_tries 66 = .ok (.ifCond .ge (-60), 3) := by decide +kernel
theorem dX8_tries_69 : decode cX8_tries 69 = .ok (.iconst 0, 1) := by decide +kernel
theorem dX8_tries_70 : decode cX8_tries 70 = .ok (.ireturn, 1) := by decide +kernel
theorem dX8_tries_71 : decode cX8_tries 71 = .ok (.iconst 1, 1) := by decide +kernel
theorem dX8_tries_72 : decode cX8_tries 72 = .ok (.ireturn, 1) := by decide +kernel
theorem dX8_leastOf_0 : decode cX8_leastOf 0 = .ok (.iconst 0, 1) := by decide +kernel
theorem dX8_leastOf_1 : decode cX8_leastOf 1 = .ok (.istore_n 2, 1) := by decide +kernel
theorem dX8_leastOf_2 : decode cX8_leastOf 2 = .ok (.aload_n 0, 1) := by decide +kernel
theorem dX8_leastOf_3 : decode cX8_leastOf 3 = .ok (.iload_n 2, 1) := by decide +kernel
theorem dX8_leastOf_4 : decode cX8_leastOf 4 = .ok (.iload_n 1, 1) := by decide +kernel
theorem dX8_leastOf_5 : decode cX8_leastOf 5 = .ok (.invokevirtual 142, 3) := by decide +kernel
theorem dX8_leastOf_8 : decode cX8_leastOf 8 = .ok (.ifCond .ne 9, 3) := by decide +kernel
theorem dX8_leastOf_11 : decode cX8_leastOf 11 = .ok (.iinc 2 1, 3) := by decide +kernel
theorem dX8_leastOf_14 : decode cX8_leastOf 14 = .ok (.goto (-12), 3) := by decide +kernel
theorem dX8_leastOf_17 : decode cX8_leastOf 17 = .ok (.iload_n 2, 1) := by decide +kernel
theorem dX8_leastOf_18 : decode cX8_leastOf 18 = .ok (.ireturn, 1) := by decide +kernel
theorem dX8_needOf_0 : decode cX8_needOf 0 = .ok (.iload_n 1, 1) := by decide +kernel
theorem dX8_needOf_1 : decode cX8_needOf 1 = .ok (.invokestatic 107, 3) := by decide +kernel
theorem dX8_needOf_4 : decode cX8_needOf 4 = .ok (.istore_n 2, 1) := by decide +kernel
theorem dX8_needOf_5 : decode cX8_needOf 5 = .ok (.iconst 0, 1) := by decide +kernel
theorem dX8_needOf_6 : decode cX8_needOf 6 = .ok (.istore_n 3, 1) := by decide +kernel
theorem dX8_needOf_7 : decode cX8_needOf 7 = .ok (.iconst 0, 1) := by decide +kernel
theorem dX8_needOf_8 : decode cX8_needOf 8 = .ok (.istore 4, 2) := by decide +kernel
theorem dX8_needOf_10 : decode cX8_needOf 10 = .ok (.iload 4, 2) := by decide +kernel
theorem dX8_needOf_12 : decode cX8_needOf 12 = .ok (.aload_n 0, 1) := by decide +kernel
theorem dX8_needOf_13 : decode cX8_needOf 13 = .ok (.getfield 57, 3) := by decide +kernel
theorem dX8_needOf_16 : decode cX8_needOf 16 = .ok (.if_icmp .ge 33, 3) := by decide +kernel
theorem dX8_needOf_19 : decode cX8_needOf 19 = .ok (.iload_n 3, 1) := by decide +kernel
theorem dX8_needOf_20 : decode cX8_needOf 20 = .ok (.iload_n 1, 1) := by decide +kernel
theorem dX8_needOf_21 : decode cX8_needOf 21 = .ok (.aload_n 0, 1) := by decide +kernel
theorem dX8_needOf_22 : decode cX8_needOf 22 = .ok (.getfield 7, 3) := by decide +kernel
theorem dX8_needOf_25 : decode cX8_needOf 25 = .ok (.iload 4, 2) := by decide +kernel
theorem dX8_needOf_27 : decode cX8_needOf 27 = .ok (.iaload, 1) := by decide +kernel
theorem dX8_needOf_28 : decode cX8_needOf 28 = .ok (.ishr, 1) := by decide +kernel
theorem dX8_needOf_29 : decode cX8_needOf 29 = .ok (.iload_n 1, 1) := by decide +kernel
theorem dX8_needOf_30 : decode cX8_needOf 30 = .ok (.aload_n 0, 1) := by decide +kernel
theorem dX8_needOf_31 : decode cX8_needOf 31 = .ok (.getfield 13, 3) := by decide +kernel
theorem dX8_needOf_34 : decode cX8_needOf 34 = .ok (.iload 4, 2) := by decide +kernel
theorem dX8_needOf_36 : decode cX8_needOf 36 = .ok (.iaload, 1) := by decide +kernel
theorem dX8_needOf_37 : decode cX8_needOf 37 = .ok (.ishr, 1) := by decide +kernel
theorem dX8_needOf_38 : decode cX8_needOf 38 = .ok (.iand, 1) := by decide +kernel
theorem dX8_needOf_39 : decode cX8_needOf 39 = .ok (.iconst 1, 1) := by decide +kernel
theorem dX8_needOf_40 : decode cX8_needOf 40 = .ok (.iand, 1) := by decide +kernel
theorem dX8_needOf_41 : decode cX8_needOf 41 = .ok (.iadd, 1) := by decide +kernel
theorem dX8_needOf_42 : decode cX8_needOf 42 = .ok (.istore_n 3, 1) := by decide +kernel
theorem dX8_needOf_43 : decode cX8_needOf 43 = .ok (.iinc 4 1, 3) := by decide +kernel
theorem dX8_needOf_46 : decode cX8_needOf 46 = .ok (.goto (-36), 3) := by decide +kernel
theorem dX8_needOf_49 : decode cX8_needOf 49 = .ok (.iload_n 2, 1) := by decide +kernel
theorem dX8_needOf_50 : decode cX8_needOf 50 = .ok (.iconst 2, 1) := by decide +kernel
theorem dX8_needOf_51 : decode cX8_needOf 51 = .ok (.idiv, 1) := by decide +kernel
theorem dX8_needOf_52 : decode cX8_needOf 52 = .ok (.istore 4, 2) := by decide +kernel
theorem dX8_needOf_54 : decode cX8_needOf 54 = .ok (.iload_n 3, 1) := by decide +kernel
theorem dX8_needOf_55 : decode cX8_needOf 55 = .ok (.iload 4, 2) := by decide +kernel
theorem dX8_needOf_57 : decode cX8_needOf 57 = .ok (.iadd, 1) := by decide +kernel
theorem dX8_needOf_58 : decode cX8_needOf 58 = .ok (.iconst 1, 1) := by decide +kernel
theorem dX8_needOf_59 : decode cX8_needOf 59 = .ok (.isub, 1) := by decide +kernel
theorem dX8_needOf_60 : decode cX8_needOf 60 = .ok (.iload 4, 2) := by decide +kernel
theorem dX8_needOf_62 : decode cX8_needOf 62 = .ok (.idiv, 1) := by decide +kernel
theorem dX8_needOf_63 : decode cX8_needOf 63 = .ok (.ireturn, 1) := by decide +kernel
theorem dX8_bound_0 : decode cX8_bound 0 = .ok (.aload_n 0, 1) := by decide +kernel
theorem dX8_bound_1 : decode cX8_bound 1 = .ok (.invokevirtual 121, 3) := by decide +kernel
theorem dX8_bound_4 : decode cX8_bound 4 = .ok (.istore_n 1, 1) := by decide +kernel
theorem dX8_bound_5 : decode cX8_bound 5 = .ok (.iconst 0, 1) := by decide +kernel
theorem dX8_bound_6 : decode cX8_bound 6 = .ok (.istore_n 2, 1) := by decide +kernel
theorem dX8_bound_7 : decode cX8_bound 7 = .ok (.iload_n 2, 1) := by decide +kernel
theorem dX8_bound_8 : decode cX8_bound 8 = .ok (.iconst 1, 1) := by decide +kernel
theorem dX8_bound_9 : decode cX8_bound 9 = .ok (.aload_n 0, 1) := by decide +kernel
theorem dX8_bound_10 : decode cX8_bound 10 = .ok (.getfield 68, 3) := by decide +kernel
theorem dX8_bound_13 : decode cX8_bound 13 = .ok (.ishl, 1) := by decide +kernel
theorem dX8_bound_14 : decode cX8_bound 14 = .ok (.if_icmp .ge 32, 3) := by decide +kernel
theorem dX8_bound_17 : decode cX8_bound 17 = .ok (.iload_n 2, 1) := by decide +kernel
theorem dX8_bound_18 : decode cX8_bound 18 = .ok (.invokestatic 107, 3) := by decide +kernel
theorem dX8_bound_21 : decode cX8_bound 21 = .ok (.iconst 2, 1) := by decide +kernel
theorem dX8_bound_22 : decode cX8_bound 22 = .ok (.if_icmp .le 18, 3) := by decide +kernel
theorem dX8_bound_25 : decode cX8_bound 25 = .ok (.aload_n 0, 1) := by decide +kernel
theorem dX8_bound_26 : decode cX8_bound 26 = .ok (.iload_n 2, 1) := by decide +kernel
theorem dX8_bound_27 : decode cX8_bound 27 = .ok (.invokevirtual 145, 3) := by decide +kernel
theorem dX8_bound_30 : decode cX8_bound 30 = .ok (.iload_n 1, 1) := by decide +kernel
theorem dX8_bound_31 : decode cX8_bound 31 = .ok (.if_icmp .le 9, 3) := by decide +kernel
theorem dX8_bound_34 : decode cX8_bound 34 = .ok (.aload_n 0, 1) := by decide +kernel
theorem dX8_bound_35 : decode cX8_bound 35 = .ok (.iload_n 2, 1) := by decide +kernel
theorem dX8_bound_36 : decode cX8_bound 36 = .ok (.invokevirtual 145, 3) := by decide +kernel
theorem dX8_bound_39 : decode cX8_bound 39 = .ok (.istore_n 1, 1) := by decide +kernel
theorem dX8_bound_40 : decode cX8_bound 40 = .ok (.iinc 2 1, 3) := by decide +kernel
theorem dX8_bound_43 : decode cX8_bound 43 = .ok (.goto (-36), 3) := by decide +kernel
theorem dX8_bound_46 : decode cX8_bound 46 = .ok (.iload_n 1, 1) := by decide +kernel
theorem dX8_bound_47 : decode cX8_bound 47 = .ok (.ireturn, 1) := by decide +kernel
theorem dX8_full_0 : decode cX8_full 0 = .ok (.iload_n 1, 1) := by decide +kernel
theorem dX8_full_1 : decode cX8_full 1 = .ok (.ifCond .ne 10, 3) := by decide +kernel
theorem dX8_full_4 : decode cX8_full 4 = .ok (.aload_n 0, 1) := by decide +kernel
theorem dX8_full_5 : decode cX8_full 5 = .ok (.invokevirtual 121, 3) := by decide +kernel
theorem dX8_full_8 : decode cX8_full 8 = .ok (.goto 49, 3) := by decide +kernel
theorem dX8_full_11 : decode cX8_full 11 = .ok (.iload_n 1, 1) := by decide +kernel
theorem dX8_full_12 : decode cX8_full 12 = .ok (.iconst 1, 1) := by decide +kernel
theorem dX8_full_13 : decode cX8_full 13 = .ok (.if_icmp .ne 10, 3) := by decide +kernel
theorem dX8_full_16 : decode cX8_full 16 = .ok (.aload_n 0, 1) := by decide +kernel
theorem dX8_full_17 : decode cX8_full 17 = .ok (.invokevirtual 148, 3) := by decide +kernel
theorem dX8_full_20 : decode cX8_full 20 = .ok (.goto 37, 3) := by decide +kernel
theorem dX8_full_23 : decode cX8_full 23 = .ok (.iload_n 1, 1) := by decide +kernel
theorem dX8_full_24 : decode cX8_full 24 = .ok (.iconst 2, 1) := by decide +kernel
theorem dX8_full_25 : decode cX8_full 25 = .ok (.if_icmp .ne 18, 3) := by decide +kernel
theorem dX8_full_28 : decode cX8_full 28 = .ok (.aload_n 0, 1) := by decide +kernel
theorem dX8_full_29 : decode cX8_full 29 = .ok (.invokevirtual 117, 3) := by decide +kernel
theorem dX8_full_32 : decode cX8_full 32 = .ok (.ifCond .eq 7, 3) := by decide +kernel
theorem dX8_full_35 : decode cX8_full 35 = .ok (.iconst 1, 1) := by decide +kernel
theorem dX8_full_36 : decode cX8_full 36 = .ok (.goto 21, 3) := by decide +kernel
theorem dX8_full_39 : decode cX8_full 39 = .ok (.iconst 0, 1) := by decide +kernel
theorem dX8_full_40 : decode cX8_full 40 = .ok (.goto 17, 3) := by decide +kernel
theorem dX8_full_43 : decode cX8_full 43 = .ok (.iload_n 1, 1) := by decide +kernel
theorem dX8_full_44 : decode cX8_full 44 = .ok (.iconst 3, 1) := by decide +kernel
theorem dX8_full_45 : decode cX8_full 45 = .ok (.if_icmp .ne 10, 3) := by decide +kernel
theorem dX8_full_48 : decode cX8_full 48 = .ok (.aload_n 0, 1) := by decide +kernel
theorem dX8_full_49 : decode cX8_full 49 = .ok (.invokevirtual 76, 3) := by decide +kernel
theorem dX8_full_52 : decode cX8_full 52 = .ok (.goto 5, 3) := by decide +kernel
theorem dX8_full_55 : decode cX8_full 55 = .ok (.bipush (-2), 2) := by decide +kernel
theorem dX8_full_57 : decode cX8_full 57 = .ok (.ireturn, 1) := by decide +kernel
theorem dX8_least_0 : decode cX8_least 0 = .ok (.aload_n 0, 1) := by decide +kernel
theorem dX8_least_1 : decode cX8_least 1 = .ok (.getfield 57, 3) := by decide +kernel
theorem dX8_least_4 : decode cX8_least 4 = .ok (.bipush 12, 2) := by decide +kernel
theorem dX8_least_6 : decode cX8_least 6 = .ok (.if_icmp .le 8, 3) := by decide +kernel
theorem dX8_least_9 : decode cX8_least 9 = .ok (.bipush (-2), 2) := by decide +kernel
theorem dX8_least_11 : decode cX8_least 11 = .ok (.goto 8, 3) := by decide +kernel
theorem dX8_least_14 : decode cX8_least 14 = .ok (.aload_n 0, 1) := by decide +kernel
theorem dX8_least_15 : decode cX8_least 15 = .ok (.iconst (-1), 1) := by decide +kernel
theorem dX8_least_16 : decode cX8_least 16 = .ok (.invokevirtual 151, 3) := by decide +kernel
theorem dX8_least_19 : decode cX8_least 19 = .ok (.ireturn, 1) := by decide +kernel
theorem dX8_first_0 : decode cX8_first 0 = .ok (.iload_n 1, 1) := by decide +kernel
theorem dX8_first_1 : decode cX8_first 1 = .ok (.iconst 0, 1) := by decide +kernel
theorem dX8_first_2 : decode cX8_first 2 = .ok (.bipush 16, 2) := by decide +kernel
theorem dX8_first_4 : decode cX8_first 4 = .ok (.invokestatic 60, 3) := by decide +kernel
theorem dX8_first_7 : decode cX8_first 7 = .ok (.ifCond .eq 12, 3) := by decide +kernel
theorem dX8_first_10 : decode cX8_first 10 = .ok (.aload_n 0, 1) := by decide +kernel
theorem dX8_first_11 : decode cX8_first 11 = .ok (.getfield 57, 3) := by decide +kernel
theorem dX8_first_14 : decode cX8_first 14 = .ok (.bipush 12, 2) := by decide +kernel
theorem dX8_first_16 : decode cX8_first 16 = .ok (.if_icmp .le 6, 3) := by decide +kernel
theorem dX8_first_19 : decode cX8_first 19 = .ok (.bipush (-2), 2) := by decide +kernel
theorem dX8_first_21 : decode cX8_first 21 = .ok (.ireturn, 1) := by decide +kernel
theorem dX8_first_22 : decode cX8_first 22 = .ok (.aload_n 0, 1) := by decide +kernel
theorem dX8_first_23 : decode cX8_first 23 = .ok (.iload_n 1, 1) := by decide +kernel
theorem dX8_first_24 : decode cX8_first 24 = .ok (.iconst (-1), 1) := by decide +kernel
theorem dX8_first_25 : decode cX8_first 25 = .ok (.invokevirtual 142, 3) := by decide +kernel
theorem dX8_first_28 : decode cX8_first 28 = .ok (.ifCond .ne 5, 3) := by decide +kernel
theorem dX8_first_31 : decode cX8_first 31 = .ok (.iconst 0, 1) := by decide +kernel
theorem dX8_first_32 : decode cX8_first 32 = .ok (.ireturn, 1) := by decide +kernel
theorem dX8_first_33 : decode cX8_first 33 = .ok (.iconst 0, 1) := by decide +kernel
theorem dX8_first_34 : decode cX8_first 34 = .ok (.istore_n 2, 1) := by decide +kernel
theorem dX8_first_35 : decode cX8_first 35 = .ok (.iload_n 2, 1) := by decide +kernel
theorem dX8_first_36 : decode cX8_first 36 = .ok (.aload_n 0, 1) := by decide +kernel
theorem dX8_first_37 : decode cX8_first 37 = .ok (.getfield 57, 3) := by decide +kernel
theorem dX8_first_40 : decode cX8_first 40 = .ok (.if_icmp .ge 21, 3) := by decide +kernel
theorem dX8_first_43 : decode cX8_first 43 = .ok (.aload_n 0, 1) := by decide +kernel
theorem dX8_first_44 : decode cX8_first 44 = .ok (.getfield 16, 3) := by decide +kernel
theorem dX8_first_47 : decode cX8_first 47 = .ok (.iload_n 2, 1) := by decide +kernel
theorem dX8_first_48 : decode cX8_first 48 = .ok (.aload_n 0, 1) := by decide +kernel
theorem dX8_first_49 : decode cX8_first 49 = .ok (.getfield 35, 3) := by decide +kernel
theorem dX8_first_52 : decode cX8_first 52 = .ok (.iload_n 2, 1) := by decide +kernel
theorem dX8_first_53 : decode cX8_first 53 = .ok (.iaload, 1) := by decide +kernel
theorem dX8_first_54 : decode cX8_first 54 = .ok (.iastore, 1) := by decide +kernel
theorem dX8_first_55 : decode cX8_first 55 = .ok (.iinc 2 1, 3) := by decide +kernel
theorem dX8_first_58 : decode cX8_first 58 = .ok (.goto (-23), 3) := by decide +kernel
theorem dX8_first_61 : decode cX8_first 61 = .ok (.iconst 1, 1) := by decide +kernel
theorem dX8_first_62 : decode cX8_first 62 = .ok (.ireturn, 1) := by decide +kernel
theorem dX8_count_0 : decode cX8_count 0 = .ok (.iload_n 1, 1) := by decide +kernel
theorem dX8_count_1 : decode cX8_count 1 = .ok (.iconst 0, 1) := by decide +kernel
theorem dX8_count_2 : decode cX8_count 2 = .ok (.bipush 9, 2) := by decide +kernel
theorem dX8_count_4 : decode cX8_count 4 = .ok (.invokestatic 60, 3) := by decide +kernel
theorem dX8_count_7 : decode cX8_count 7 = .ok (.ifCond .eq 12, 3) := by decide +kernel
theorem dX8_count_10 : decode cX8_count 10 = .ok (.aload_n 0, 1) := by decide +kernel
theorem dX8_count_11 : decode cX8_count 11 = .ok (.getfield 57, 3) := by decide +kernel
theorem dX8_count_14 : decode cX8_count 14 = .ok (.bipush 12, 2) := by decide +kernel
theorem dX8_count_16 : decode cX8_count 16 = .ok (.if_icmp .le 7, 3) := by decide +kernel
theorem dX8_count_19 : decode cX8_count 19 = .ok (.ldc2_w 154, 3) := by decide +kernel
theorem dX8_count_22 : decode cX8_count 22 = .ok (.lreturn, 1) := by decide +kernel
theorem dX8_count_23 : decode cX8_count 23 = .ok (.aload_n 0, 1) := by decide +kernel
theorem dX8_count_24 : decode cX8_count 24 = .ok (.invokevirtual 136, 3) := by decide +kernel
theorem dX8_count_27 : decode cX8_count 27 = .ok (.lconst 0, 1) := by decide +kernel
theorem dX8_count_28 : decode cX8_count 28 = .ok (.lstore_n 2, 1) := by decide +kernel
theorem dX8_count_29 : decode cX8_count 29 = .ok (.iconst 0, 1) := by decide +kernel
theorem dX8_count_30 : decode cX8_count 30 = .ok (.istore 4, 2) := by decide +kernel
theorem dX8_count_32 : decode cX8_count 32 = .ok (.iload 4, 2) := by decide +kernel
theorem dX8_count_34 : decode cX8_count 34 = .ok (.ifCond .lt 79, 3) := by decide +kernel
theorem dX8_count_37 : decode cX8_count 37 = .ok (.iload 4, 2) := by decide +kernel
theorem dX8_count_39 : decode cX8_count 39 = .ok (.aload_n 0, 1) := by decide +kernel
theorem dX8_count_40 : decode cX8_count 40 = .ok (.getfield 57, 3) := by decide +kernel
theorem dX8_count_43 : decode cX8_count 43 = .ok (.if_icmp .ne 48, 3) := by decide +kernel
theorem dX8_count_46 : decode cX8_count 46 = .ok (.lconst 1, 1) := by decide +kernel
theorem dX8_count_47 : decode cX8_count 47 = .ok (.lstore 5, 2) := by decide +kernel
theorem dX8_count_49 : decode cX8_count 49 = .ok (.iconst 0, 1) := by decide +kernel
theorem dX8_count_50 : decode cX8_count 50 = .ok (.istore 7, 2) := by decide +kernel
theorem dX8_count_52 : decode cX8_count 52 = .ok (.iload 7, 2) := by decide +kernel
theorem dX8_count_54 : decode cX8_count 54 = .ok (.aload_n 0, 1) := by decide +kernel
theorem dX8_count_55 : decode cX8_count 55 = .ok (.getfield 44, 3) := by decide +kernel
theorem dX8_count_58 : decode cX8_count 58 = .ok (.iload 4, 2) := by decide +kernel
theorem dX8_count_60 : decode cX8_count 60 = .ok (.iaload, 1) := by decide +kernel
theorem dX8_count_61 : decode cX8_count 61 = .ok (.if_icmp .ge 19, 3) := by decide +kernel
theorem dX8_count_64 : decode cX8_count 64 = .ok (.lload 5, 2) := by decide +kernel
theorem dX8_count_66 : decode cX8_count 66 = .ok (.iload_n 1, 1) := by decide +kernel
theorem dX8_count_67 : decode cX8_count 67 = .ok (.iload 7, 2) := by decide +kernel
theorem dX8_count_69 : decode cX8_count 69 = .ok (.isub, 1) := by decide +kernel
theorem dX8_count_70 : decode cX8_count 70 = .ok (.i2l, 1) := by decide +kernel
theorem dX8_count_71 : decode cX8_count 71 = .ok (.lmul, 1) := by decide +kernel
theorem dX8_count_72 : decode cX8_count 72 = .ok (.lstore 5, 2) := by decide +kernel
theorem dX8_count_74 : decode cX8_count 74 = .ok (.iinc 7 1, 3) := by decide +kernel
theorem dX8_count_77 : decode cX8_count 77 = .ok (.goto (-25), 3) := by decide +kernel
theorem dX8_count_80 : decode cX8_count 80 = .ok (.lload_n 2, 1) := by decide +kernel
theorem dX8_count_81 : decode cX8_count 81 = .ok (.lload 5, 2) := by decide +kernel
theorem dX8_count_83 : decode cX8_count 83 = .ok (.ladd, 1) := by decide +kernel
theorem dX8_count_84 : decode cX8_count 84 = .ok (.lstore_n 2, 1) := by decide +kernel
theorem dX8_count_85 : decode cX8_count 85 = .ok (.iinc 4 (-1), 3) := by decide +kernel
theorem dX8_count_88 : decode cX8_count 88 = .ok (.goto (-56), 3) := by decide +kernel
theorem dX8_count_91 : decode cX8_count 91 = .ok (.aload_n 0, 1) := by decide +kernel
theorem dX8_count_92 : decode cX8_count 92 = .ok (.iload 4, 2) := by decide +kernel
theorem dX8_count_94 : decode cX8_count 94 = .ok (.iload_n 1, 1) := by decide +kernel
theorem dX8_count_95 : decode cX8_count 95 = .ok (.invokevirtual 139, 3) := by decide +kernel
theorem dX8_count_98 : decode cX8_count 98 = .ok (.ifCond .eq 9, 3) := by decide +kernel
theorem dX8_count_101 : decode cX8_count 101 = .ok (.iinc 4 1, 3) := by decide +kernel
theorem dX8_count_104 : decode cX8_count 104 = .ok (.goto (-72), 3) := by decide +kernel
theorem dX8_count_107 : decode cX8_count 107 = .ok (.iinc 4 (-1), 3) := by decide +kernel
theorem dX8_count_110 : decode cX8_count 110 = .ok (.goto (-78), 3) := by decide +kernel
theorem dX8_count_113 : decode cX8_count 113 = .ok (.lload_n 2, 1) := by decide +kernel
theorem dX8_count_114 : decode cX8_count 114 = .ok (.lreturn, 1) := by decide +kernel
theorem dX8_critical_0 : decode cX8_critical 0 = .ok (.aload_n 0, 1) := by decide +kernel
theorem dX8_critical_1 : decode cX8_critical 1 = .ok (.getfield 57, 3) := by decide +kernel
theorem dX8_critical_4 : decode cX8_critical 4 = .ok (.bipush 12, 2) := by decide +kernel
theorem dX8_critical_6 : decode cX8_critical 6 = .ok (.if_icmp .le 6, 3) := by decide +kernel
theorem dX8_critical_9 : decode cX8_critical 9 = .ok (.bipush (-2), 2) := by decide +kernel
theorem dX8_critical_11 : decode cX8_critical 11 = .ok (.ireturn, 1) := by decide +kernel
theorem dX8_critical_12 : decode cX8_critical 12 = .ok (.aload_n 0, 1) := by decide +kernel
theorem dX8_critical_13 : decode cX8_critical 13 = .ok (.invokevirtual 121, 3) := by decide +kernel
theorem dX8_critical_16 : decode cX8_critical 16 = .ok (.istore_n 1, 1) := by decide +kernel
theorem dX8_critical_17 : decode cX8_critical 17 = .ok (.aload_n 0, 1) := by decide +kernel
theorem dX8_critical_18 : decode cX8_critical 18 = .ok (.iconst (-1), 1) := by decide +kernel
theorem dX8_critical_19 : decode cX8_critical 19 = .ok (.invokevirtual 151, 3) := by decide +kernel
theorem dX8_critical_22 : decode cX8_critical 22 = .ok (.iload_n 1, 1) := by decide +kernel
theorem dX8_critical_23 : decode cX8_critical 23 = .ok (.if_icmp .gt 5, 3) := by decide +kernel
theorem dX8_critical_26 : decode cX8_critical 26 = .ok (.iconst 0, 1) := by decide +kernel
theorem dX8_critical_27 : decode cX8_critical 27 = .ok (.ireturn, 1) := by decide +kernel
theorem dX8_critical_28 : decode cX8_critical 28 = .ok (.iconst 0, 1) := by decide +kernel
theorem dX8_critical_29 : decode cX8_critical 29 = .ok (.istore_n 2, 1) := by decide +kernel
theorem dX8_critical_30 : decode cX8_critical 30 = .ok (.iload_n 2, 1) := by decide +kernel
theorem dX8_critical_31 : decode cX8_critical 31 = .ok (.aload_n 0, 1) := by decide +kernel
theorem dX8_critical_32 : decode cX8_critical 32 = .ok (.getfield 57, 3) := by decide +kernel
theorem dX8_critical_35 : decode cX8_critical 35 = .ok (.if_icmp .ge 20, 3) := by decide +kernel
theorem dX8_critical_38 : decode cX8_critical 38 = .ok (.aload_n 0, 1) := by decide +kernel
theorem dX8_critical_39 : decode cX8_critical 39 = .ok (.iload_n 2, 1) := by decide +kernel
theorem dX8_critical_40 : decode cX8_critical 40 = .ok (.invokevirtual 151, 3) := by decide +kernel
theorem dX8_critical_43 : decode cX8_critical 43 = .ok (.iload_n 1, 1) := by decide +kernel
theorem dX8_critical_44 : decode cX8_critical 44 = .ok (.if_icmp .le 5, 3) := by decide +kernel
theorem dX8_critical_47 : decode cX8_critical 47 = .ok (.iconst 0, 1) := by decide +kernel
theorem dX8_critical_48 : decode cX8_critical 48 = .ok (.ireturn, 1) := by decide +kernel
theorem dX8_critical_49 : decode cX8_critical 49 = .ok (.iinc 2 1, 3) := by decide +kernel
theorem dX8_critical_52 : decode cX8_critical 52 = .ok (.goto (-22), 3) := by decide +kernel
theorem dX8_critical_55 : decode cX8_critical 55 = .ok (.iconst 1, 1) := by decide +kernel
theorem dX8_critical_56 : decode cX8_critical 56 = .ok (.ireturn, 1) := by decide +kernel
theorem dX8_need_0 : decode cX8_need 0 = .ok (.iload_n 1, 1) := by decide +kernel
theorem dX8_need_1 : decode cX8_need 1 = .ok (.ifCond .lt 21, 3) := by decide +kernel
theorem dX8_need_4 : decode cX8_need 4 = .ok (.iload_n 1, 1) := by decide +kernel
theorem dX8_need_5 : decode cX8_need 5 = .ok (.iconst 1, 1) := by decide +kernel
theorem dX8_need_6 : decode cX8_need 6 = .ok (.aload_n 0, 1) := by decide +kernel
theorem dX8_need_7 : decode cX8_need 7 = .ok (.getfield 68, 3) := by decide +kernel
theorem dX8_need_10 : decode cX8_need 10 = .ok (.ishl, 1) := by decide +kernel
theorem dX8_need_11 : decode cX8_need 11 = .ok (.if_icmp .ge 11, 3) := by decide +kernel
theorem dX8_need_14 : decode cX8_need 14 = .ok (.iload_n 1, 1) := by decide +kernel
theorem dX8_need_15 : decode cX8_need 15 = .ok (.invokestatic 107, 3) := by decide +kernel
theorem dX8_need_18 : decode cX8_need 18 = .ok (.iconst 3, 1) := by decide +kernel
theorem dX8_need_19 : decode cX8_need 19 = .ok (.if_icmp .ge 6, 3) := by decide +kernel
theorem dX8_need_22 : decode cX8_need 22 = .ok (.bipush (-2), 2) := by decide +kernel
theorem dX8_need_24 : decode cX8_need 24 = .ok (.ireturn, 1) := by decide +kernel
theorem dX8_need_25 : decode cX8_need 25 = .ok (.aload_n 0, 1) := by decide +kernel
theorem dX8_need_26 : decode cX8_need 26 = .ok (.iload_n 1, 1) := by decide +kernel
theorem dX8_need_27 : decode cX8_need 27 = .ok (.invokevirtual 145, 3) := by decide +kernel
theorem dX8_need_30 : decode cX8_need 30 = .ok (.ireturn, 1) := by decide +kernel
theorem dX8_heap_0 : decode cX8_heap 0 = .ok (.iconst (-1), 1) := by decide +kernel
theorem dX8_heap_1 : decode cX8_heap 1 = .ok (.istore_n 1, 1) := by decide +kernel
theorem dX8_heap_2 : decode cX8_heap 2 = .ok (.iconst 1, 1) := by decide +kernel
theorem dX8_heap_3 : decode cX8_heap 3 = .ok (.aload_n 0, 1) := by decide +kernel
theorem dX8_heap_4 : decode cX8_heap 4 = .ok (.getfield 68, 3) := by decide +kernel
theorem dX8_heap_7 : decode cX8_heap 7 = .ok (.ishl, 1) := by decide +kernel
theorem dX8_heap_8 : decode cX8_heap 8 = .ok (.iconst 1, 1) := by decide +kernel
theorem dX8_heap_9 : decode cX8_heap 9 = .ok (.isub, 1) := by decide +kernel
theorem dX8_heap_10 : decode cX8_heap 10 = .ok (.istore_n 2, 1) := by decide +kernel
theorem dX8_heap_11 : decode cX8_heap 11 = .ok (.iload_n 2, 1) := by decide +kernel
theorem dX8_heap_12 : decode cX8_heap 12 = .ok (.ifCond .le 39, 3) := by decide +kernel
theorem dX8_heap_15 : decode cX8_heap 15 = .ok (.iload_n 2, 1) := by decide +kernel
theorem dX8_heap_16 : decode cX8_heap 16 = .ok (.invokestatic 107, 3) := by decide +kernel
theorem dX8_heap_19 : decode cX8_heap 19 = .ok (.iconst 3, 1) := by decide +kernel
theorem dX8_heap_20 : decode cX8_heap 20 = .ok (.if_icmp .ge 6, 3) := by decide +kernel
theorem dX8_heap_23 : decode cX8_heap 23 = .ok (.goto 22, 3) := by decide +kernel
theorem dX8_heap_26 : decode cX8_heap 26 = .ok (.iload_n 1, 1) := by decide +kernel
theorem dX8_heap_27 : decode cX8_heap 27 = .ok (.ifCond .lt 16, 3) := by decide +kernel
theorem dX8_heap_30 : decode cX8_heap 30 = .ok (.aload_n 0, 1) := by decide +kernel
theorem dX8_heap_31 : decode cX8_heap 31 = .ok (.iload_n 2, 1) := by decide +kernel
theorem dX8_heap_32 : decode cX8_heap 32 = .ok (.invokevirtual 145, 3) := by decide +kernel
theorem dX8_heap_35 : decode cX8_heap 35 = .ok (.aload_n 0, 1) := by decide +kernel
theorem dX8_heap_36 : decode cX8_heap 36 = .ok (.iload_n 1, 1) := by decide +kernel
theorem dX8_heap_37 : decode cX8_heap 37 = .ok (.invokevirtual 145, 3) := by decide +kernel
theorem dX8_heap_40 : decode cX8_heap 40 = .ok (.if_icmp .lt 5, 3) := by decide +kernel
theorem dX8_heap_43 : decode cX8_heap 43 = .ok (.iload_n 2, 1) := by decide +kernel
theorem dX8_heap_44 : decode cX8_heap 44 = .ok (.istore_n 1, 1) := by decide +kernel
theorem dX8_heap_45 : decode cX8_heap 45 = .ok (.iinc 2 (-1), 3) := by decide +kernel
theorem dX8_heap_48 : decode cX8_heap 48 = .ok (.goto (-37), 3) := by decide +kernel
theorem dX8_heap_51 : decode cX8_heap 51 = .ok (.iload_n 1, 1) := by decide +kernel
theorem dX8_heap_52 : decode cX8_heap 52 = .ok (.ireturn, 1) := by decide +kernel
theorem dX8_list_0 : decode cX8_list 0 = .ok (.aload_n 0, 1) := by decide +kernel
theorem dX8_list_1 : decode cX8_list 1 = .ok (.iload_n 1, 1) := by decide +kernel
theorem dX8_list_2 : decode cX8_list 2 = .ok (.invokevirtual 72, 3) := by decide +kernel
theorem dX8_list_5 : decode cX8_list 5 = .ok (.ifCond .eq 13, 3) := by decide +kernel
theorem dX8_list_8 : decode cX8_list 8 = .ok (.iload_n 2, 1) := by decide +kernel
theorem dX8_list_9 : decode cX8_list 9 = .ok (.iconst 0, 1) := by decide +kernel
theorem dX8_list_10 : decode cX8_list 10 = .ok (.ldc 71, 2) := by decide +kernel
theorem dX8_list_12 : decode cX8_list 12 = .ok (.invokestatic 60, 3) := by decide +kernel
theorem dX8_list_15 : decode cX8_list 15 = .ok (.ifCond .ne 6, 3) := by decide +kernel
theorem dX8_list_18 : decode cX8_list 18 = .ok (.bipush (-2), 2) := by decide +kernel
theorem dX8_list_20 : decode cX8_list 20 = .ok (.ireturn, 1) := by decide +kernel
theorem dX8_list_21 : decode cX8_list 21 = .ok (.aload_n 0, 1) := by decide +kernel
theorem dX8_list_22 : decode cX8_list 22 = .ok (.getfield 19, 3) := by decide +kernel
theorem dX8_list_25 : decode cX8_list 25 = .ok (.iload_n 1, 1) := by decide +kernel
theorem dX8_list_26 : decode cX8_list 26 = .ok (.iaload, 1) := by decide +kernel
theorem dX8_list_27 : decode cX8_list 27 = .ok (.istore_n 3, 1) := by decide +kernel
theorem dX8_list_28 : decode cX8_list 28 = .ok (.aload_n 0, 1) := by decide +kernel
theorem dX8_list_29 : decode cX8_list 29 = .ok (.getfield 19, 3) := by decide +kernel
theorem dX8_list_32 : decode cX8_list 32 = .ok (.iload_n 1, 1) := by decide +kernel
theorem dX8_list_33 : decode cX8_list 33 = .ok (.iload_n 2, 1) := by decide +kernel
theorem dX8_list_34 : decode cX8_list 34 = .ok (.iastore, 1) := by decide +kernel
theorem dX8_list_35 : decode cX8_list 35 = .ok (.iload_n 3, 1) := by decide +kernel
theorem dX8_list_36 : decode cX8_list 36 = .ok (.ireturn, 1) := by decide +kernel
theorem dX8_allCan_0 : decode cX8_allCan 0 = .ok (.iconst 1, 1) := by decide +kernel
theorem dX8_allCan_1 : decode cX8_allCan 1 = .ok (.aload_n 0, 1) := by decide +kernel
theorem dX8_allCan_2 : decode cX8_allCan 2 = .ok (.getfield 57, 3) := by decide +kernel
theorem dX8_allCan_5 : decode cX8_allCan 5 = .ok (.ishl, 1) := by decide +kernel
theorem dX8_allCan_6 : decode cX8_allCan 6 = .ok (.istore_n 1, 1) := by decide +kernel
theorem dX8_allCan_7 : decode cX8_allCan 7 = .ok (.iconst 0, 1) := by decide +kernel
theorem dX8_allCan_8 : decode cX8_allCan 8 = .ok (.istore_n 2, 1) := by decide +kernel
theorem dX8_allCan_9 : decode cX8_allCan 9 = .ok (.iload_n 2, 1) := by decide +kernel
theorem dX8_allCan_10 : decode cX8_allCan 10 = .ok (.iload_n 1, 1) := by decide +kernel
theorem dX8_allCan_11 : decode cX8_allCan 11 = .ok (.if_icmp .ge 28, 3) := by decide +kernel
theorem dX8_allCan_14 : decode cX8_allCan 14 = .ok (.aload_n 0, 1) := by decide +kernel
theorem dX8_allCan_15 : decode cX8_allCan 15 = .ok (.getfield 50, 3) := by decide +kernel
theorem dX8_allCan_18 : decode cX8_allCan 18 = .ok (.sipush 4096, 3) := by decide +kernel
theorem dX8_allCan_21 : decode cX8_allCan 21 = .ok (.iload_n 2, 1) := by decide +kernel
theorem dX8_allCan_22 : decode cX8_allCan 22 = .ok (.iadd, 1) := by decide +kernel
theorem dX8_allCan_23 : decode cX8_allCan 23 = .ok (.iload_n 2, 1) := by decide +kernel
theorem dX8_allCan_24 : decode cX8_allCan 24 = .ok (.ifCond .ne 7, 3) := by decide +kernel
theorem dX8_allCan_27 : decode cX8_allCan 27 = .ok (.iconst 1, 1) := by decide +kernel
theorem dX8_allCan_28 : decode cX8_allCan 28 = .ok (.goto 4, 3) := by decide +kernel
theorem dX8_allCan_31 : decode cX8_allCan 31 = .ok (.iconst 0, 1) := by decide +kernel
theorem dX8_allCan_32 : decode cX8_allCan 32 = .ok (.bastore, 1) := by decide +kernel
theorem dX8_allCan_33 : decode cX8_allCan 33 = .ok (.iinc 2 1, 3) := by decide +kernel
theorem dX8_allCan_36 : decode cX8_allCan 36 = .ok (.goto (-27), 3) := by decide +kernel
theorem dX8_allCan_39 : decode cX8_allCan 39 = .ok (.bipush 15, 2) := by decide +kernel
theorem dX8_allCan_41 : decode cX8_allCan 41 = .ok (.istore_n 2, 1) := by decide +kernel
theorem dX8_allCan_42 : decode cX8_allCan 42 = .ok (.iload_n 2, 1) := by decide +kernel
theorem dX8_allCan_43 : decode cX8_allCan 43 = .ok (.ifCond .lt 111, 3) := by decide +kernel
theorem dX8_allCan_46 : decode cX8_allCan 46 = .ok (.iconst 0, 1) := by decide +kernel
theorem dX8_allCan_47 : decode cX8_allCan 47 = .ok (.istore_n 3, 1) := by decide +kernel
theorem dX8_allCan_48 : decode cX8_allCan 48 = .ok (.iload_n 3, 1) := by decide +kernel
theorem dX8_allCan_49 : decode cX8_allCan 49 = .ok (.iload_n 1, 1) := by decide +kernel
theorem dX8_allCan_50 : decode cX8_allCan 50 = .ok (.if_icmp .ge 98, 3) := by decide +kernel
theorem dX8_allCan_53 : decode cX8_allCan 53 = .ok (.iconst 0, 1) := by decide +kernel
theorem dX8_allCan_54 : decode cX8_allCan 54 = .ok (.istore 4, 2) := by decide +kernel
theorem dX8_allCan_56 : decode cX8_allCan 56 = .ok (.iload_n 3, 1) := by decide +kernel
theorem dX8_allCan_57 : decode cX8_allCan 57 = .ok (.istore 5, 2) := by decide +kernel
theorem dX8_allCan_59 : decode cX8_allCan 59 = .ok (.iload 5, 2) := by decide +kernel
theorem dX8_allCan_61 : decode cX8_allCan 61 = .ok (.ifCond .lt 67, 3) := by decide +kernel
theorem dX8_allCan_64 : decode cX8_allCan 64 = .ok (.iload 4, 2) := by decide +kernel
theorem dX8_allCan_66 : decode cX8_allCan 66 = .ok (.ifCond .ne 62, 3) := by decide +kernel
theorem dX8_allCan_69 : decode cX8_allCan 69 = .ok (.aload_n 0, 1) := by decide +kernel
theorem dX8_allCan_70 : decode cX8_allCan 70 = .ok (.getfield 50, 3) := by decide +kernel
theorem dX8_allCan_73 : decode cX8_allCan 73 = .ok (.sipush 256, 3) := by decide +kernel
theorem dX8_allCan_76 : decode cX8_allCan 76 = .ok (.iload_n 2, 1) := by decide +kernel
theorem dX8_allCan_77 : decode cX8_allCan 77 = .ok (.iconst 1, 1) := by decide +kernel
theorem dX8_allCan_78 : decode cX8_allCan 78 = .ok (.iadd, 1) := by decide +kernel
theorem dX8_allCan_79 : decode cX8_allCan 79 = .ok (.imul, 1) := by decide +kernel
theorem dX8_allCan_80 : decode cX8_allCan 80 = .ok (.iload_n 3, 1) := by decide +kernel
theorem dX8_allCan_81 : decode cX8_allCan 81 = .ok (.iload 5, 2) := by decide +kernel
theorem dX8_allCan_83 : decode cX8_allCan 83 = .ok (.iconst (-1), 1) := by decide +kernel
theorem dX8_allCan_84 : decode cX8_allCan 84 = .ok (.ixor, 1) := by decide +kernel
theorem dX8_allCan_85 : decode cX8_allCan 85 = .ok (.iand, 1) := by decide +kernel
theorem dX8_allCan_86 : decode cX8_allCan 86 = .ok (.iadd, 1) := by decide +kernel
theorem dX8_allCan_87 : decode cX8_allCan 87 = .ok (.baload, 1) := by decide +kernel
theorem dX8_allCan_88 : decode cX8_allCan 88 = .ok (.ifCond .eq 17, 3) := by decide +kernel
theorem dX8_allCan_91 : decode cX8_allCan 91 = .ok (.aload_n 0, 1) := by decide +kernel
theorem dX8_allCan_92 : decode cX8_allCan 92 = .ok (.iload 5, 2) := by decide +kernel
theorem dX8_allCan_94 : decode cX8_allCan 94 = .ok (.iload_n 2, 1) := by decide +kernel
theorem dX8_allCan_95 : decode cX8_allCan 95 = .ok (.invokevirtual 156, 3) := by decide +kernel
theorem dX8_allCan_98 : decode cX8_allCan 98 = .ok (.ifCond .eq 7, 3) := by decide +kernel
theorem dX8_allCan_101 : decode cX8_allCan 101 = .ok (.iconst 1, 1) := by decide +kernel
theorem dX8_allCan_102 : decode cX8_allCan 102 = .ok (.goto 4, 3) := by decide +kernel
theorem dX8_allCan_105 : decode cX8_allCan 105 = .ok (.iconst 0, 1) := by decide +kernel
theorem dX8_allCan_106 : decode cX8_allCan 106 = .ok (.istore 4, 2) := by decide +kernel
theorem dX8_allCan_108 : decode cX8_allCan 108 = .ok (.iload 5, 2) := by decide +kernel
theorem dX8_allCan_110 : decode cX8_allCan 110 = .ok (.ifCond .ne 7, 3) := by decide +kernel
theorem dX8_allCan_113 : decode cX8_allCan 113 = .ok (.iconst (-1), 1) := by decide +kernel
theorem dX8_allCan_114 : decode cX8_allCan 114 = .ok (.goto 9, 3) := by decide +kernel
theorem dX8_allCan_117 : decode cX8_allCan 117 = .ok (.iload 5, 2) := by decide +kernel
theorem dX8_allCan_119 : decode cX8_allCan 119 = .ok (.iconst 1, 1) := by decide +kernel
theorem dX8_allCan_120 : decode cX8_allCan 120 = .ok (.isub, 1) := by decide +kernel
theorem dX8_allCan_121 : decode cX8_allCan 121 = .ok (.iload_n 3, 1) := by decide +kernel
theorem dX8_allCan_122 : decode cX8_allCan 122 = .ok (.iand, 1) := by decide +kernel
theorem dX8_allCan_123 : decode cX8_allCan 123 = .ok (.istore 5, 2) := by decide +kernel
theorem dX8_allCan_125 : decode cX8_allCan 125 = .ok (.goto (-66), 3) := by decide +kernel
theorem dX8_allCan_128 : decode cX8_allCan 128 = .ok (.aload_n 0, 1) := by decide +kernel
theorem dX8_allCan_129 : decode cX8_allCan 129 = .ok (.getfield 50, 3) := by decide +kernel
theorem dX8_allCan_132 : decode cX8_allCan 132 = .ok (.sipush 256, 3) := by decide +kernel
theorem dX8_allCan_135 : decode cX8_allCan 135 = .ok (.iload_n 2, 1) := by decide +kernel
theorem dX8_allCan_136 : decode cX8_allCan 136 = .ok (.imul, 1) := by decide +kernel
theorem dX8_allCan_137 : decode cX8_allCan 137 = .ok (.iload_n 3, 1) := by decide +kernel
theorem dX8_allCan_138 : decode cX8_allCan 138 = .ok (.iadd, 1) := by decide +kernel
theorem dX8_allCan_139 : decode cX8_allCan 139 = .ok (.iload 4, 2) := by decide +kernel
theorem dX8_allCan_141 : decode cX8_allCan 141 = .ok (.bastore, 1) := by decide +kernel
theorem dX8_allCan_142 : decode cX8_allCan 142 = .ok (.iinc 3 1, 3) := by decide +kernel
theorem dX8_allCan_145 : decode cX8_allCan 145 = .ok (.goto (-97), 3) := by decide +kernel
theorem dX8_allCan_148 : decode cX8_allCan 148 = .ok (.iinc 2 (-1), 3) := by decide +kernel
theorem dX8_allCan_151 : decode cX8_allCan 151 = .ok (.goto (-109), 3) := by decide +kernel
theorem dX8_allCan_154 : decode cX8_allCan 154 = .ok (.aload_n 0, 1) := by decide +kernel
theorem dX8_allCan_155 : decode cX8_allCan 155 = .ok (.getfield 50, 3) := by decide +kernel
theorem dX8_allCan_158 : decode cX8_allCan 158 = .ok (.iload_n 1, 1) := by decide +kernel
theorem dX8_allCan_159 : decode cX8_allCan 159 = .ok (.iconst 1, 1) := by decide +kernel
theorem dX8_allCan_160 : decode cX8_allCan 160 = .ok (.isub, 1) := by decide +kernel
theorem dX8_allCan_161 : decode cX8_allCan 161 = .ok (.baload, 1) := by decide +kernel
theorem dX8_allCan_162 : decode cX8_allCan 162 = .ok (.ireturn, 1) := by decide +kernel
theorem dX8_mayHave_0 : decode cX8_mayHave 0 = .ok (.iconst 0, 1) := by decide +kernel
theorem dX8_mayHave_1 : decode cX8_mayHave 1 = .ok (.istore_n 3, 1) := by decide +kernel
theorem dX8_mayHave_2 : decode cX8_mayHave 2 = .ok (.iload_n 3, 1) := by decide +kernel
theorem dX8_mayHave_3 : decode cX8_mayHave 3 = .ok (.aload_n 0, 1) := by decide +kernel
theorem dX8_mayHave_4 : decode cX8_mayHave 4 = .ok (.getfield 57, 3) := by decide +kernel
theorem dX8_mayHave_7 : decode cX8_mayHave 7 = .ok (.if_icmp .ge 44, 3) := by decide +kernel
theorem dX8_mayHave_10 : decode cX8_mayHave 10 = .ok (.iload_n 1, 1) := by decide +kernel
theorem dX8_mayHave_11 : decode cX8_mayHave 11 = .ok (.iload_n 3, 1) := by decide +kernel
theorem dX8_mayHave_12 : decode cX8_mayHave 12 = .ok (.ishr, 1) := by decide +kernel
theorem dX8_mayHave_13 : decode cX8_mayHave 13 = .ok (.iconst 1, 1) := by decide +kernel
theorem dX8_mayHave_14 : decode cX8_mayHave 14 = .ok (.iand, 1) := by decide +kernel
theorem dX8_mayHave_15 : decode cX8_mayHave 15 = .ok (.iconst 1, 1) := by decide +kernel
theorem dX8_mayHave_16 : decode cX8_mayHave 16 = .ok (.if_icmp .ne 29, 3) := by decide +kernel
theorem dX8_mayHave_19 : decode cX8_mayHave 19 = .ok (.aload_n 0, 1) := by decide +kernel
theorem dX8_mayHave_20 : decode cX8_mayHave 20 = .ok (.getfield 47, 3) := by decide +kernel
theorem dX8_mayHave_23 : decode cX8_mayHave 23 = .ok (.iload_n 3, 1) := by decide +kernel
theorem dX8_mayHave_24 : decode cX8_mayHave 24 = .ok (.iaload, 1) := by decide +kernel
theorem dX8_mayHave_25 : decode cX8_mayHave 25 = .ok (.iload_n 2, 1) := by decide +kernel
theorem dX8_mayHave_26 : decode cX8_mayHave 26 = .ok (.ishr, 1) := by decide +kernel
theorem dX8_mayHave_27 : decode cX8_mayHave 27 = .ok (.iconst 1, 1) := by decide +kernel
theorem dX8_mayHave_28 : decode cX8_mayHave 28 = .ok (.iand, 1) := by decide +kernel
theorem dX8_mayHave_29 : decode cX8_mayHave 29 = .ok (.ifCond .eq 14, 3) := by decide +kernel
theorem dX8_mayHave_32 : decode cX8_mayHave 32 = .ok (.aload_n 0, 1) := by decide +kernel
theorem dX8_mayHave_33 : decode cX8_mayHave 33 = .ok (.getfield 38, 3) := by decide +kernel
theorem dX8_mayHave_36 : decode cX8_mayHave 36 = .ok (.iload_n 3, 1) := by decide +kernel
theorem dX8_mayHave_37 : decode cX8_mayHave 37 = .ok (.iaload, 1) := by decide +kernel
theorem dX8_mayHave_38 : decode cX8_mayHave 38 = .ok (.iload_n 1, 1) := by decide +kernel
theorem dX8_mayHave_39 : decode cX8_mayHave 39 = .ok (.iand, 1) := by decide +kernel
theorem dX8_mayHave_40 : decode cX8_mayHave 40 = .ok (.ifCond .eq 5, 3) := by decide +kernel
theorem dX8_mayHave_43 : decode cX8_mayHave 43 = .ok (.iconst 0, 1) := by decide +kernel
theorem dX8_mayHave_44 : decode cX8_mayHave 44 = .ok (.ireturn, 1) := by decide +kernel
theorem dX8_mayHave_45 : decode cX8_mayHave 45 = .ok (.iinc 3 1, 3) := by decide +kernel
theorem dX8_mayHave_48 : decode cX8_mayHave 48 = .ok (.goto (-46), 3) := by decide +kernel
theorem dX8_mayHave_51 : decode cX8_mayHave 51 = .ok (.iconst 1, 1) := by decide +kernel
theorem dX8_mayHave_52 : decode cX8_mayHave 52 = .ok (.ireturn, 1) := by decide +kernel
theorem dX8_choose_0 : decode cX8_choose 0 = .ok (.aload_n 0, 1) := by decide +kernel
theorem dX8_choose_1 : decode cX8_choose 1 = .ok (.getfield 57, 3) := by decide +kernel
theorem dX8_choose_4 : decode cX8_choose 4 = .ok (.bipush 8, 2) := by decide +kernel
theorem dX8_choose_6 : decode cX8_choose 6 = .ok (.if_icmp .le 6, 3) := by decide +kernel
theorem dX8_choose_9 : decode cX8_choose 9 = .ok (.bipush (-2), 2) := by decide +kernel
theorem dX8_choose_11 : decode cX8_choose 11 = .ok (.ireturn, 1) := by decide +kernel
theorem dX8_choose_12 : decode cX8_choose 12 = .ok (.aload_n 0, 1) := by decide +kernel
theorem dX8_choose_13 : decode cX8_choose 13 = .ok (.invokevirtual 136, 3) := by decide +kernel
theorem dX8_choose_16 : decode cX8_choose 16 = .ok (.iconst 0, 1) := by decide +kernel
theorem dX8_choose_17 : decode cX8_choose 17 = .ok (.istore_n 1, 1) := by decide +kernel
theorem dX8_choose_18 : decode cX8_choose 18 = .ok (.iload_n 1, 1) := by decide +kernel
theorem dX8_choose_19 : decode cX8_choose 19 = .ok (.aload_n 0, 1) := by decide +kernel
theorem dX8_choose_20 : decode cX8_choose 20 = .ok (.getfield 57, 3) := by decide +kernel
theorem dX8_choose_23 : decode cX8_choose 23 = .ok (.if_icmp .ge 21, 3) := by decide +kernel
theorem dX8_choose_26 : decode cX8_choose 26 = .ok (.aload_n 0, 1) := by decide +kernel
theorem dX8_choose_27 : decode cX8_choose 27 = .ok (.getfield 47, 3) := by decide +kernel
theorem dX8_choose_30 : decode cX8_choose 30 = .ok (.iload_n 1, 1) := by decide +kernel
theorem dX8_choose_31 : decode cX8_choose 31 = .ok (.aload_n 0, 1) := by decide +kernel
theorem dX8_choose_32 : decode cX8_choose 32 = .ok (.getfield 19, 3) := by decide +kernel
theorem dX8_choose_35 : decode cX8_choose 35 = .ok (.iload_n 1, 1) := by decide +kernel
theorem dX8_choose_36 : decode cX8_choose 36 = .ok (.iaload, 1) := by decide +kernel
theorem dX8_choose_37 : decode cX8_choose 37 = .ok (.iastore, 1) := by decide +kernel
theorem dX8_choose_38 : decode cX8_choose 38 = .ok (.iinc 1 1, 3) := by decide +kernel
theorem dX8_choose_41 : decode cX8_choose 41 = .ok (.goto (-23), 3) := by decide +kernel
theorem dX8_choose_44 : decode cX8_choose 44 = .ok (.aload_n 0, 1) := by decide +kernel
theorem dX8_choose_45 : decode cX8_choose 45 = .ok (.invokevirtual 159, 3) := by decide +kernel
theorem dX8_choose_48 : decode cX8_choose 48 = .ok (.ifCond .ne 5, 3) := by decide +kernel
theorem dX8_choose_51 : decode cX8_choose 51 = .ok (.iconst 0, 1) := by decide +kernel
theorem dX8_choose_52 : decode cX8_choose 52 = .ok (.ireturn, 1) := by decide +kernel
theorem dX8_choose_53 : decode cX8_choose 53 = .ok (.iconst 0, 1) := by decide +kernel
theorem dX8_choose_54 : decode cX8_choose 54 = .ok (.istore_n 1, 1) := by decide +kernel
theorem dX8_choose_55 : decode cX8_choose 55 = .ok (.iload_n 1, 1) := by decide +kernel
theorem dX8_choose_56 : decode cX8_choose 56 = .ok (.aload_n 0, 1) := by decide +kernel
theorem dX8_choose_57 : decode cX8_choose 57 = .ok (.getfield 57, 3) := by decide +kernel
theorem dX8_choose_60 : decode cX8_choose 60 = .ok (.if_icmp .ge 68, 3) := by decide +kernel
theorem dX8_choose_63 : decode cX8_choose 63 = .ok (.iconst (-1), 1) := by decide +kernel
theorem dX8_choose_64 : decode cX8_choose 64 = .ok (.istore_n 2, 1) := by decide +kernel
theorem dX8_choose_65 : decode cX8_choose 65 = .ok (.iconst 0, 1) := by decide +kernel
theorem dX8_choose_66 : decode cX8_choose 66 = .ok (.istore_n 3, 1) := by decide +kernel
theorem dX8_choose_67 : decode cX8_choose 67 = .ok (.iload_n 3, 1) := by decide +kernel
theorem dX8_choose_68 : decode cX8_choose 68 = .ok (.ifCond .ne 47, 3) := by decide +kernel
theorem dX8_choose_71 : decode cX8_choose 71 = .ok (.iinc 2 1, 3) := by decide +kernel
theorem dX8_choose_74 : decode cX8_choose 74 = .ok (.aload_n 0, 1) := by decide +kernel
theorem dX8_choose_75 : decode cX8_choose 75 = .ok (.getfield 47, 3) := by decide +kernel
theorem dX8_choose_78 : decode cX8_choose 78 = .ok (.iload_n 1, 1) := by decide +kernel
theorem dX8_choose_79 : decode cX8_choose 79 = .ok (.aload_n 0, 1) := by decide +kernel
theorem dX8_choose_80 : decode cX8_choose 80 = .ok (.getfield 19, 3) := by decide +kernel
theorem dX8_choose_83 : decode cX8_choose 83 = .ok (.iload_n 1, 1) := by decide +kernel
theorem dX8_choose_84 : decode cX8_choose 84 = .ok (.iaload, 1) := by decide +kernel
theorem dX8_choose_85 : decode cX8_choose 85 = .ok (.iconst 1, 1) := by decide +kernel
theorem dX8_choose_86 : decode cX8_choose 86 = .ok (.iload_n 2, 1) := by decide +kernel
theorem dX8_choose_87 : decode cX8_choose 87 = .ok (.ishl, 1) := by decide +kernel
theorem dX8_choose_88 : decode cX8_choose 88 = .ok (.iand, 1) := by decide +kernel
theorem dX8_choose_89 : decode cX8_choose 89 = .ok (.iastore, 1) := by decide +kernel
theorem dX8_choose_90 : decode cX8_choose 90 = .ok (.aload_n 0, 1) := by decide +kernel
theorem dX8_choose_91 : decode cX8_choose 91 = .ok (.getfield 47, 3) := by decide +kernel
theorem dX8_choose_94 : decode cX8_choose 94 = .ok (.iload_n 1, 1) := by decide +kernel
theorem dX8_choose_95 : decode cX8_choose 95 = .ok (.iaload, 1) := by decide +kernel
theorem dX8_choose_96 : decode cX8_choose 96 = .ok (.ifCond .eq 14, 3) := by decide +kernel
theorem dX8_choose_99 : decode cX8_choose 99 = .ok (.aload_n 0, 1) := by decide +kernel
theorem dX8_choose_100 : decode cX8_choose 100 = .ok (.invokevirtual 159, 3) := by decide +kernel
theorem dX8_choose_103 : decode cX8_choose 103 = .ok (.ifCond .eq 7, 3) := by decide +kernel
theorem dX8_choose_106 : decode cX8_choose 106 = .ok (.iconst 1, 1) := by decide +kernel
theorem dX8_choose_107 : decode cX8_choose 107 = .ok (.goto 4, 3) := by decide +kernel
theorem dX8_choose_110 : decode cX8_choose 110 = .ok (.iconst 0, 1) := by decide +kernel
theorem dX8_choose_111 : decode cX8_choose 111 = .ok (.istore_n 3, 1) := by decide +kernel
theorem dX8_choose_112 : decode cX8_choose 112 = .ok (.goto (-45), 3) := by decide +kernel
theorem dX8_choose_115 : decode cX8_choose 115 = .ok (.aload_n 0, 1) := by decide +kernel
theorem dX8_choose_116 : decode cX8_choose 116 = .ok (.getfield 35, 3) := by decide +kernel
theorem dX8_choose_119 : decode cX8_choose 119 = .ok (.iload_n 1, 1) := by decide +kernel
theorem dX8_choose_120 : decode cX8_choose 120 = .ok (.iload_n 2, 1) := by decide +kernel
theorem dX8_choose_121 : decode cX8_choose 121 = .ok (.iastore, 1) := by decide +kernel
theorem dX8_choose_122 : decode cX8_choose 122 = .ok (.iinc 1 1, 3) := by decide +kernel
theorem dX8_choose_125 : decode cX8_choose 125 = .ok (.goto (-70), 3) := by decide +kernel
theorem dX8_choose_128 : decode cX8_choose 128 = .ok (.iconst 0, 1) := by decide +kernel
theorem dX8_choose_129 : decode cX8_choose 129 = .ok (.istore_n 1, 1) := by decide +kernel
theorem dX8_choose_130 : decode cX8_choose 130 = .ok (.iload_n 1, 1) := by decide +kernel
theorem dX8_choose_131 : decode cX8_choose 131 = .ok (.aload_n 0, 1) := by decide +kernel
theorem dX8_choose_132 : decode cX8_choose 132 = .ok (.getfield 57, 3) := by decide +kernel
theorem dX8_choose_135 : decode cX8_choose 135 = .ok (.if_icmp .ge 21, 3) := by decide +kernel
theorem dX8_choose_138 : decode cX8_choose 138 = .ok (.aload_n 0, 1) := by decide +kernel
theorem dX8_choose_139 : decode cX8_choose 139 = .ok (.getfield 16, 3) := by decide +kernel
theorem dX8_choose_142 : decode cX8_choose 142 = .ok (.iload_n 1, 1) := by decide +kernel
