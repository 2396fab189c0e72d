theorem dX12_where_17 : decode cX12_where 17 = .ok (.ifCond .eq 8, 3) := by decide +kernel
theorem dX12_where_20 : decode cX12_where 20 = .ok (.iload_n 3, 1) := by decide +kernel
theorem dX12_where_21 : decode cX12_where 21 = .ok (.iconst (-1), 1) := by decide +kernel
theorem dX12_where_22 : decode cX12_where 22 = .ok (.if_icmp .ge 9, 3) := by decide +kernel
theorem dX12_where_25 : decode cX12_where 25 = .ok (.aload_n 0, 1) := by decide +kernel
theorem dX12_where_26 : decode cX12_where 26 = .ok (.iconst 1, 1) := by decide +kernel
theorem dX12_where_27 : decode cX12_where 27 = .ok (.invokevirtual 249, 3) := by decide +kernel
theorem dX12_where_30 : decode cX12_where 30 = .ok (.ireturn, 1) := by decide +kernel
theorem dX12_where_31 : decode cX12_where 31 = .ok (.iconst 0, 1) := by decide +kernel
theorem dX12_where_32 : decode cX12_where 32 = .ok (.istore 4, 2) := by decide +kernel
theorem dX12_where_34 : decode cX12_where 34 = .ok (.iconst 0, 1) := by decide +kernel
theorem dX12_where_35 : decode cX12_where 35 = .ok (.istore 5, 2) := by decide +kernel
theorem dX12_where_37 : decode cX12_where 37 = .ok (.iload 5, 2) := by decide +kernel
theorem dX12_where_39 : decode cX12_where 39 = .ok (.sipush 1681, 3) := by decide +kernel
theorem dX12_where_42 : decode cX12_where 42 = .ok (.if_icmp .ge 50, 3) := by decide +kernel
theorem dX12_where_45 : decode cX12_where 45 = .ok (.aload_n 0, 1) := by decide +kernel
theorem dX12_where_46 : decode cX12_where 46 = .ok (.iload_n 1, 1) := by decide +kernel
theorem dX12_where_47 : decode cX12_where 47 = .ok (.iconst 0, 1) := by decide +kernel
theorem dX12_where_48 : decode cX12_where 48 = .ok (.iload_n 2, 1) := by decide +kernel
theorem dX12_where_49 : decode cX12_where 49 = .ok (.iload 5, 2) := by decide +kernel
theorem dX12_where_51 : decode cX12_where 51 = .ok (.bipush 41, 2) := by decide +kernel
theorem dX12_where_53 : decode cX12_where 53 = .ok (.irem, 1) := by decide +kernel
theorem dX12_where_54 : decode cX12_where 54 = .ok (.iload 5, 2) := by decide +kernel
theorem dX12_where_56 : decode cX12_where 56 = .ok (.bipush 41, 2) := by decide +kernel
theorem dX12_where_58 : decode cX12_where 58 = .ok (.idiv, 1) := by decide +kernel
theorem dX12_where_59 : decode cX12_where 59 = .ok (.aload_n 0, 1) := by decide +kernel
theorem dX12_where_60 : decode cX12_where 60 = .ok (.getfield 39, 3) := by decide +kernel
theorem dX12_where_63 : decode cX12_where 63 = .ok (.iload_n 1, 1) := by decide +kernel
theorem dX12_where_64 : decode cX12_where 64 = .ok (.iaload, 1) := by decide +kernel
theorem dX12_where_65 : decode cX12_where 65 = .ok (.invokevirtual 351, 3) := by decide +kernel
theorem dX12_where_68 : decode cX12_where 68 = .ok (.ifCond .ne 6, 3) := by decide +kernel
theorem dX12_where_71 : decode cX12_where 71 = .ok (.goto 15, 3) := by decide +kernel
theorem dX12_where_74 : decode cX12_where 74 = .ok (.iload 4, 2) := by decide +kernel
theorem dX12_where_76 : decode cX12_where 76 = .ok (.iload_n 3, 1) := by decide +kernel
theorem dX12_where_77 : decode cX12_where 77 = .ok (.if_icmp .ne 6, 3) := by decide +kernel
theorem dX12_where_80 : decode cX12_where 80 = .ok (.iload 5, 2) := by decide +kernel
theorem dX12_where_82 : decode cX12_where 82 = .ok (.ireturn, 1) := by decide +kernel
theorem dX12_where_83 : decode cX12_where 83 = .ok (.iinc 4 1, 3) := by decide +kernel
theorem dX12_where_86 : decode cX12_where 86 = .ok (.iinc 5 1, 3) := by decide +kernel
theorem dX12_where_89 : decode cX12_where 89 = .ok (.goto (-52), 3) := by decide +kernel
theorem dX12_where_92 : decode cX12_where 92 = .ok (.iload_n 3, 1) := by decide +kernel
theorem dX12_where_93 : decode cX12_where 93 = .ok (.iconst (-1), 1) := by decide +kernel
theorem dX12_where_94 : decode cX12_where 94 = .ok (.if_icmp .ne 8, 3) := by decide +kernel
theorem dX12_where_97 : decode cX12_where 97 = .ok (.iload 4, 2) := by decide +kernel
theorem dX12_where_99 : decode cX12_where 99 = .ok (.goto 8, 3) := by decide +kernel
theorem dX12_where_102 : decode cX12_where 102 = .ok (.aload_n 0, 1) := by decide +kernel
theorem dX12_where_103 : decode cX12_where 103 = .ok (.iconst 1, 1) := by decide +kernel
theorem dX12_where_104 : decode cX12_where 104 = .ok (.invokevirtual 249, 3) := by decide +kernel
theorem dX12_where_107 : decode cX12_where 107 = .ok (.ireturn, 1) := by decide +kernel
theorem dX12_airs_0 : decode cX12_airs 0 = .ok (.aload_n 0, 1) := by decide +kernel
theorem dX12_airs_1 : decode cX12_airs 1 = .ok (.iconst 0, 1) := by decide +kernel
theorem dX12_airs_2 : decode cX12_airs 2 = .ok (.putfield 147, 3) := by decide +kernel
theorem dX12_airs_5 : decode cX12_airs 5 = .ok (.iload_n 1, 1) := by decide +kernel
theorem dX12_airs_6 : decode cX12_airs 6 = .ok (.invokestatic 246, 3) := by decide +kernel
theorem dX12_airs_9 : decode cX12_airs 9 = .ok (.ifCond .eq 28, 3) := by decide +kernel
theorem dX12_airs_12 : decode cX12_airs 12 = .ok (.aload_n 0, 1) := by decide +kernel
theorem dX12_airs_13 : decode cX12_airs 13 = .ok (.iload_n 2, 1) := by decide +kernel
theorem dX12_airs_14 : decode cX12_airs 14 = .ok (.invokevirtual 342, 3) := by decide +kernel
theorem dX12_airs_17 : decode cX12_airs 17 = .ok (.ifCond .eq 20, 3) := by decide +kernel
theorem dX12_airs_20 : decode cX12_airs 20 = .ok (.aload_n 0, 1) := by decide +kernel
theorem dX12_airs_21 : decode cX12_airs 21 = .ok (.iload_n 2, 1) := by decide +kernel
theorem dX12_airs_22 : decode cX12_airs 22 = .ok (.invokevirtual 348, 3) := by decide +kernel
theorem dX12_airs_25 : decode cX12_airs 25 = .ok (.ifCond .eq 12, 3) := by decide +kernel
theorem dX12_airs_28 : decode cX12_airs 28 = .ok (.iload_n 3, 1) := by decide +kernel
theorem dX12_airs_29 : decode cX12_airs 29 = .ok (.iconst 0, 1) := by decide +kernel
theorem dX12_airs_30 : decode cX12_airs 30 = .ok (.iconst 2, 1) := by decide +kernel
theorem dX12_airs_31 : decode cX12_airs 31 = .ok (.invokestatic 150, 3) := by decide +kernel
theorem dX12_airs_34 : decode cX12_airs 34 = .ok (.ifCond .ne 9, 3) := by decide +kernel
theorem dX12_airs_37 : decode cX12_airs 37 = .ok (.aload_n 0, 1) := by decide +kernel
theorem dX12_airs_38 : decode cX12_airs 38 = .ok (.iconst 1, 1) := by decide +kernel
theorem dX12_airs_39 : decode cX12_airs 39 = .ok (.invokevirtual 249, 3) := by decide +kernel
theorem dX12_airs_42 : decode cX12_airs 42 = .ok (.ireturn, 1) := by decide +kernel
theorem dX12_airs_43 : decode cX12_airs 43 = .ok (.iconst 0, 1) := by decide +kernel
theorem dX12_airs_44 : decode cX12_airs 44 = .ok (.istore 4, 2) := by decide +kernel
theorem dX12_airs_46 : decode cX12_airs 46 = .ok (.iconst (-1), 1) := by decide +kernel
theorem dX12_airs_47 : decode cX12_airs 47 = .ok (.istore 5, 2) := by decide +kernel
theorem dX12_airs_49 : decode cX12_airs 49 = .ok (.iconst (-1), 1) := by decide +kernel
theorem dX12_airs_50 : decode cX12_airs 50 = .ok (.istore 6, 2) := by decide +kernel
theorem dX12_airs_52 : decode cX12_airs 52 = .ok (.bipush 50, 2) := by decide +kernel
theorem dX12_airs_54 : decode cX12_airs 54 = .ok (.istore 7, 2) := by decide +kernel
theorem dX12_airs_56 : decode cX12_airs 56 = .ok (.iload 7, 2) := by decide +kernel
theorem dX12_airs_58 : decode cX12_airs 58 = .ok (.sipush 150, 3) := by decide +kernel
theorem dX12_airs_61 : decode cX12_airs 61 = .ok (.if_icmp .gt 58, 3) := by decide +kernel
theorem dX12_airs_64 : decode cX12_airs 64 = .ok (.aload_n 0, 1) := by decide +kernel
theorem dX12_airs_65 : decode cX12_airs 65 = .ok (.iload_n 1, 1) := by decide +kernel
theorem dX12_airs_66 : decode cX12_airs 66 = .ok (.iconst 0, 1) := by decide +kernel
theorem dX12_airs_67 : decode cX12_airs 67 = .ok (.iload_n 2, 1) := by decide +kernel
theorem dX12_airs_68 : decode cX12_airs 68 = .ok (.aload_n 0, 1) := by decide +kernel
theorem dX12_airs_69 : decode cX12_airs 69 = .ok (.getfield 70, 3) := by decide +kernel
theorem dX12_airs_72 : decode cX12_airs 72 = .ok (.iload_n 2, 1) := by decide +kernel
theorem dX12_airs_73 : decode cX12_airs 73 = .ok (.iaload, 1) := by decide +kernel
theorem dX12_airs_74 : decode cX12_airs 74 = .ok (.aload_n 0, 1) := by decide +kernel
theorem dX12_airs_75 : decode cX12_airs 75 = .ok (.getfield 73, 3) := by decide +kernel
theorem dX12_airs_78 : decode cX12_airs 78 = .ok (.iload_n 2, 1) := by decide +kernel
theorem dX12_airs_79 : decode cX12_airs 79 = .ok (.iaload, 1) := by decide +kernel
theorem dX12_airs_80 : decode cX12_airs 80 = .ok (.iload 7, 2) := by decide +kernel
theorem dX12_airs_82 : decode cX12_airs 82 = .ok (.invokevirtual 351, 3) := by decide +kernel
theorem dX12_airs_85 : decode cX12_airs 85 = .ok (.ifCond .ne 6, 3) := by decide +kernel
theorem dX12_airs_88 : decode cX12_airs 88 = .ok (.goto 25, 3) := by decide +kernel
theorem dX12_airs_91 : decode cX12_airs 91 = .ok (.iinc 4 1, 3) := by decide +kernel
theorem dX12_airs_94 : decode cX12_airs 94 = .ok (.iload 5, 2) := by decide +kernel
theorem dX12_airs_96 : decode cX12_airs 96 = .ok (.iconst (-1), 1) := by decide +kernel
theorem dX12_airs_97 : decode cX12_airs 97 = .ok (.if_icmp .ne 8, 3) := by decide +kernel
theorem dX12_airs_100 : decode cX12_airs 100 = .ok (.iload 7, 2) := by decide +kernel
theorem dX12_airs_102 : decode cX12_airs 102 = .ok (.goto 5, 3) := by decide +kernel
theorem dX12_airs_105 : decode cX12_airs 105 = .ok (.iload 5, 2) := by decide +kernel
theorem dX12_airs_107 : decode cX12_airs 107 = .ok (.istore 5, 2) := by decide +kernel
theorem dX12_airs_109 : decode cX12_airs 109 = .ok (.iload 7, 2) := by decide +kernel
theorem dX12_airs_111 : decode cX12_airs 111 = .ok (.istore 6, 2) := by decide +kernel
theorem dX12_airs_113 : decode cX12_airs 113 = .ok (.iinc 7 1, 3) := by decide +kernel
theorem dX12_airs_116 : decode cX12_airs 116 = .ok (.goto (-60), 3) := by decide +kernel
theorem dX12_airs_119 : decode cX12_airs 119 = .ok (.iload_n 3, 1) := by decide +kernel
theorem dX12_airs_120 : decode cX12_airs 120 = .ok (.ifCond .ne 8, 3) := by decide +kernel
theorem dX12_airs_123 : decode cX12_airs 123 = .ok (.iload 4, 2) := by decide +kernel
theorem dX12_airs_125 : decode cX12_airs 125 = .ok (.goto 15, 3) := by decide +kernel
theorem dX12_airs_128 : decode cX12_airs 128 = .ok (.iload_n 3, 1) := by decide +kernel
theorem dX12_airs_129 : decode cX12_airs 129 = .ok (.iconst 1, 1) := by decide +kernel
theorem dX12_airs_130 : decode cX12_airs 130 = .ok (.if_icmp .ne 8, 3) := by decide +kernel
theorem dX12_airs_133 : decode cX12_airs 133 = .ok (.iload 5, 2) := by decide +kernel
theorem dX12_airs_135 : decode cX12_airs 135 = .ok (.goto 5, 3) := by decide +kernel
theorem dX12_airs_138 : decode cX12_airs 138 = .ok (.iload 6, 2) := by decide +kernel
theorem dX12_airs_140 : decode cX12_airs 140 = .ok (.ireturn, 1) := by decide +kernel
theorem dX12_whose_0 : decode cX12_whose 0 = .ok (.aload_n 0, 1) := by decide +kernel
theorem dX12_whose_1 : decode cX12_whose 1 = .ok (.iconst 0, 1) := by decide +kernel
theorem dX12_whose_2 : decode cX12_whose 2 = .ok (.putfield 147, 3) := by decide +kernel
theorem dX12_whose_5 : decode cX12_whose 5 = .ok (.iload_n 1, 1) := by decide +kernel
theorem dX12_whose_6 : decode cX12_whose 6 = .ok (.invokestatic 246, 3) := by decide +kernel
theorem dX12_whose_9 : decode cX12_whose 9 = .ok (.ifCond .eq 46, 3) := by decide +kernel
theorem dX12_whose_12 : decode cX12_whose 12 = .ok (.aload_n 0, 1) := by decide +kernel
theorem dX12_whose_13 : decode cX12_whose 13 = .ok (.iload_n 2, 1) := by decide +kernel
theorem dX12_whose_14 : decode cX12_whose 14 = .ok (.invokevirtual 342, 3) := by decide +kernel
theorem dX12_whose_17 : decode cX12_whose 17 = .ok (.ifCond .eq 38, 3) := by decide +kernel
theorem dX12_whose_20 : decode cX12_whose 20 = .ok (.aload_n 0, 1) := by decide +kernel
theorem dX12_whose_21 : decode cX12_whose 21 = .ok (.iload_n 2, 1) := by decide +kernel
theorem dX12_whose_22 : decode cX12_whose 22 = .ok (.invokevirtual 348, 3) := by decide +kernel
theorem dX12_whose_25 : decode cX12_whose 25 = .ok (.ifCond .eq 30, 3) := by decide +kernel
theorem dX12_whose_28 : decode cX12_whose 28 = .ok (.iload_n 3, 1) := by decide +kernel
theorem dX12_whose_29 : decode cX12_whose 29 = .ok (.iconst 0, 1) := by decide +kernel
theorem dX12_whose_30 : decode cX12_whose 30 = .ok (.aload_n 0, 1) := by decide +kernel
theorem dX12_whose_31 : decode cX12_whose 31 = .ok (.getfield 82, 3) := by decide +kernel
theorem dX12_whose_34 : decode cX12_whose 34 = .ok (.iload_n 2, 1) := by decide +kernel
theorem dX12_whose_35 : decode cX12_whose 35 = .ok (.iaload, 1) := by decide +kernel
theorem dX12_whose_36 : decode cX12_whose 36 = .ok (.iconst 1, 1) := by decide +kernel
theorem dX12_whose_37 : decode cX12_whose 37 = .ok (.isub, 1) := by decide +kernel
theorem dX12_whose_38 : decode cX12_whose 38 = .ok (.invokestatic 150, 3) := by decide +kernel
theorem dX12_whose_41 : decode cX12_whose 41 = .ok (.ifCond .eq 14, 3) := by decide +kernel
theorem dX12_whose_44 : decode cX12_whose 44 = .ok (.iload 4, 2) := by decide +kernel
theorem dX12_whose_46 : decode cX12_whose 46 = .ok (.ifCond .lt 9, 3) := by decide +kernel
theorem dX12_whose_49 : decode cX12_whose 49 = .ok (.iload 4, 2) := by decide +kernel
theorem dX12_whose_51 : decode cX12_whose 51 = .ok (.iconst 1, 1) := by decide +kernel
theorem dX12_whose_52 : decode cX12_whose 52 = .ok (.if_icmp .le 9, 3) := by decide +kernel
theorem dX12_whose_55 : decode cX12_whose 55 = .ok (.aload_n 0, 1) := by decide +kernel
theorem dX12_whose_56 : decode cX12_whose 56 = .ok (.iconst 1, 1) := by decide +kernel
theorem dX12_whose_57 : decode cX12_whose 57 = .ok (.invokevirtual 249, 3) := by decide +kernel
theorem dX12_whose_60 : decode cX12_whose 60 = .ok (.ireturn, 1) := by decide +kernel
theorem dX12_whose_61 : decode cX12_whose 61 = .ok (.aload_n 0, 1) := by decide +kernel
theorem dX12_whose_62 : decode cX12_whose 62 = .ok (.iload_n 1, 1) := by decide +kernel
theorem dX12_whose_63 : decode cX12_whose 63 = .ok (.iconst 0, 1) := by decide +kernel
theorem dX12_whose_64 : decode cX12_whose 64 = .ok (.aload_n 0, 1) := by decide +kernel
theorem dX12_whose_65 : decode cX12_whose 65 = .ok (.getfield 70, 3) := by decide +kernel
theorem dX12_whose_68 : decode cX12_whose 68 = .ok (.iload_n 2, 1) := by decide +kernel
theorem dX12_whose_69 : decode cX12_whose 69 = .ok (.iaload, 1) := by decide +kernel
theorem dX12_whose_70 : decode cX12_whose 70 = .ok (.aload_n 0, 1) := by decide +kernel
theorem dX12_whose_71 : decode cX12_whose 71 = .ok (.getfield 73, 3) := by decide +kernel
theorem dX12_whose_74 : decode cX12_whose 74 = .ok (.iload_n 2, 1) := by decide +kernel
theorem dX12_whose_75 : decode cX12_whose 75 = .ok (.iaload, 1) := by decide +kernel
theorem dX12_whose_76 : decode cX12_whose 76 = .ok (.aload_n 0, 1) := by decide +kernel
theorem dX12_whose_77 : decode cX12_whose 77 = .ok (.getfield 76, 3) := by decide +kernel
theorem dX12_whose_80 : decode cX12_whose 80 = .ok (.iload_n 2, 1) := by decide +kernel
theorem dX12_whose_81 : decode cX12_whose 81 = .ok (.iaload, 1) := by decide +kernel
theorem dX12_whose_82 : decode cX12_whose 82 = .ok (.aload_n 0, 1) := by decide +kernel
theorem dX12_whose_83 : decode cX12_whose 83 = .ok (.getfield 79, 3) := by decide +kernel
theorem dX12_whose_86 : decode cX12_whose 86 = .ok (.iload_n 2, 1) := by decide +kernel
theorem dX12_whose_87 : decode cX12_whose 87 = .ok (.iaload, 1) := by decide +kernel
theorem dX12_whose_88 : decode cX12_whose 88 = .ok (.invokevirtual 316, 3) := by decide +kernel
theorem dX12_whose_91 : decode cX12_whose 91 = .ok (.iconst 0, 1) := by decide +kernel
theorem dX12_whose_92 : decode cX12_whose 92 = .ok (.istore 5, 2) := by decide +kernel
theorem dX12_whose_94 : decode cX12_whose 94 = .ok (.iconst (-1), 1) := by decide +kernel
theorem dX12_whose_95 : decode cX12_whose 95 = .ok (.istore 6, 2) := by decide +kernel
theorem dX12_whose_97 : decode cX12_whose 97 = .ok (.bipush 79, 2) := by decide +kernel
theorem dX12_whose_99 : decode cX12_whose 99 = .ok (.istore 7, 2) := by decide +kernel
theorem dX12_whose_101 : decode cX12_whose 101 = .ok (.iload 7, 2) := by decide +kernel
theorem dX12_whose_103 : decode cX12_whose 103 = .ok (.ifCond .lt 55, 3) := by decide +kernel
theorem dX12_whose_106 : decode cX12_whose 106 = .ok (.aload_n 0, 1) := by decide +kernel
theorem dX12_whose_107 : decode cX12_whose 107 = .ok (.iload_n 1, 1) := by decide +kernel
theorem dX12_whose_108 : decode cX12_whose 108 = .ok (.iload 7, 2) := by decide +kernel
theorem dX12_whose_110 : decode cX12_whose 110 = .ok (.invokevirtual 320, 3) := by decide +kernel
theorem dX12_whose_113 : decode cX12_whose 113 = .ok (.ifCond .eq 39, 3) := by decide +kernel
theorem dX12_whose_116 : decode cX12_whose 116 = .ok (.aload_n 0, 1) := by decide +kernel
theorem dX12_whose_117 : decode cX12_whose 117 = .ok (.iload 7, 2) := by decide +kernel
theorem dX12_whose_119 : decode cX12_whose 119 = .ok (.aload_n 0, 1) := by decide +kernel
theorem dX12_whose_120 : decode cX12_whose 120 = .ok (.getfield 39, 3) := by decide +kernel
theorem dX12_whose_123 : decode cX12_whose 123 = .ok (.iload_n 1, 1) := by decide +kernel
theorem dX12_whose_124 : decode cX12_whose 124 = .ok (.iaload, 1) := by decide +kernel
theorem dX12_whose_125 : decode cX12_whose 125 = .ok (.invokevirtual 324, 3) := by decide +kernel
theorem dX12_whose_128 : decode cX12_whose 128 = .ok (.aload_n 0, 1) := by decide +kernel
theorem dX12_whose_129 : decode cX12_whose 129 = .ok (.getfield 85, 3) := by decide +kernel
theorem dX12_whose_132 : decode cX12_whose 132 = .ok (.bipush 12, 2) := by decide +kernel
theorem dX12_whose_134 : decode cX12_whose 134 = .ok (.iload_n 2, 1) := by decide +kernel
theorem dX12_whose_135 : decode cX12_whose 135 = .ok (.imul, 1) := by decide +kernel
theorem dX12_whose_136 : decode cX12_whose 136 = .ok (.iload_n 3, 1) := by decide +kernel
theorem dX12_whose_137 : decode cX12_whose 137 = .ok (.iadd, 1) := by decide +kernel
theorem dX12_whose_138 : decode cX12_whose 138 = .ok (.iaload, 1) := by decide +kernel
theorem dX12_whose_139 : decode cX12_whose 139 = .ok (.if_icmp .eq 6, 3) := by decide +kernel
theorem dX12_whose_142 : decode cX12_whose 142 = .ok (.goto 10, 3) := by decide +kernel
theorem dX12_whose_145 : decode cX12_whose 145 = .ok (.iinc 5 1, 3) := by decide +kernel
theorem dX12_whose_148 : decode cX12_whose 148 = .ok (.iload 7, 2) := by decide +kernel
theorem dX12_whose_150 : decode cX12_whose 150 = .ok (.istore 6, 2) := by decide +kernel
theorem dX12_whose_152 : decode cX12_whose 152 = .ok (.iinc 7 (-1), 3) := by decide +kernel
theorem dX12_whose_155 : decode cX12_whose 155 = .ok (.goto (-54), 3) := by decide +kernel
theorem dX12_whose_158 : decode cX12_whose 158 = .ok (.iload 4, 2) := by decide +kernel
theorem dX12_whose_160 : decode cX12_whose 160 = .ok (.ifCond .ne 8, 3) := by decide +kernel
theorem dX12_whose_163 : decode cX12_whose 163 = .ok (.iload 5, 2) := by decide +kernel
theorem dX12_whose_165 : decode cX12_whose 165 = .ok (.goto 5, 3) := by decide +kernel
theorem dX12_whose_168 : decode cX12_whose 168 = .ok (.iload 6, 2) := by decide +kernel
theorem dX12_whose_170 : decode cX12_whose 170 = .ok (.ireturn, 1) := by decide +kernel
theorem dX12_allFit_0 : decode cX12_allFit 0 = .ok (.iconst 0, 1) := by decide +kernel
theorem dX12_allFit_1 : decode cX12_allFit 1 = .ok (.istore 4, 2) := by decide +kernel
theorem dX12_allFit_3 : decode cX12_allFit 3 = .ok (.iload 4, 2) := by decide +kernel
theorem dX12_allFit_5 : decode cX12_allFit 5 = .ok (.aload_n 0, 1) := by decide +kernel
theorem dX12_allFit_6 : decode cX12_allFit 6 = .ok (.getfield 255, 3) := by decide +kernel
theorem dX12_allFit_9 : decode cX12_allFit 9 = .ok (.if_icmp .ge 62, 3) := by decide +kernel
theorem dX12_allFit_12 : decode cX12_allFit 12 = .ok (.aload_n 0, 1) := by decide +kernel
theorem dX12_allFit_13 : decode cX12_allFit 13 = .ok (.iload 4, 2) := by decide +kernel
theorem dX12_allFit_15 : decode cX12_allFit 15 = .ok (.invokevirtual 348, 3) := by decide +kernel
theorem dX12_allFit_18 : decode cX12_allFit 18 = .ok (.ifCond .eq 47, 3) := by decide +kernel
theorem dX12_allFit_21 : decode cX12_allFit 21 = .ok (.aload_n 0, 1) := by decide +kernel
theorem dX12_allFit_22 : decode cX12_allFit 22 = .ok (.getfield 76, 3) := by decide +kernel
theorem dX12_allFit_25 : decode cX12_allFit 25 = .ok (.iload 4, 2) := by decide +kernel
theorem dX12_allFit_27 : decode cX12_allFit 27 = .ok (.iaload, 1) := by decide +kernel
theorem dX12_allFit_28 : decode cX12_allFit 28 = .ok (.iload_n 3, 1) := by decide +kernel
theorem dX12_allFit_29 : decode cX12_allFit 29 = .ok (.if_icmp .ne 36, 3) := by decide +kernel
theorem dX12_allFit_32 : decode cX12_allFit 32 = .ok (.aload_n 0, 1) := by decide +kernel
theorem dX12_allFit_33 : decode cX12_allFit 33 = .ok (.iload_n 1, 1) := by decide +kernel
theorem dX12_allFit_34 : decode cX12_allFit 34 = .ok (.iload_n 2, 1) := by decide +kernel
theorem dX12_allFit_35 : decode cX12_allFit 35 = .ok (.iload 4, 2) := by decide +kernel
theorem dX12_allFit_37 : decode cX12_allFit 37 = .ok (.aload_n 0, 1) := by decide +kernel
theorem dX12_allFit_38 : decode cX12_allFit 38 = .ok (.getfield 70, 3) := by decide +kernel
theorem dX12_allFit_41 : decode cX12_allFit 41 = .ok (.iload 4, 2) := by decide +kernel
theorem dX12_allFit_43 : decode cX12_allFit 43 = .ok (.iaload, 1) := by decide +kernel
theorem dX12_allFit_44 : decode cX12_allFit 44 = .ok (.aload_n 0, 1) := by decide +kernel
theorem dX12_allFit_45 : decode cX12_allFit 45 = .ok (.getfield 73, 3) := by decide +kernel
theorem dX12_allFit_48 : decode cX12_allFit 48 = .ok (.iload 4, 2) := by decide +kernel
theorem dX12_allFit_50 : decode cX12_allFit 50 = .ok (.iaload, 1) := by decide +kernel
theorem dX12_allFit_51 : decode cX12_allFit 51 = .ok (.aload_n 0, 1) := by decide +kernel
theorem dX12_allFit_52 : decode cX12_allFit 52 = .ok (.getfield 39, 3) := by decide +kernel
theorem dX12_allFit_55 : decode cX12_allFit 55 = .ok (.iload_n 1, 1) := by decide +kernel
theorem dX12_allFit_56 : decode cX12_allFit 56 = .ok (.iaload, 1) := by decide +kernel
theorem dX12_allFit_57 : decode cX12_allFit 57 = .ok (.invokevirtual 351, 3) := by decide +kernel
theorem dX12_allFit_60 : decode cX12_allFit 60 = .ok (.ifCond .ne 5, 3) := by decide +kernel
theorem dX12_allFit_63 : decode cX12_allFit 63 = .ok (.iconst 0, 1) := by decide +kernel
theorem dX12_allFit_64 : decode cX12_allFit 64 = .ok (.ireturn, 1) := by decide +kernel
theorem dX12_allFit_65 : decode cX12_allFit 65 = .ok (.iinc 4 1, 3) := by decide +kernel
theorem dX12_allFit_68 : decode cX12_allFit 68 = .ok (.goto (-65), 3) := by decide +kernel
theorem dX12_allFit_71 : decode cX12_allFit 71 = .ok (.iconst 1, 1) := by decide +kernel
theorem dX12_allFit_72 : decode cX12_allFit 72 = .ok (.ireturn, 1) := by decide +kernel
theorem dX12_bitsOf_0 : decode cX12_bitsOf 0 = .ok (.iconst 0, 1) := by decide +kernel
theorem dX12_bitsOf_1 : decode cX12_bitsOf 1 = .ok (.istore_n 1, 1) := by decide +kernel
theorem dX12_bitsOf_2 : decode cX12_bitsOf 2 = .ok (.iload_n 0, 1) := by decide +kernel
theorem dX12_bitsOf_3 : decode cX12_bitsOf 3 = .ok (.istore_n 2, 1) := by decide +kernel
theorem dX12_bitsOf_4 : decode cX12_bitsOf 4 = .ok (.iload_n 2, 1) := by decide +kernel
theorem dX12_bitsOf_5 : decode cX12_bitsOf 5 = .ok (.ifCond .eq 15, 3) := by decide +kernel
theorem dX12_bitsOf_8 : decode cX12_bitsOf 8 = .ok (.iinc 1 1, 3) := by decide +kernel
theorem dX12_bitsOf_11 : decode cX12_bitsOf 11 = .ok (.iload_n 2, 1) := by decide +kernel
theorem dX12_bitsOf_12 : decode cX12_bitsOf 12 = .ok (.iload_n 2, 1) := by decide +kernel
theorem dX12_bitsOf_13 : decode cX12_bitsOf 13 = .ok (.iconst 1, 1) := by decide +kernel
theorem dX12_bitsOf_14 : decode cX12_bitsOf 14 = .ok (.isub, 1) := by decide +kernel
theorem dX12_bitsOf_15 : decode cX12_bitsOf 15 = .ok (.iand, 1) := by decide +kernel
theorem dX12_bitsOf_16 : decode cX12_bitsOf 16 = .ok (.istore_n 2, 1) := by decide +kernel
theorem dX12_bitsOf_17 : decode cX12_bitsOf 17 = .ok (.goto (-13), 3) := by decide +kernel
theorem dX12_bitsOf_20 : decode cX12_bitsOf 20 = .ok (.iload_n 1, 1) := by decide +kernel
theorem dX12_bitsOf_21 : decode cX12_bitsOf 21 = .ok (.ireturn, 1) := by decide +kernel
theorem dX12_gone_0 : decode cX12_gone 0 = .ok (.aload_n 0, 1) := by decide +kernel
theorem dX12_gone_1 : decode cX12_gone 1 = .ok (.iconst 0, 1) := by decide +kernel
theorem dX12_gone_2 : decode cX12_gone 2 = .ok (.putfield 147, 3) := by decide +kernel
theorem dX12_gone_5 : decode cX12_gone 5 = .ok (.iload_n 1, 1) := by decide +kernel
theorem dX12_gone_6 : decode cX12_gone 6 = .ok (.invokestatic 246, 3) := by decide +kernel
theorem dX12_gone_9 : decode cX12_gone 9 = .ok (.ifCond .eq 10, 3) := by decide +kernel
theorem dX12_gone_12 : decode cX12_gone 12 = .ok (.iload_n 2, 1) := by decide +kernel
theorem dX12_gone_13 : decode cX12_gone 13 = .ok (.invokestatic 333, 3) := by decide +kernel
theorem dX12_gone_16 : decode cX12_gone 16 = .ok (.ifCond .ne 9, 3) := by decide +kernel
theorem dX12_gone_19 : decode cX12_gone 19 = .ok (.aload_n 0, 1) := by decide +kernel
theorem dX12_gone_20 : decode cX12_gone 20 = .ok (.iconst 1, 1) := by decide +kernel
theorem dX12_gone_21 : decode cX12_gone 21 = .ok (.invokevirtual 249, 3) := by decide +kernel
theorem dX12_gone_24 : decode cX12_gone 24 = .ok (.ireturn, 1) := by decide +kernel
theorem dX12_gone_25 : decode cX12_gone 25 = .ok (.iconst 1, 1) := by decide +kernel
theorem dX12_gone_26 : decode cX12_gone 26 = .ok (.aload_n 0, 1) := by decide +kernel
theorem dX12_gone_27 : decode cX12_gone 27 = .ok (.getfield 31, 3) := by decide +kernel
theorem dX12_gone_30 : decode cX12_gone 30 = .ok (.iload_n 1, 1) := by decide +kernel
theorem dX12_gone_31 : decode cX12_gone 31 = .ok (.iaload, 1) := by decide +kernel
theorem dX12_gone_32 : decode cX12_gone 32 = .ok (.ishl, 1) := by decide +kernel
theorem dX12_gone_33 : decode cX12_gone 33 = .ok (.iconst 1, 1) := by decide +kernel
theorem dX12_gone_34 : decode cX12_gone 34 = .ok (.isub, 1) := by decide +kernel
theorem dX12_gone_35 : decode cX12_gone 35 = .ok (.iconst 1, 1) := by decide +kernel
theorem dX12_gone_36 : decode cX12_gone 36 = .ok (.aload_n 0, 1) := by decide +kernel
theorem dX12_gone_37 : decode cX12_gone 37 = .ok (.getfield 27, 3) := by decide +kernel
theorem dX12_gone_40 : decode cX12_gone 40 = .ok (.iload_n 1, 1) := by decide +kernel
theorem dX12_gone_41 : decode cX12_gone 41 = .ok (.iaload, 1) := by decide +kernel
theorem dX12_gone_42 : decode cX12_gone 42 = .ok (.ishl, 1) := by decide +kernel
theorem dX12_gone_43 : decode cX12_gone 43 = .ok (.iconst 1, 1) := by decide +kernel
theorem dX12_gone_44 : decode cX12_gone 44 = .ok (.isub, 1) := by decide +kernel
theorem dX12_gone_45 : decode cX12_gone 45 = .ok (.bipush 8, 2) := by decide +kernel
theorem dX12_gone_47 : decode cX12_gone 47 = .ok (.ishl, 1) := by decide +kernel
theorem dX12_gone_48 : decode cX12_gone 48 = .ok (.ior, 1) := by decide +kernel
theorem dX12_gone_49 : decode cX12_gone 49 = .ok (.istore_n 3, 1) := by decide +kernel
theorem dX12_gone_50 : decode cX12_gone 50 = .ok (.iconst 0, 1) := by decide +kernel
theorem dX12_gone_51 : decode cX12_gone 51 = .ok (.istore 4, 2) := by decide +kernel
theorem dX12_gone_53 : decode cX12_gone 53 = .ok (.iload 4, 2) := by decide +kernel
theorem dX12_gone_55 : decode cX12_gone 55 = .ok (.bipush 16, 2) := by decide +kernel
theorem dX12_gone_57 : decode cX12_gone 57 = .ok (.if_icmp .gt 57, 3) := by decide +kernel
theorem dX12_gone_60 : decode cX12_gone 60 = .ok (.iconst 0, 1) := by decide +kernel
theorem dX12_gone_61 : decode cX12_gone 61 = .ok (.istore 5, 2) := by decide +kernel
theorem dX12_gone_63 : decode cX12_gone 63 = .ok (.iload 5, 2) := by decide +kernel
theorem dX12_gone_65 : decode cX12_gone 65 = .ok (.iload_n 3, 1) := by decide +kernel
theorem dX12_gone_66 : decode cX12_gone 66 = .ok (.if_icmp .gt 42, 3) := by decide +kernel
theorem dX12_gone_69 : decode cX12_gone 69 = .ok (.iload 5, 2) := by decide +kernel
theorem dX12_gone_71 : decode cX12_gone 71 = .ok (.iload_n 3, 1) := by decide +kernel
theorem dX12_gone_72 : decode cX12_gone 72 = .ok (.iconst (-1), 1) := by decide +kernel
theorem dX12_gone_73 : decode cX12_gone 73 = .ok (.ixor, 1) := by decide +kernel
theorem dX12_gone_74 : decode cX12_gone 74 = .ok (.iand, 1) := by decide +kernel
theorem dX12_gone_75 : decode cX12_gone 75 = .ok (.ifCond .ne 27, 3) := by decide +kernel
theorem dX12_gone_78 : decode cX12_gone 78 = .ok (.iload 5, 2) := by decide +kernel
theorem dX12_gone_80 : decode cX12_gone 80 = .ok (.invokestatic 354, 3) := by decide +kernel
theorem dX12_gone_83 : decode cX12_gone 83 = .ok (.iload 4, 2) := by decide +kernel
theorem dX12_gone_85 : decode cX12_gone 85 = .ok (.if_icmp .ne 17, 3) := by decide +kernel
theorem dX12_gone_88 : decode cX12_gone 88 = .ok (.aload_n 0, 1) := by decide +kernel
theorem dX12_gone_89 : decode cX12_gone 89 = .ok (.iload_n 1, 1) := by decide +kernel
theorem dX12_gone_90 : decode cX12_gone 90 = .ok (.iload 5, 2) := by decide +kernel
theorem dX12_gone_92 : decode cX12_gone 92 = .ok (.iload_n 2, 1) := by decide +kernel
theorem dX12_gone_93 : decode cX12_gone 93 = .ok (.invokevirtual 357, 3) := by decide +kernel
theorem dX12_gone_96 : decode cX12_gone 96 = .ok (.ifCond .eq 6, 3) := by decide +kernel
theorem dX12_gone_99 : decode cX12_gone 99 = .ok (.iload 5, 2) := by decide +kernel
theorem dX12_gone_101 : decode cX12_gone 101 = .ok (.ireturn, 1) := by decide +kernel
theorem dX12_gone_102 : decode cX12_gone 102 = .ok (.iinc 5 1, 3) := by decide +kernel
theorem dX12_gone_105 : decode cX12_gone 105 = .ok (.goto (-42), 3) := by decide +kernel
theorem dX12_gone_108 : decode cX12_gone 108 = .ok (.iinc 4 1, 3) := by decide +kernel
theorem dX12_gone_111 : decode cX12_gone 111 = .ok (.goto (-58), 3) := by decide +kernel
theorem dX12_gone_114 : decode cX12_gone 114 = .ok (.iconst (-1), 1) := by decide +kernel
theorem dX12_gone_115 : decode cX12_gone 115 = .ok (.ireturn, 1) := by decide +kernel
theorem dX12_tickOfLine_0 : decode cX12_tickOfLine 0 = .ok (.iload_n 0, 1) := by decide +kernel
theorem dX12_tickOfLine_1 : decode cX12_tickOfLine 1 = .ok (.bipush 41, 2) := by decide +kernel
theorem dX12_tickOfLine_3 : decode cX12_tickOfLine 3 = .ok (.if_icmp .ge 12, 3) := by decide +kernel
theorem dX12_tickOfLine_6 : decode cX12_tickOfLine 6 = .ok (.iload_n 0, 1) := by decide +kernel
theorem dX12_tickOfLine_7 : decode cX12_tickOfLine 7 = .ok (.iload_n 1, 1) := by decide +kernel
theorem dX12_tickOfLine_8 : decode cX12_tickOfLine 8 = .ok (.isub, 1) := by decide +kernel
theorem dX12_tickOfLine_9 : decode cX12_tickOfLine 9 = .ok (.invokestatic 278, 3) := by decide +kernel
theorem dX12_tickOfLine_12 : decode cX12_tickOfLine 12 = .ok (.goto 12, 3) := by decide +kernel
theorem dX12_tickOfLine_15 : decode cX12_tickOfLine 15 = .ok (.iload_n 0, 1) := by decide +kernel
theorem dX12_tickOfLine_16 : decode cX12_tickOfLine 16 = .ok (.bipush 41, 2) := by decide +kernel
theorem dX12_tickOfLine_18 : decode cX12_tickOfLine 18 = .ok (.isub, 1) := by decide +kernel
theorem dX12_tickOfLine_19 : decode cX12_tickOfLine 19 = .ok (.iload_n 2, 1) := by decide +kernel
theorem dX12_tickOfLine_20 : decode cX12_tickOfLine 20 = .ok (.isub, 1) := by decide +kernel
theorem dX12_tickOfLine_21 : decode cX12_tickOfLine 21 = .ok (.invokestatic 278, 3) := by decide +kernel
theorem dX12_tickOfLine_24 : decode cX12_tickOfLine 24 = .ok (.istore 4, 2) := by decide +kernel
theorem dX12_tickOfLine_26 : decode cX12_tickOfLine 26 = .ok (.iload 4, 2) := by decide +kernel
theorem dX12_tickOfLine_28 : decode cX12_tickOfLine 28 = .ok (.ifCond .ne 7, 3) := by decide +kernel
theorem dX12_tickOfLine_31 : decode cX12_tickOfLine 31 = .ok (.iconst (-1), 1) := by decide +kernel
theorem dX12_tickOfLine_32 : decode cX12_tickOfLine 32 = .ok (.goto 11, 3) := by decide +kernel
theorem dX12_tickOfLine_35 : decode cX12_tickOfLine 35 = .ok (.sipush 200, 3) := by decide +kernel
theorem dX12_tickOfLine_38 : decode cX12_tickOfLine 38 = .ok (.iload 4, 2) := by decide +kernel
theorem dX12_tickOfLine_40 : decode cX12_tickOfLine 40 = .ok (.imul, 1) := by decide +kernel
theorem dX12_tickOfLine_41 : decode cX12_tickOfLine 41 = .ok (.iload_n 3, 1) := by decide +kernel
theorem dX12_tickOfLine_42 : decode cX12_tickOfLine 42 = .ok (.idiv, 1) := by decide +kernel
theorem dX12_tickOfLine_43 : decode cX12_tickOfLine 43 = .ok (.ireturn, 1) := by decide +kernel
theorem dX12_isPlan_0 : decode cX12_isPlan 0 = .ok (.iconst 0, 1) := by decide +kernel
theorem dX12_isPlan_1 : decode cX12_isPlan 1 = .ok (.istore 4, 2) := by decide +kernel
theorem dX12_isPlan_3 : decode cX12_isPlan 3 = .ok (.iload 4, 2) := by decide +kernel
theorem dX12_isPlan_5 : decode cX12_isPlan 5 = .ok (.aload_n 0, 1) := by decide +kernel
theorem dX12_isPlan_6 : decode cX12_isPlan 6 = .ok (.getfield 360, 3) := by decide +kernel
theorem dX12_isPlan_9 : decode cX12_isPlan 9 = .ok (.if_icmp .ge 130, 3) := by decide +kernel
theorem dX12_isPlan_12 : decode cX12_isPlan 12 = .ok (.bipush 82, 2) := by decide +kernel
theorem dX12_isPlan_14 : decode cX12_isPlan 14 = .ok (.iload 4, 2) := by decide +kernel
theorem dX12_isPlan_16 : decode cX12_isPlan 16 = .ok (.imul, 1) := by decide +kernel
theorem dX12_isPlan_17 : decode cX12_isPlan 17 = .ok (.istore 5, 2) := by decide +kernel
theorem dX12_isPlan_19 : decode cX12_isPlan 19 = .ok (.aload_n 0, 1) := by decide +kernel
theorem dX12_isPlan_20 : decode cX12_isPlan 20 = .ok (.iconst 0, 1) := by decide +kernel
theorem dX12_isPlan_21 : decode cX12_isPlan 21 = .ok (.putfield 313, 3) := by decide +kernel
theorem dX12_isPlan_24 : decode cX12_isPlan 24 = .ok (.iload_n 1, 1) := by decide +kernel
theorem dX12_isPlan_25 : decode cX12_isPlan 25 = .ok (.iconst (-1), 1) := by decide +kernel
theorem dX12_isPlan_26 : decode cX12_isPlan 26 = .ok (.if_icmp .eq 29, 3) := by decide +kernel
theorem dX12_isPlan_29 : decode cX12_isPlan 29 = .ok (.aload_n 0, 1) := by decide +kernel
theorem dX12_isPlan_30 : decode cX12_isPlan 30 = .ok (.getfield 97, 3) := by decide +kernel
theorem dX12_isPlan_33 : decode cX12_isPlan 33 = .ok (.iload 5, 2) := by decide +kernel
theorem dX12_isPlan_35 : decode cX12_isPlan 35 = .ok (.iload_n 1, 1) := by decide +kernel
theorem dX12_isPlan_36 : decode cX12_isPlan 36 = .ok (.iadd, 1) := by decide +kernel
theorem dX12_isPlan_37 : decode cX12_isPlan 37 = .ok (.iaload, 1) := by decide +kernel
theorem dX12_isPlan_38 : decode cX12_isPlan 38 = .ok (.iconst (-1), 1) := by decide +kernel
theorem dX12_isPlan_39 : decode cX12_isPlan 39 = .ok (.if_icmp .eq 16, 3) := by decide +kernel
theorem dX12_isPlan_42 : decode cX12_isPlan 42 = .ok (.aload_n 0, 1) := by decide +kernel
theorem dX12_isPlan_43 : decode cX12_isPlan 43 = .ok (.aload_n 0, 1) := by decide +kernel
theorem dX12_isPlan_44 : decode cX12_isPlan 44 = .ok (.getfield 97, 3) := by decide +kernel
theorem dX12_isPlan_47 : decode cX12_isPlan 47 = .ok (.iload 5, 2) := by decide +kernel
theorem dX12_isPlan_49 : decode cX12_isPlan 49 = .ok (.iload_n 1, 1) := by decide +kernel
theorem dX12_isPlan_50 : decode cX12_isPlan 50 = .ok (.iadd, 1) := by decide +kernel
theorem dX12_isPlan_51 : decode cX12_isPlan 51 = .ok (.iaload, 1) := by decide +kernel
theorem dX12_isPlan_52 : decode cX12_isPlan 52 = .ok (.invokevirtual 327, 3) := by decide +kernel
theorem dX12_isPlan_55 : decode cX12_isPlan 55 = .ok (.iload_n 2, 1) := by decide +kernel
theorem dX12_isPlan_56 : decode cX12_isPlan 56 = .ok (.iconst (-1), 1) := by decide +kernel
theorem dX12_isPlan_57 : decode cX12_isPlan 57 = .ok (.if_icmp .eq 29, 3) := by decide +kernel
theorem dX12_isPlan_60 : decode cX12_isPlan 60 = .ok (.aload_n 0, 1) := by decide +kernel
theorem dX12_isPlan_61 : decode cX12_isPlan 61 = .ok (.getfield 97, 3) := by decide +kernel
theorem dX12_isPlan_64 : decode cX12_isPlan 64 = .ok (.iload 5, 2) := by decide +kernel
theorem dX12_isPlan_66 : decode cX12_isPlan 66 = .ok (.iload_n 2, 1) := by decide +kernel
theorem dX12_isPlan_67 : decode cX12_isPlan 67 = .ok (.iadd, 1) := by decide +kernel
theorem dX12_isPlan_68 : decode cX12_isPlan 68 = .ok (.iaload, 1) := by decide +kernel
theorem dX12_isPlan_69 : decode cX12_isPlan 69 = .ok (.iconst (-1), 1) := by decide +kernel
theorem dX12_isPlan_70 : decode cX12_isPlan 70 = .ok (.if_icmp .eq 16, 3) := by decide +kernel
theorem dX12_isPlan_73 : decode cX12_isPlan 73 = .ok (.aload_n 0, 1) := by decide +kernel
theorem dX12_isPlan_74 : decode cX12_isPlan 74 = .ok (.aload_n 0, 1) := by decide +kernel
theorem dX12_isPlan_75 : decode cX12_isPlan 75 = .ok (.getfield 97, 3) := by decide +kernel
theorem dX12_isPlan_78 : decode cX12_isPlan 78 = .ok (.iload 5, 2) := by decide +kernel
theorem dX12_isPlan_80 : decode cX12_isPlan 80 = .ok (.iload_n 2, 1) := by decide +kernel
theorem dX12_isPlan_81 : decode cX12_isPlan 81 = .ok (.iadd, 1) := by decide +kernel
theorem dX12_isPlan_82 : decode cX12_isPlan 82 = .ok (.iaload, 1) := by decide +kernel
theorem dX12_isPlan_83 : decode cX12_isPlan 83 = .ok (.invokevirtual 327, 3) := by decide +kernel
theorem dX12_isPlan_86 : decode cX12_isPlan 86 = .ok (.iload_n 3, 1) := by decide +kernel
theorem dX12_isPlan_87 : decode cX12_isPlan 87 = .ok (.iconst (-1), 1) := by decide +kernel
theorem dX12_isPlan_88 : decode cX12_isPlan 88 = .ok (.if_icmp .eq 29, 3) := by decide +kernel
theorem dX12_isPlan_91 : decode cX12_isPlan 91 = .ok (.aload_n 0, 1) := by decide +kernel
theorem dX12_isPlan_92 : decode cX12_isPlan 92 = .ok (.getfield 97, 3) := by decide +kernel
theorem dX12_isPlan_95 : decode cX12_isPlan 95 = .ok (.iload 5, 2) := by decide +kernel
theorem dX12_isPlan_97 : decode cX12_isPlan 97 = .ok (.iload_n 3, 1) := by decide +kernel
theorem dX12_isPlan_98 : decode cX12_isPlan 98 = .ok (.iadd, 1) := by decide +kernel
theorem dX12_isPlan_99 : decode cX12_isPlan 99 = .ok (.iaload, 1) := by decide +kernel
theorem dX12_isPlan_100 : decode cX12_isPlan 100 = .ok (.iconst (-1), 1) := by decide +kernel
theorem dX12_isPlan_101 : decode cX12_isPlan 101 = .ok (.if_icmp .eq 16, 3) := by decide +kernel
theorem dX12_isPlan_104 : decode cX12_isPlan 104 = .ok (.aload_n 0, 1) := by decide +kernel
theorem dX12_isPlan_105 : decode cX12_isPlan 105 = .ok (.aload_n 0, 1) := by decide +kernel
theorem dX12_isPlan_106 : decode cX12_isPlan 106 = .ok (.getfield 97, 3) := by decide +kernel
theorem dX12_isPlan_109 : decode cX12_isPlan 109 = .ok (.iload 5, 2) := by decide +kernel
theorem dX12_isPlan_111 : decode cX12_isPlan 111 = .ok (.iload_n 3, 1) := by decide +kernel
theorem dX12_isPlan_112 : decode cX12_isPlan 112 = .ok (.iadd, 1) := by decide +kernel
theorem dX12_isPlan_113 : decode cX12_isPlan 113 = .ok (.iaload, 1) := by decide +kernel
theorem dX12_isPlan_114 : decode cX12_isPlan 114 = .ok (.invokevirtual 327, 3) := by decide +kernel
theorem dX12_isPlan_117 : decode cX12_isPlan 117 = .ok (.aload_n 0, 1) := by decide +kernel
theorem dX12_isPlan_118 : decode cX12_isPlan 118 = .ok (.aload_n 0, 1) := by decide +kernel
theorem dX12_isPlan_119 : decode cX12_isPlan 119 = .ok (.getfield 100, 3) := by decide +kernel
theorem dX12_isPlan_122 : decode cX12_isPlan 122 = .ok (.iload 4, 2) := by decide +kernel
theorem dX12_isPlan_124 : decode cX12_isPlan 124 = .ok (.iaload, 1) := by decide +kernel
theorem dX12_isPlan_125 : decode cX12_isPlan 125 = .ok (.invokevirtual 345, 3) := by decide +kernel
theorem dX12_isPlan_128 : decode cX12_isPlan 128 = .ok (.ifCond .ne 5, 3) := by decide +kernel
theorem dX12_isPlan_131 : decode cX12_isPlan 131 = .ok (.iconst 0, 1) := by decide +kernel
theorem dX12_isPlan_132 : decode cX12_isPlan 132 = .ok (.ireturn, 1) := by decide +kernel
theorem dX12_isPlan_133 : decode cX12_isPlan 133 = .ok (.iinc 4 1, 3) := by decide +kernel
theorem dX12_isPlan_136 : decode cX12_isPlan 136 = .ok (.goto (-133), 3) := by decide +kernel
theorem dX12_isPlan_139 : decode cX12_isPlan 139 = .ok (.iconst 1, 1) := by decide +kernel
theorem dX12_isPlan_140 : decode cX12_isPlan 140 = .ok (.ireturn, 1) := by decide +kernel
theorem dX12_tryPlan_0 : decode cX12_tryPlan 0 = .ok (.aload_n 0, 1) := by decide +kernel
theorem dX12_tryPlan_1 : decode cX12_tryPlan 1 = .ok (.iload_n 1, 1) := by decide +kernel
theorem dX12_tryPlan_2 : decode cX12_tryPlan 2 = .ok (.iload_n 2, 1) := by decide +kernel
theorem dX12_tryPlan_3 : decode cX12_tryPlan 3 = .ok (.iload_n 3, 1) := by decide +kernel
theorem dX12_tryPlan_4 : decode cX12_tryPlan 4 = .ok (.invokevirtual 363, 3) := by decide +kernel
theorem dX12_tryPlan_7 : decode cX12_tryPlan 7 = .ok (.ifCond .ne 4, 3) := by decide +kernel
theorem dX12_tryPlan_10 : decode cX12_tryPlan 10 = .ok (.return_, 1) := by decide +kernel
theorem dX12_tryPlan_11 : decode cX12_tryPlan 11 = .ok (.aload_n 0, 1) := by decide +kernel
theorem dX12_tryPlan_12 : decode cX12_tryPlan 12 = .ok (.getfield 104, 3) := by decide +kernel
theorem dX12_tryPlan_15 : decode cX12_tryPlan 15 = .ok (.aload_n 0, 1) := by decide +kernel
theorem dX12_tryPlan_16 : decode cX12_tryPlan 16 = .ok (.getfield 366, 3) := by decide +kernel
theorem dX12_tryPlan_19 : decode cX12_tryPlan 19 = .ok (.sipush 6889, 3) := by decide +kernel
theorem dX12_tryPlan_22 : decode cX12_tryPlan 22 = .ok (.iload_n 1, 1) := by decide +kernel
theorem dX12_tryPlan_23 : decode cX12_tryPlan 23 = .ok (.iconst 1, 1) := by decide +kernel
theorem dX12_tryPlan_24 : decode cX12_tryPlan 24 = .ok (.iadd, 1) := by decide +kernel
theorem dX12_tryPlan_25 : decode cX12_tryPlan 25 = .ok (.imul, 1) := by decide +kernel
theorem dX12_tryPlan_26 : decode cX12_tryPlan 26 = .ok (.bipush 83, 2) := by decide +kernel
theorem dX12_tryPlan_28 : decode cX12_tryPlan 28 = .ok (.iload_n 2, 1) := by decide +kernel
theorem dX12_tryPlan_29 : decode cX12_tryPlan 29 = .ok (.iconst 1, 1) := by decide +kernel
theorem dX12_tryPlan_30 : decode cX12_tryPlan 30 = .ok (.iadd, 1) := by decide +kernel
theorem dX12_tryPlan_31 : decode cX12_tryPlan 31 = .ok (.imul, 1) := by decide +kernel
theorem dX12_tryPlan_32 : decode cX12_tryPlan 32 = .ok (.iadd, 1) := by decide +kernel
theorem dX12_tryPlan_33 : decode cX12_tryPlan 33 = .ok (.iload_n 3, 1) := by decide +kernel
theorem dX12_tryPlan_34 : decode cX12_tryPlan 34 = .ok (.iadd, 1) := by decide +kernel
theorem dX12_tryPlan_35 : decode cX12_tryPlan 35 = .ok (.iconst 1, 1) := by decide +kernel
theorem dX12_tryPlan_36 : decode cX12_tryPlan 36 = .ok (.iadd, 1) := by decide +kernel
theorem dX12_tryPlan_37 : decode cX12_tryPlan 37 = .ok (.iastore, 1) := by decide +kernel
theorem dX12_tryPlan_38 : decode cX12_tryPlan 38 = .ok (.aload_n 0, 1) := by decide +kernel
theorem dX12_tryPlan_39 : decode cX12_tryPlan 39 = .ok (.dup, 1) := by decide +kernel
theorem dX12_tryPlan_40 : decode cX12_tryPlan 40 = .ok (.getfield 366, 3) := by decide +kernel
theorem dX12_tryPlan_43 : decode cX12_tryPlan 43 = .ok (.iconst 1, 1) := by decide +kernel
theorem dX12_tryPlan_44 : decode cX12_tryPlan 44 = .ok (.iadd, 1) := by decide +kernel
theorem dX12_tryPlan_45 : decode cX12_tryPlan 45 = .ok (.putfield 366, 3) := by decide +kernel
theorem dX12_tryPlan_48 : decode cX12_tryPlan 48 = .ok (.return_, 1) := by decide +kernel
theorem dX12_plans_0 : decode cX12_plans 0 = .ok (.aload_n 0, 1) := by decide +kernel
theorem dX12_plans_1 : decode cX12_plans 1 = .ok (.iconst 0, 1) := by decide +kernel
theorem dX12_plans_2 : decode cX12_plans 2 = .ok (.putfield 147, 3) := by decide +kernel
theorem dX12_plans_5 : decode cX12_plans 5 = .ok (.iload_n 1, 1) := by decide +kernel
theorem dX12_plans_6 : decode cX12_plans 6 = .ok (.invokestatic 333, 3) := by decide +kernel
theorem dX12_plans_9 : decode cX12_plans 9 = .ok (.ifCond .ne 9, 3) := by decide +kernel
theorem dX12_plans_12 : decode cX12_plans 12 = .ok (.aload_n 0, 1) := by decide +kernel
theorem dX12_plans_13 : decode cX12_plans 13 = .ok (.iconst 1, 1) := by decide +kernel
theorem dX12_plans_14 : decode cX12_plans 14 = .ok (.invokevirtual 249, 3) := by decide +kernel
theorem dX12_plans_17 : decode cX12_plans 17 = .ok (.ireturn, 1) := by decide +kernel
theorem dX12_plans_18 : decode cX12_plans 18 = .ok (.aload_n 0, 1) := by decide +kernel
theorem dX12_plans_19 : decode cX12_plans 19 = .ok (.iconst 0, 1) := by decide +kernel
theorem dX12_plans_20 : decode cX12_plans 20 = .ok (.putfield 360, 3) := by decide +kernel
theorem dX12_plans_23 : decode cX12_plans 23 = .ok (.iconst 0, 1) := by decide +kernel
theorem dX12_plans_24 : decode cX12_plans 24 = .ok (.istore 4, 2) := by decide +kernel
theorem dX12_plans_26 : decode cX12_plans 26 = .ok (.iload 4, 2) := by decide +kernel
theorem dX12_plans_28 : decode cX12_plans 28 = .ok (.aload_n 0, 1) := by decide +kernel
theorem dX12_plans_29 : decode cX12_plans 29 = .ok (.getfield 255, 3) := by decide +kernel
theorem dX12_plans_32 : decode cX12_plans 32 = .ok (.if_icmp .ge 53, 3) := by decide +kernel
theorem dX12_plans_35 : decode cX12_plans 35 = .ok (.aload_n 0, 1) := by decide +kernel
theorem dX12_plans_36 : decode cX12_plans 36 = .ok (.iload 4, 2) := by decide +kernel
theorem dX12_plans_38 : decode cX12_plans 38 = .ok (.invokevirtual 348, 3) := by decide +kernel
theorem dX12_plans_41 : decode cX12_plans 41 = .ok (.ifCond .eq 38, 3) := by decide +kernel
theorem dX12_plans_44 : decode cX12_plans 44 = .ok (.aload_n 0, 1) := by decide +kernel
theorem dX12_plans_45 : decode cX12_plans 45 = .ok (.getfield 76, 3) := by decide +kernel
theorem dX12_plans_48 : decode cX12_plans 48 = .ok (.iload 4, 2) := by decide +kernel
theorem dX12_plans_50 : decode cX12_plans 50 = .ok (.iaload, 1) := by decide +kernel
theorem dX12_plans_51 : decode cX12_plans 51 = .ok (.iload_n 1, 1) := by decide +kernel
theorem dX12_plans_52 : decode cX12_plans 52 = .ok (.if_icmp .eq 6, 3) := by decide +kernel
theorem dX12_plans_55 : decode cX12_plans 55 = .ok (.goto 24, 3) := by decide +kernel
theorem dX12_plans_58 : decode cX12_plans 58 = .ok (.aload_n 0, 1) := by decide +kernel
theorem dX12_plans_59 : decode cX12_plans 59 = .ok (.getfield 100, 3) := by decide +kernel
theorem dX12_plans_62 : decode cX12_plans 62 = .ok (.aload_n 0, 1) := by decide +kernel
theorem dX12_plans_63 : decode cX12_plans 63 = .ok (.getfield 360, 3) := by decide +kernel
theorem dX12_plans_66 : decode cX12_plans 66 = .ok (.iload 4, 2) := by decide +kernel
theorem dX12_plans_68 : decode cX12_plans 68 = .ok (.iastore, 1) := by decide +kernel
theorem dX12_plans_69 : decode cX12_plans 69 = .ok (.aload_n 0, 1) := by decide +kernel
theorem dX12_plans_70 : decode cX12_plans 70 = .ok (.dup, 1) := by decide +kernel
theorem dX12_plans_71 : decode cX12_plans 71 = .ok (.getfield 360, 3) := by decide +kernel
theorem dX12_plans_74 : decode cX12_plans 74 = .ok (.iconst 1, 1) := by decide +kernel
theorem dX12_plans_75 : decode cX12_plans 75 = .ok (.iadd, 1) := by decide +kernel
theorem dX12_plans_76 : decode cX12_plans 76 = .ok (.putfield 360, 3) := by decide +kernel
theorem dX12_plans_79 : decode cX12_plans 79 = .ok (.iinc 4 1, 3) := by decide +kernel
theorem dX12_plans_82 : decode cX12_plans 82 = .ok (.goto (-56), 3) := by decide +kernel
theorem dX12_plans_85 : decode cX12_plans 85 = .ok (.iload_n 2, 1) := by decide +kernel
theorem dX12_plans_86 : decode cX12_plans 86 = .ok (.bipush 50, 2) := by decide +kernel
theorem dX12_plans_88 : decode cX12_plans 88 = .ok (.sipush 150, 3) := by decide +kernel
theorem dX12_plans_91 : decode cX12_plans 91 = .ok (.invokestatic 150, 3) := by decide +kernel
theorem dX12_plans_94 : decode cX12_plans 94 = .ok (.ifCond .eq 10, 3) := by decide +kernel
theorem dX12_plans_97 : decode cX12_plans 97 = .ok (.aload_n 0, 1) := by decide +kernel
theorem dX12_plans_98 : decode cX12_plans 98 = .ok (.getfield 360, 3) := by decide +kernel
theorem dX12_plans_101 : decode cX12_plans 101 = .ok (.ifCond .ne 9, 3) := by decide +kernel
theorem dX12_plans_104 : decode cX12_plans 104 = .ok (.aload_n 0, 1) := by decide +kernel
theorem dX12_plans_105 : decode cX12_plans 105 = .ok (.iconst 2, 1) := by decide +kernel
theorem dX12_plans_106 : decode cX12_plans 106 = .ok (.invokevirtual 249, 3) := by decide +kernel
theorem dX12_plans_109 : decode cX12_plans 109 = .ok (.ireturn, 1) := by decide +kernel
theorem dX12_plans_110 : decode cX12_plans 110 = .ok (.iconst 0, 1) := by decide +kernel
theorem dX12_plans_111 : decode cX12_plans 111 = .ok (.istore 4, 2) := by decide +kernel
theorem dX12_plans_113 : decode cX12_plans 113 = .ok (.iload 4, 2) := by decide +kernel
theorem dX12_plans_115 : decode cX12_plans 115 = .ok (.aload_n 0, 1) := by decide +kernel
theorem dX12_plans_116 : decode cX12_plans 116 = .ok (.getfield 360, 3) := by decide +kernel
theorem dX12_plans_119 : decode cX12_plans 119 = .ok (.if_icmp .ge 68, 3) := by decide +kernel
theorem dX12_plans_122 : decode cX12_plans 122 = .ok (.iconst 0, 1) := by decide +kernel
theorem dX12_plans_123 : decode cX12_plans 123 = .ok (.istore 5, 2) := by decide +kernel
theorem dX12_plans_125 : decode cX12_plans 125 = .ok (.iload 5, 2) := by decide +kernel
theorem dX12_plans_127 : decode cX12_plans 127 = .ok (.bipush 82, 2) := by decide +kernel
theorem dX12_plans_129 : decode cX12_plans 129 = .ok (.if_icmp .ge 52, 3) := by decide +kernel
theorem dX12_plans_132 : decode cX12_plans 132 = .ok (.aload_n 0, 1) := by decide +kernel
theorem dX12_plans_133 : decode cX12_plans 133 = .ok (.getfield 97, 3) := by decide +kernel
theorem dX12_plans_136 : decode cX12_plans 136 = .ok (.bipush 82, 2) := by decide +kernel
theorem dX12_plans_138 : decode cX12_plans 138 = .ok (.iload 4, 2) := by decide +kernel
theorem dX12_plans_140 : decode cX12_plans 140 = .ok (.imul, 1) := by decide +kernel
theorem dX12_plans_141 : decode cX12_plans 141 = .ok (.iload 5, 2) := by decide +kernel
theorem dX12_plans_143 : decode cX12_plans 143 = .ok (.iadd, 1) := by decide +kernel
theorem dX12_plans_144 : decode cX12_plans 144 = .ok (.iload 5, 2) := by decide +kernel
theorem dX12_plans_146 : decode cX12_plans 146 = .ok (.aload_n 0, 1) := by decide +kernel
theorem dX12_plans_147 : decode cX12_plans 147 = .ok (.getfield 70, 3) := by decide +kernel
theorem dX12_plans_150 : decode cX12_plans 150 = .ok (.aload_n 0, 1) := by decide +kernel
theorem dX12_plans_151 : decode cX12_plans 151 = .ok (.getfield 100, 3) := by decide +kernel
theorem dX12_plans_154 : decode cX12_plans 154 = .ok (.iload 4, 2) := by decide +kernel
theorem dX12_plans_156 : decode cX12_plans 156 = .ok (.iaload, 1) := by decide +kernel
theorem dX12_plans_157 : decode cX12_plans 157 = .ok (.iaload, 1) := by decide +kernel
theorem dX12_plans_158 : decode cX12_plans 158 = .ok (.aload_n 0, 1) := by decide +kernel
theorem dX12_plans_159 : decode cX12_plans 159 = .ok (.getfield 73, 3) := by decide +kernel
theorem dX12_plans_162 : decode cX12_plans 162 = .ok (.aload_n 0, 1) := by decide +kernel
theorem dX12_plans_163 : decode cX12_plans 163 = .ok (.getfield 100, 3) := by decide +kernel
theorem dX12_plans_166 : decode cX12_plans 166 = .ok (.iload 4, 2) := by decide +kernel
theorem dX12_plans_168 : decode cX12_plans 168 = .ok (.iaload, 1) := by decide +kernel
theorem dX12_plans_169 : decode cX12_plans 169 = .ok (.iaload, 1) := by decide +kernel
theorem dX12_plans_170 : decode cX12_plans 170 = .ok (.iload_n 2, 1) := by decide +kernel
theorem dX12_plans_171 : decode cX12_plans 171 = .ok (.invokestatic 369, 3) := by decide +kernel
theorem dX12_plans_174 : decode cX12_plans 174 = .ok (.iastore, 1) := by decide +kernel
theorem dX12_plans_175 : decode cX12_plans 175 = .ok (.iinc 5 1, 3) := by decide +kernel
theorem dX12_plans_178 : decode cX12_plans 178 = .ok (.goto (-53), 3) := by decide +kernel
theorem dX12_plans_181 : decode cX12_plans 181 = .ok (.iinc 4 1, 3) := by decide +kernel
theorem dX12_plans_184 : decode cX12_plans 184 = .ok (.goto (-71), 3) := by decide +kernel
theorem dX12_plans_187 : decode cX12_plans 187 = .ok (.aload_n 0, 1) := by decide +kernel
theorem dX12_plans_188 : decode cX12_plans 188 = .ok (.iconst 0, 1) := by decide +kernel
theorem dX12_plans_189 : decode cX12_plans 189 = .ok (.putfield 366, 3) := by decide +kernel
theorem dX12_plans_192 : decode cX12_plans 192 = .ok (.aload_n 0, 1) := by decide +kernel
theorem dX12_plans_193 : decode cX12_plans 193 = .ok (.iconst (-1), 1) := by decide +kernel
theorem dX12_plans_194 : decode cX12_plans 194 = .ok (.iconst (-1), 1) := by decide +kernel
theorem dX12_plans_195 : decode cX12_plans 195 = .ok (.iconst (-1), 1) := by decide +kernel
theorem dX12_plans_196 : decode cX12_plans 196 = .ok (.invokevirtual 372, 3) := by decide +kernel
theorem dX12_plans_199 : decode cX12_plans 199 = .ok (.iconst 0, 1) := by decide +kernel
theorem dX12_plans_200 : decode cX12_plans 200 = .ok (.istore 4, 2) := by decide +kernel
theorem dX12_plans_202 : decode cX12_plans 202 = .ok (.iload 4, 2) := by decide +kernel
theorem dX12_plans_204 : decode cX12_plans 204 = .ok (.bipush 82, 2) := by decide +kernel
theorem dX12_plans_206 : decode cX12_plans 206 = .ok (.if_icmp .ge 17, 3) := by decide +kernel
theorem dX12_plans_209 : decode cX12_plans 209 = .ok (.aload_n 0, 1) := by decide +kernel
theorem dX12_plans_210 : decode cX12_plans 210 = .ok (.iload 4, 2) := by decide +kernel
theorem dX12_plans_212 : decode cX12_plans 212 = .ok (.iconst (-1), 1) := by decide +kernel
theorem dX12_plans_213 : decode cX12_plans 213 = .ok (.iconst (-1), 1) := by decide +kernel
theorem dX12_plans_214 : decode cX12_plans 214 = .ok (.invokevirtual 372, 3) := by decide +kernel
theorem dX12_plans_217 : decode cX12_plans 217 = .ok (.iinc 4 1, 3) := by decide +kernel
theorem dX12_plans_220 : decode cX12_plans 220 = .ok (.goto (-18), 3) := by decide +kernel
theorem dX12_plans_223 : decode cX12_plans 223 = .ok (.iconst 0, 1) := by decide +kernel
theorem dX12_plans_224 : decode cX12_plans 224 = .ok (.istore 4, 2) := by decide +kernel
theorem dX12_plans_226 : decode cX12_plans 226 = .ok (.iload 4, 2) := by decide +kernel
theorem dX12_plans_228 : decode cX12_plans 228 = .ok (.bipush 82, 2) := by decide +kernel
theorem dX12_plans_230 : decode cX12_plans 230 = .ok (.if_icmp .ge 37, 3) := by decide +kernel
theorem dX12_plans_233 : decode cX12_plans 233 = .ok (.iload 4, 2) := by decide +kernel
theorem dX12_plans_235 : decode cX12_plans 235 = .ok (.iconst 1, 1) := by decide +kernel
theorem dX12_plans_236 : decode cX12_plans 236 = .ok (.iadd, 1) := by decide +kernel
theorem dX12_plans_237 : decode cX12_plans 237 = .ok (.istore 5, 2) := by decide +kernel
theorem dX12_plans_239 : decode cX12_plans 239 = .ok (.iload 5, 2) := by decide +kernel
theorem dX12_plans_241 : decode cX12_plans 241 = .ok (.bipush 82, 2) := by decide +kernel
theorem dX12_plans_243 : decode cX12_plans 243 = .ok (.if_icmp .ge 18, 3) := by decide +kernel
theorem dX12_plans_246 : decode cX12_plans 246 = .ok (.aload_n 0, 1) := by decide +kernel
theorem dX12_plans_247 : decode cX12_plans 247 = .ok (.iload 4, 2) := by decide +kernel
theorem dX12_plans_249 : decode cX12_plans 249 = .ok (.iload 5, 2) := by decide +kernel
theorem dX12_plans_251 : decode cX12_plans 251 = .ok (.iconst (-1), 1) := by decide +kernel
theorem dX12_plans_252 : decode cX12_plans 252 = .ok (.invokevirtual 372, 3) := by decide +kernel
theorem dX12_plans_255 : decode cX12_plans 255 = .ok (.iinc 5 1, 3) := by decide +kernel
theorem dX12_plans_258 : decode cX12_plans 258 = .ok (.goto (-19), 3) := by decide +kernel
theorem dX12_plans_261 : decode cX12_plans 261 = .ok (.iinc 4 1, 3) := by decide +kernel
theorem dX12_plans_264 : decode cX12_plans 264 = .ok (.goto (-38), 3) := by decide +kernel
theorem dX12_plans_267 : decode cX12_plans 267 = .ok (.iconst 0, 1) := by decide +kernel
theorem dX12_plans_268 : decode cX12_plans 268 = .ok (.istore 4, 2) := by decide +kernel
theorem dX12_plans_270 : decode cX12_plans 270 = .ok (.iload 4, 2) := by decide +kernel
theorem dX12_plans_272 : decode cX12_plans 272 = .ok (.bipush 82, 2) := by decide +kernel
theorem dX12_plans_274 : decode cX12_plans 274 = .ok (.if_icmp .ge 57, 3) := by decide +kernel
theorem dX12_plans_277 : decode cX12_plans 277 = .ok (.iload 4, 2) := by decide +kernel
theorem dX12_plans_279 : decode cX12_plans 279 = .ok (.iconst 1, 1) := by decide +kernel
theorem dX12_plans_280 : decode cX12_plans 280 = .ok (.iadd, 1) := by decide +kernel
theorem dX12_plans_281 : decode cX12_plans 281 = .ok (.istore 5, 2) := by decide +kernel
theorem dX12_plans_283 : decode cX12_plans 283 = .ok (.iload 5, 2) := by decide +kernel
theorem dX12_plans_285 : decode cX12_plans 285 = .ok (.bipush 82, 2) := by decide +kernel
theorem dX12_plans_287 : decode cX12_plans 287 = .ok (.if_icmp .ge 38, 3) := by decide +kernel
theorem dX12_plans_290 : decode cX12_plans 290 = .ok (.iload 5, 2) := by decide +kernel
theorem dX12_plans_292 : decode cX12_plans 292 = .ok (.iconst 1, 1) := by decide +kernel
theorem dX12_plans_293 : decode cX12_plans 293 = .ok (.iadd, 1) := by decide +kernel
theorem dX12_plans_294 : decode cX12_plans 294 = .ok (.istore 6, 2) := by decide +kernel
theorem dX12_plans_296 : decode cX12_plans 296 = .ok (.iload 6, 2) := by decide +kernel
theorem dX12_plans_298 : decode cX12_plans 298 = .ok (.bipush 82, 2) := by decide +kernel
theorem dX12_plans_300 : decode cX12_plans 300 = .ok (.if_icmp .ge 19, 3) := by decide +kernel
theorem dX12_plans_303 : decode cX12_plans 303 = .ok (.aload_n 0, 1) := by decide +kernel
theorem dX12_plans_304 : decode cX12_plans 304 = .ok (.iload 4, 2) := by decide +kernel
theorem dX12_plans_306 : decode cX12_plans 306 = .ok (.iload 5, 2) := by decide +kernel
theorem dX12_plans_308 : decode cX12_plans 308 = .ok (.iload 6, 2) := by decide +kernel
theorem dX12_plans_310 : decode cX12_plans 310 = .ok (.invokevirtual 372, 3) := by decide +kernel
theorem dX12_plans_313 : decode cX12_plans 313 = .ok (.iinc 6 1, 3) := by decide +kernel
theorem dX12_plans_316 : decode cX12_plans 316 = .ok (.goto (-20), 3) := by decide +kernel
theorem dX12_plans_319 : decode cX12_plans 319 = .ok (.iinc 5 1, 3) := by decide +kernel
theorem dX12_plans_322 : decode cX12_plans 322 = .ok (.goto (-39), 3) := by decide +kernel
theorem dX12_plans_325 : decode cX12_plans 325 = .ok (.iinc 4 1, 3) := by decide +kernel
theorem dX12_plans_328 : decode cX12_plans 328 = .ok (.goto (-58), 3) := by decide +kernel
theorem dX12_plans_331 : decode cX12_plans 331 = .ok (.iload_n 3, 1) := by decide +kernel
theorem dX12_plans_332 : decode cX12_plans 332 = .ok (.iconst (-1), 1) := by decide +kernel
theorem dX12_plans_333 : decode cX12_plans 333 = .ok (.if_icmp .ne 10, 3) := by decide +kernel
theorem dX12_plans_336 : decode cX12_plans 336 = .ok (.aload_n 0, 1) := by decide +kernel
theorem dX12_plans_337 : decode cX12_plans 337 = .ok (.getfield 366, 3) := by decide +kernel
theorem dX12_plans_340 : decode cX12_plans 340 = .ok (.goto 31, 3) := by decide +kernel
theorem dX12_plans_343 : decode cX12_plans 343 = .ok (.iload_n 3, 1) := by decide +kernel
theorem dX12_plans_344 : decode cX12_plans 344 = .ok (.iconst 0, 1) := by decide +kernel
theorem dX12_plans_345 : decode cX12_plans 345 = .ok (.aload_n 0, 1) := by decide +kernel
theorem dX12_plans_346 : decode cX12_plans 346 = .ok (.getfield 366, 3) := by decide +kernel
theorem dX12_plans_349 : decode cX12_plans 349 = .ok (.iconst 1, 1) := by decide +kernel
theorem dX12_plans_350 : decode cX12_plans 350 = .ok (.isub, 1) := by decide +kernel
theorem dX12_plans_351 : decode cX12_plans 351 = .ok (.invokestatic 150, 3) := by decide +kernel
theorem dX12_plans_354 : decode cX12_plans 354 = .ok (.ifCond .eq 12, 3) := by decide +kernel
theorem dX12_plans_357 : decode cX12_plans 357 = .ok (.aload_n 0, 1) := by decide +kernel
theorem dX12_plans_358 : decode cX12_plans 358 = .ok (.getfield 104, 3) := by decide +kernel
theorem dX12_plans_361 : decode cX12_plans 361 = .ok (.iload_n 3, 1) := by decide +kernel
theorem dX12_plans_362 : decode cX12_plans 362 = .ok (.iaload, 1) := by decide +kernel
theorem dX12_plans_363 : decode cX12_plans 363 = .ok (.goto 8, 3) := by decide +kernel
theorem dX12_plans_366 : decode cX12_plans 366 = .ok (.aload_n 0, 1) := by decide +kernel
theorem dX12_plans_367 : decode cX12_plans 367 = .ok (.iconst 1, 1) := by decide +kernel
theorem dX12_plans_368 : decode cX12_plans 368 = .ok (.invokevirtual 249, 3) := by decide +kernel
theorem dX12_plans_371 : decode cX12_plans 371 = .ok (.ireturn, 1) := by decide +kernel
theorem dX12_spot_0 : decode cX12_spot 0 = .ok (.aload_n 0, 1) := by decide +kernel
theorem dX12_spot_1 : decode cX12_spot 1 = .ok (.iconst 0, 1) := by decide +kernel
theorem dX12_spot_2 : decode cX12_spot 2 = .ok (.putfield 147, 3) := by decide +kernel
theorem dX12_spot_5 : decode cX12_spot 5 = .ok (.aload_n 0, 1) := by decide +kernel
theorem dX12_spot_6 : decode cX12_spot 6 = .ok (.getfield 258, 3) := by decide +kernel
theorem dX12_spot_9 : decode cX12_spot 9 = .ok (.bipush 8, 2) := by decide +kernel
theorem dX12_spot_11 : decode cX12_spot 11 = .ok (.if_icmp .eq 11, 3) := by decide +kernel
theorem dX12_spot_14 : decode cX12_spot 14 = .ok (.iload_n 1, 1) := by decide +kernel
theorem dX12_spot_15 : decode cX12_spot 15 = .ok (.iload_n 2, 1) := by decide +kernel
theorem dX12_spot_16 : decode cX12_spot 16 = .ok (.invokestatic 330, 3) := by decide +kernel
theorem dX12_spot_19 : decode cX12_spot 19 = .ok (.ifCond .ne 15, 3) := by decide +kernel
theorem dX12_spot_22 : decode cX12_spot 22 = .ok (.aload_n 0, 1) := by decide +kernel
theorem dX12_spot_23 : decode cX12_spot 23 = .ok (.getfield 48, 3) := by decide +kernel
theorem dX12_spot_26 : decode cX12_spot 26 = .ok (.iconst 3, 1) := by decide +kernel
theorem dX12_spot_27 : decode cX12_spot 27 = .ok (.dup2, 1) := by decide +kernel
theorem dX12_spot_28 : decode cX12_spot 28 = .ok (.iaload, 1) := by decide +kernel
theorem dX12_spot_29 : decode cX12_spot 29 = .ok (.iconst 1, 1) := by decide +kernel
theorem dX12_spot_30 : decode cX12_spot 30 = .ok (.iadd, 1) := by decide +kernel
theorem dX12_spot_31 : decode cX12_spot 31 = .ok (.iastore, 1) := by decide +kernel
theorem dX12_spot_32 : decode cX12_spot 32 = .ok (.iconst (-1), 1) := by decide +kernel
theorem dX12_spot_33 : decode cX12_spot 33 = .ok (.ireturn, 1) := by decide +kernel
theorem dX12_spot_34 : decode cX12_spot 34 = .ok (.aload_n 0, 1) := by decide +kernel
theorem dX12_spot_35 : decode cX12_spot 35 = .ok (.getfield 91, 3) := by decide +kernel
theorem dX12_spot_38 : decode cX12_spot 38 = .ok (.aload_n 0, 1) := by decide +kernel
theorem dX12_spot_39 : decode cX12_spot 39 = .ok (.getfield 258, 3) := by decide +kernel
theorem dX12_spot_42 : decode cX12_spot 42 = .ok (.iload_n 1, 1) := by decide +kernel
theorem dX12_spot_43 : decode cX12_spot 43 = .ok (.iastore, 1) := by decide +kernel
theorem dX12_spot_44 : decode cX12_spot 44 = .ok (.aload_n 0, 1) := by decide +kernel
theorem dX12_spot_45 : decode cX12_spot 45 = .ok (.getfield 94, 3) := by decide +kernel
theorem dX12_spot_48 : decode cX12_spot 48 = .ok (.aload_n 0, 1) := by decide +kernel
theorem dX12_spot_49 : decode cX12_spot 49 = .ok (.getfield 258, 3) := by decide +kernel
theorem dX12_spot_52 : decode cX12_spot 52 = .ok (.iload_n 2, 1) := by decide +kernel
theorem dX12_spot_53 : decode cX12_spot 53 = .ok (.iastore, 1) := by decide +kernel
theorem dX12_spot_54 : decode cX12_spot 54 = .ok (.aload_n 0, 1) := by decide +kernel
theorem dX12_spot_55 : decode cX12_spot 55 = .ok (.dup, 1) := by decide +kernel
theorem dX12_spot_56 : decode cX12_spot 56 = .ok (.getfield 258, 3) := by decide +kernel
theorem dX12_spot_59 : decode cX12_spot 59 = .ok (.iconst 1, 1) := by decide +kernel
theorem dX12_spot_60 : decode cX12_spot 60 = .ok (.iadd, 1) := by decide +kernel
theorem dX12_spot_61 : decode cX12_spot 61 = .ok (.putfield 258, 3) := by decide +kernel
theorem dX12_spot_64 : decode cX12_spot 64 = .ok (.aload_n 0, 1) := by decide +kernel
theorem dX12_spot_65 : decode cX12_spot 65 = .ok (.getfield 258, 3) := by decide +kernel
theorem dX12_spot_68 : decode cX12_spot 68 = .ok (.iconst 1, 1) := by decide +kernel
theorem dX12_spot_69 : decode cX12_spot 69 = .ok (.isub, 1) := by decide +kernel
theorem dX12_spot_70 : decode cX12_spot 70 = .ok (.ireturn, 1) := by decide +kernel
theorem dX12_areAlike_0 : decode cX12_areAlike 0 = .ok (.aload_n 0, 1) := by decide +kernel
theorem dX12_areAlike_1 : decode cX12_areAlike 1 = .ok (.iload_n 1, 1) := by decide +kernel
theorem dX12_areAlike_2 : decode cX12_areAlike 2 = .ok (.iconst 0, 1) := by decide +kernel
theorem dX12_areAlike_3 : decode cX12_areAlike 3 = .ok (.aload_n 0, 1) := by decide +kernel
theorem dX12_areAlike_4 : decode cX12_areAlike 4 = .ok (.getfield 91, 3) := by decide +kernel
theorem dX12_areAlike_7 : decode cX12_areAlike 7 = .ok (.iload_n 3, 1) := by decide +kernel
theorem dX12_areAlike_8 : decode cX12_areAlike 8 = .ok (.iaload, 1) := by decide +kernel
theorem dX12_areAlike_9 : decode cX12_areAlike 9 = .ok (.aload_n 0, 1) := by decide +kernel
theorem dX12_areAlike_10 : decode cX12_areAlike 10 = .ok (.getfield 94, 3) := by decide +kernel
theorem dX12_areAlike_13 : decode cX12_areAlike 13 = .ok (.iload_n 3, 1) := by decide +kernel
theorem dX12_areAlike_14 : decode cX12_areAlike 14 = .ok (.iaload, 1) := by decide +kernel
theorem dX12_areAlike_15 : decode cX12_areAlike 15 = .ok (.iload 4, 2) := by decide +kernel
theorem dX12_areAlike_17 : decode cX12_areAlike 17 = .ok (.iload 5, 2) := by decide +kernel
theorem dX12_areAlike_19 : decode cX12_areAlike 19 = .ok (.aload_n 0, 1) := by decide +kernel
theorem dX12_areAlike_20 : decode cX12_areAlike 20 = .ok (.getfield 39, 3) := by decide +kernel
theorem dX12_areAlike_23 : decode cX12_areAlike 23 = .ok (.iload_n 1, 1) := by decide +kernel
theorem dX12_areAlike_24 : decode cX12_areAlike 24 = .ok (.iaload, 1) := by decide +kernel
theorem dX12_areAlike_25 : decode cX12_areAlike 25 = .ok (.invokevirtual 339, 3) := by decide +kernel
theorem dX12_areAlike_28 : decode cX12_areAlike 28 = .ok (.aload_n 0, 1) := by decide +kernel
theorem dX12_areAlike_29 : decode cX12_areAlike 29 = .ok (.getfield 313, 3) := by decide +kernel
theorem dX12_areAlike_32 : decode cX12_areAlike 32 = .ok (.istore 6, 2) := by decide +kernel
theorem dX12_areAlike_34 : decode cX12_areAlike 34 = .ok (.iconst 0, 1) := by decide +kernel
theorem dX12_areAlike_35 : decode cX12_areAlike 35 = .ok (.istore 7, 2) := by decide +kernel
theorem dX12_areAlike_37 : decode cX12_areAlike 37 = .ok (.iload 7, 2) := by decide +kernel
theorem dX12_areAlike_39 : decode cX12_areAlike 39 = .ok (.iload 6, 2) := by decide +kernel
theorem dX12_areAlike_41 : decode cX12_areAlike 41 = .ok (.if_icmp .ge 23, 3) := by decide +kernel
theorem dX12_areAlike_44 : decode cX12_areAlike 44 = .ok (.aload_n 0, 1) := by decide +kernel
theorem dX12_areAlike_45 : decode cX12_areAlike 45 = .ok (.getfield 67, 3) := by decide +kernel
theorem dX12_areAlike_48 : decode cX12_areAlike 48 = .ok (.iload 7, 2) := by decide +kernel
theorem dX12_areAlike_50 : decode cX12_areAlike 50 = .ok (.aload_n 0, 1) := by decide +kernel
theorem dX12_areAlike_51 : decode cX12_areAlike 51 = .ok (.getfield 64, 3) := by decide +kernel
theorem dX12_areAlike_54 : decode cX12_areAlike 54 = .ok (.iload 7, 2) := by decide +kernel
theorem dX12_areAlike_56 : decode cX12_areAlike 56 = .ok (.iaload, 1) := by decide +kernel
theorem dX12_areAlike_57 : decode cX12_areAlike 57 = .ok (.iastore, 1) := by decide +kernel
theorem dX12_areAlike_58 : decode cX12_areAlike 58 = .ok (.iinc 7 1, 3) := by decide +kernel
theorem dX12_areAlike_61 : decode cX12_areAlike 61 = .ok (.goto (-24), 3) := by decide +kernel
theorem dX12_areAlike_64 : decode cX12_areAlike 64 = .ok (.aload_n 0, 1) := by decide +kernel
theorem dX12_areAlike_65 : decode cX12_areAlike 65 = .ok (.iload_n 2, 1) := by decide +kernel
theorem dX12_areAlike_66 : decode cX12_areAlike 66 = .ok (.iconst 0, 1) := by decide +kernel
theorem dX12_areAlike_67 : decode cX12_areAlike 67 = .ok (.aload_n 0, 1) := by decide +kernel
theorem dX12_areAlike_68 : decode cX12_areAlike 68 = .ok (.getfield 91, 3) := by decide +kernel
theorem dX12_areAlike_71 : decode cX12_areAlike 71 = .ok (.iload_n 3, 1) := by decide +kernel
theorem dX12_areAlike_72 : decode cX12_areAlike 72 = .ok (.iaload, 1) := by decide +kernel
theorem dX12_areAlike_73 : decode cX12_areAlike 73 = .ok (.aload_n 0, 1) := by decide +kernel
theorem dX12_areAlike_74 : decode cX12_areAlike 74 = .ok (.getfield 94, 3) := by decide +kernel
theorem dX12_areAlike_77 : decode cX12_areAlike 77 = .ok (.iload_n 3, 1) := by decide +kernel
theorem dX12_areAlike_78 : decode cX12_areAlike 78 = .ok (.iaload, 1) := by decide +kernel
theorem dX12_areAlike_79 : decode cX12_areAlike 79 = .ok (.iload 4, 2) := by decide +kernel
theorem dX12_areAlike_81 : decode cX12_areAlike 81 = .ok (.iload 5, 2) := by decide +kernel
theorem dX12_areAlike_83 : decode cX12_areAlike 83 = .ok (.aload_n 0, 1) := by decide +kernel
theorem dX12_areAlike_84 : decode cX12_areAlike 84 = .ok (.getfield 39, 3) := by decide +kernel
theorem dX12_areAlike_87 : decode cX12_areAlike 87 = .ok (.iload_n 2, 1) := by decide +kernel
theorem dX12_areAlike_88 : decode cX12_areAlike 88 = .ok (.iaload, 1) := by decide +kernel
theorem dX12_areAlike_89 : decode cX12_areAlike 89 = .ok (.invokevirtual 339, 3) := by decide +kernel
theorem dX12_areAlike_92 : decode cX12_areAlike 92 = .ok (.iload 6, 2) := by decide +kernel
theorem dX12_areAlike_94 : decode cX12_areAlike 94 = .ok (.aload_n 0, 1) := by decide +kernel
theorem dX12_areAlike_95 : decode cX12_areAlike 95 = .ok (.getfield 313, 3) := by decide +kernel
theorem dX12_areAlike_98 : decode cX12_areAlike 98 = .ok (.if_icmp .ne 7, 3) := by decide +kernel
theorem dX12_areAlike_101 : decode cX12_areAlike 101 = .ok (.iconst 1, 1) := by decide +kernel
theorem dX12_areAlike_102 : decode cX12_areAlike 102 = .ok (.goto 4, 3) := by decide +kernel
theorem dX12_areAlike_105 : decode cX12_areAlike 105 = .ok (.iconst 0, 1) := by decide +kernel
theorem dX12_areAlike_106 : decode cX12_areAlike 106 = .ok (.istore 7, 2) := by decide +kernel
theorem dX12_areAlike_108 : decode cX12_areAlike 108 = .ok (.iconst 0, 1) := by decide +kernel
theorem dX12_areAlike_109 : decode cX12_areAlike 109 = .ok (.istore 8, 2) := by decide +kernel
theorem dX12_areAlike_111 : decode cX12_areAlike 111 = .ok (.iload 7, 2) := by decide +kernel
theorem dX12_areAlike_113 : decode cX12_areAlike 113 = .ok (.ifCond .eq 40, 3) := by decide +kernel
theorem dX12_areAlike_116 : decode cX12_areAlike 116 = .ok (.iload 8, 2) := by decide +kernel
theorem dX12_areAlike_118 : decode cX12_areAlike 118 = .ok (.iload 6, 2) := by decide +kernel
theorem dX12_areAlike_120 : decode cX12_areAlike 120 = .ok (.if_icmp .ge 33, 3) := by decide +kernel
theorem dX12_areAlike_123 : decode cX12_areAlike 123 = .ok (.aload_n 0, 1) := by decide +kernel
theorem dX12_areAlike_124 : decode cX12_areAlike 124 = .ok (.getfield 64, 3) := by decide +kernel
theorem dX12_areAlike_127 : decode cX12_areAlike 127 = .ok (.iload 8, 2) := by decide +kernel
theorem dX12_areAlike_129 : decode cX12_areAlike 129 = .ok (.iaload, 1) := by decide +kernel
theorem dX12_areAlike_130 : decode cX12_areAlike 130 = .ok (.aload_n 0, 1) := by decide +kernel
theorem dX12_areAlike_131 : decode cX12_areAlike 131 = .ok (.getfield 67, 3) := by decide +kernel
theorem dX12_areAlike_134 : decode cX12_areAlike 134 = .ok (.iload 8, 2) := by decide +kernel
theorem dX12_areAlike_136 : decode cX12_areAlike 136 = .ok (.iaload, 1) := by decide +kernel
theorem dX12_areAlike_137 : decode cX12_areAlike 137 = .ok (.if_icmp .ne 7, 3) := by decide +kernel
theorem dX12_areAlike_140 : decode cX12_areAlike 140 = .ok (.iconst 1, 1) := by decide +kernel
theorem dX12_areAlike_141 : decode cX12_areAlike 141 = .ok (.goto 4, 3) := by decide +kernel
theorem dX12_areAlike_144 : decode cX12_areAlike 144 = .ok (.iconst 0, 1) := by decide +kernel
theorem dX12_areAlike_145 : decode cX12_areAlike 145 = .ok (.istore 7, 2) := by decide +kernel
theorem dX12_areAlike_147 : decode cX12_areAlike 147 = .ok (.iinc 8 1, 3) := by decide +kernel
theorem dX12_areAlike_150 : decode cX12_areAlike 150 = .ok (.goto (-39), 3) := by decide +kernel
theorem dX12_areAlike_153 : decode cX12_areAlike 153 = .ok (.iload 7, 2) := by decide +kernel
theorem dX12_areAlike_155 : decode cX12_areAlike 155 = .ok (.ireturn, 1) := by decide +kernel
theorem dX12_tellLikes_0 : decode cX12_tellLikes 0 = .ok (.iconst 0, 1) := by decide +kernel
theorem dX12_tellLikes_1 : decode cX12_tellLikes 1 = .ok (.istore_n 3, 1) := by decide +kernel
theorem dX12_tellLikes_2 : decode cX12_tellLikes 2 = .ok (.iload_n 3, 1) := by decide +kernel
theorem dX12_tellLikes_3 : decode cX12_tellLikes 3 = .ok (.aload_n 0, 1) := by decide +kernel
theorem dX12_tellLikes_4 : decode cX12_tellLikes 4 = .ok (.getfield 258, 3) := by decide +kernel
theorem dX12_tellLikes_7 : decode cX12_tellLikes 7 = .ok (.if_icmp .ge 69, 3) := by decide +kernel
theorem dX12_tellLikes_10 : decode cX12_tellLikes 10 = .ok (.iconst 0, 1) := by decide +kernel
theorem dX12_tellLikes_11 : decode cX12_tellLikes 11 = .ok (.istore 4, 2) := by decide +kernel
theorem dX12_tellLikes_13 : decode cX12_tellLikes 13 = .ok (.iload 4, 2) := by decide +kernel
theorem dX12_tellLikes_15 : decode cX12_tellLikes 15 = .ok (.bipush 6, 2) := by decide +kernel
theorem dX12_tellLikes_17 : decode cX12_tellLikes 17 = .ok (.if_icmp .ge 53, 3) := by decide +kernel
theorem dX12_tellLikes_20 : decode cX12_tellLikes 20 = .ok (.iconst 0, 1) := by decide +kernel
theorem dX12_tellLikes_21 : decode cX12_tellLikes 21 = .ok (.istore 5, 2) := by decide +kernel
theorem dX12_tellLikes_23 : decode cX12_tellLikes 23 = .ok (.iload 5, 2) := by decide +kernel
theorem dX12_tellLikes_25 : decode cX12_tellLikes 25 = .ok (.iload 4, 2) := by decide +kernel
theorem dX12_tellLikes_27 : decode cX12_tellLikes 27 = .ok (.if_icmp .ge 23, 3) := by decide +kernel
theorem dX12_tellLikes_30 : decode cX12_tellLikes 30 = .ok (.aload_n 0, 1) := by decide +kernel
theorem dX12_tellLikes_31 : decode cX12_tellLikes 31 = .ok (.iload 5, 2) := by decide +kernel
theorem dX12_tellLikes_33 : decode cX12_tellLikes 33 = .ok (.iload 4, 2) := by decide +kernel
theorem dX12_tellLikes_35 : decode cX12_tellLikes 35 = .ok (.iload_n 3, 1) := by decide +kernel
theorem dX12_tellLikes_36 : decode cX12_tellLikes 36 = .ok (.iload_n 1, 1) := by decide +kernel
theorem dX12_tellLikes_37 : decode cX12_tellLikes 37 = .ok (.iload_n 2, 1) := by decide +kernel
theorem dX12_tellLikes_38 : decode cX12_tellLikes 38 = .ok (.invokevirtual 376, 3) := by decide +kernel
theorem dX12_tellLikes_41 : decode cX12_tellLikes 41 = .ok (.ifCond .ne 9, 3) := by decide +kernel
theorem dX12_tellLikes_44 : decode cX12_tellLikes 44 = .ok (.iinc 5 1, 3) := by decide +kernel
theorem dX12_tellLikes_47 : decode cX12_tellLikes 47 = .ok (.goto (-24), 3) := by decide +kernel
theorem dX12_tellLikes_50 : decode cX12_tellLikes 50 = .ok (.aload_n 0, 1) := by decide +kernel
theorem dX12_tellLikes_51 : decode cX12_tellLikes 51 = .ok (.getfield 107, 3) := by decide +kernel
theorem dX12_tellLikes_54 : decode cX12_tellLikes 54 = .ok (.bipush 6, 2) := by decide +kernel
theorem dX12_tellLikes_56 : decode cX12_tellLikes 56 = .ok (.iload_n 3, 1) := by decide +kernel
theorem dX12_tellLikes_57 : decode cX12_tellLikes 57 = .ok (.imul, 1) := by decide +kernel
theorem dX12_tellLikes_58 : decode cX12_tellLikes 58 = .ok (.iload 4, 2) := by decide +kernel
theorem dX12_tellLikes_60 : decode cX12_tellLikes 60 = .ok (.iadd, 1) := by decide +kernel
theorem dX12_tellLikes_61 : decode cX12_tellLikes 61 = .ok (.iload 5, 2) := by decide +kernel
theorem dX12_tellLikes_63 : decode cX12_tellLikes 63 = .ok (.iastore, 1) := by decide +kernel
theorem dX12_tellLikes_64 : decode cX12_tellLikes 64 = .ok (.iinc 4 1, 3) := by decide +kernel
theorem dX12_tellLikes_67 : decode cX12_tellLikes 67 = .ok (.goto (-54), 3) := by decide +kernel
theorem dX12_tellLikes_70 : decode cX12_tellLikes 70 = .ok (.iinc 3 1, 3) := by decide +kernel
theorem dX12_tellLikes_73 : decode cX12_tellLikes 73 = .ok (.goto (-71), 3) := by decide +kernel
theorem dX12_tellLikes_76 : decode cX12_tellLikes 76 = .ok (.return_, 1) := by decide +kernel
theorem dX12_clapsBy_0 : decode cX12_clapsBy 0 = .ok (.iconst 0, 1) := by decide +kernel
theorem dX12_clapsBy_1 : decode cX12_clapsBy 1 = .ok (.istore_n 3, 1) := by decide +kernel
theorem dX12_clapsBy_2 : decode cX12_clapsBy 2 = .ok (.iconst 0, 1) := by decide +kernel
theorem dX12_clapsBy_3 : decode cX12_clapsBy 3 = .ok (.istore 4, 2) := by decide +kernel
theorem dX12_clapsBy_5 : decode cX12_clapsBy 5 = .ok (.iload 4, 2) := by decide +kernel
theorem dX12_clapsBy_7 : decode cX12_clapsBy 7 = .ok (.bipush 6, 2) := by decide +kernel
theorem dX12_clapsBy_9 : decode cX12_clapsBy 9 = .ok (.if_icmp .ge 99, 3) := by decide +kernel
theorem dX12_clapsBy_12 : decode cX12_clapsBy 12 = .ok (.iconst 0, 1) := by decide +kernel
theorem dX12_clapsBy_13 : decode cX12_clapsBy 13 = .ok (.istore 5, 2) := by decide +kernel
theorem dX12_clapsBy_15 : decode cX12_clapsBy 15 = .ok (.iconst 0, 1) := by decide +kernel
theorem dX12_clapsBy_16 : decode cX12_clapsBy 16 = .ok (.istore 6, 2) := by decide +kernel
theorem dX12_clapsBy_18 : decode cX12_clapsBy 18 = .ok (.iload 6, 2) := by decide +kernel
theorem dX12_clapsBy_20 : decode cX12_clapsBy 20 = .ok (.bipush 6, 2) := by decide +kernel
theorem dX12_clapsBy_22 : decode cX12_clapsBy 22 = .ok (.if_icmp .ge 49, 3) := by decide +kernel
theorem dX12_clapsBy_25 : decode cX12_clapsBy 25 = .ok (.iload 5, 2) := by decide +kernel
theorem dX12_clapsBy_27 : decode cX12_clapsBy 27 = .ok (.iload_n 1, 1) := by decide +kernel
theorem dX12_clapsBy_28 : decode cX12_clapsBy 28 = .ok (.iload 6, 2) := by decide +kernel
theorem dX12_clapsBy_30 : decode cX12_clapsBy 30 = .ok (.ishr, 1) := by decide +kernel
theorem dX12_clapsBy_31 : decode cX12_clapsBy 31 = .ok (.iconst 1, 1) := by decide +kernel
theorem dX12_clapsBy_32 : decode cX12_clapsBy 32 = .ok (.iand, 1) := by decide +kernel
theorem dX12_clapsBy_33 : decode cX12_clapsBy 33 = .ok (.iconst 1, 1) := by decide +kernel
theorem dX12_clapsBy_34 : decode cX12_clapsBy 34 = .ok (.if_icmp .ne 27, 3) := by decide +kernel
theorem dX12_clapsBy_37 : decode cX12_clapsBy 37 = .ok (.aload_n 0, 1) := by decide +kernel
theorem dX12_clapsBy_38 : decode cX12_clapsBy 38 = .ok (.getfield 107, 3) := by decide +kernel
theorem dX12_clapsBy_41 : decode cX12_clapsBy 41 = .ok (.bipush 6, 2) := by decide +kernel
theorem dX12_clapsBy_43 : decode cX12_clapsBy 43 = .ok (.iload_n 2, 1) := by decide +kernel
theorem dX12_clapsBy_44 : decode cX12_clapsBy 44 = .ok (.imul, 1) := by decide +kernel
theorem dX12_clapsBy_45 : decode cX12_clapsBy 45 = .ok (.iload 6, 2) := by decide +kernel
theorem dX12_clapsBy_47 : decode cX12_clapsBy 47 = .ok (.iadd, 1) := by decide +kernel
theorem dX12_clapsBy_48 : decode cX12_clapsBy 48 = .ok (.iaload, 1) := by decide +kernel
theorem dX12_clapsBy_49 : decode cX12_clapsBy 49 = .ok (.iload 4, 2) := by decide +kernel
theorem dX12_clapsBy_51 : decode cX12_clapsBy 51 = .ok (.if_icmp .ne 10, 3) := by decide +kernel
theorem dX12_clapsBy_54 : decode cX12_clapsBy 54 = .ok (.iconst 1, 1) := by decide +kernel
theorem dX12_clapsBy_55 : decode cX12_clapsBy 55 = .ok (.iload 6, 2) := by decide +kernel
theorem dX12_clapsBy_57 : decode cX12_clapsBy 57 = .ok (.ishl, 1) := by decide +kernel
theorem dX12_clapsBy_58 : decode cX12_clapsBy 58 = .ok (.goto 4, 3) := by decide +kernel
theorem dX12_clapsBy_61 : decode cX12_clapsBy 61 = .ok (.iconst 0, 1) := by decide +kernel
theorem dX12_clapsBy_62 : decode cX12_clapsBy 62 = .ok (.ior, 1) := by decide +kernel
theorem dX12_clapsBy_63 : decode cX12_clapsBy 63 = .ok (.istore 5, 2) := by decide +kernel
theorem dX12_clapsBy_65 : decode cX12_clapsBy 65 = .ok (.iinc 6 1, 3) := by decide +kernel
theorem dX12_clapsBy_68 : decode cX12_clapsBy 68 = .ok (.goto (-50), 3) := by decide +kernel
theorem dX12_clapsBy_71 : decode cX12_clapsBy 71 = .ok (.iload 5, 2) := by decide +kernel
theorem dX12_clapsBy_73 : decode cX12_clapsBy 73 = .ok (.iload_n 1, 1) := by decide +kernel
theorem dX12_clapsBy_74 : decode cX12_clapsBy 74 = .ok (.if_icmp .eq 14, 3) := by decide +kernel
theorem dX12_clapsBy_77 : decode cX12_clapsBy 77 = .ok (.aload_n 0, 1) := by decide +kernel
theorem dX12_clapsBy_78 : decode cX12_clapsBy 78 = .ok (.getfield 110, 3) := by decide +kernel
theorem dX12_clapsBy_81 : decode cX12_clapsBy 81 = .ok (.iload 5, 2) := by decide +kernel
theorem dX12_clapsBy_83 : decode cX12_clapsBy 83 = .ok (.iaload, 1) := by decide +kernel
theorem dX12_clapsBy_84 : decode cX12_clapsBy 84 = .ok (.iconst (-1), 1) := by decide +kernel
theorem dX12_clapsBy_85 : decode cX12_clapsBy 85 = .ok (.if_icmp .ne 5, 3) := by decide +kernel
theorem dX12_clapsBy_88 : decode cX12_clapsBy 88 = .ok (.iconst (-1), 1) := by decide +kernel
theorem dX12_clapsBy_89 : decode cX12_clapsBy 89 = .ok (.ireturn, 1) := by decide +kernel
theorem dX12_clapsBy_90 : decode cX12_clapsBy 90 = .ok (.iload_n 3, 1) := by decide +kernel
theorem dX12_clapsBy_91 : decode cX12_clapsBy 91 = .ok (.aload_n 0, 1) := by decide +kernel
theorem dX12_clapsBy_92 : decode cX12_clapsBy 92 = .ok (.getfield 110, 3) := by decide +kernel
theorem dX12_clapsBy_95 : decode cX12_clapsBy 95 = .ok (.iload 5, 2) := by decide +kernel
theorem dX12_clapsBy_97 : decode cX12_clapsBy 97 = .ok (.iaload, 1) := by decide +kernel
theorem dX12_clapsBy_98 : decode cX12_clapsBy 98 = .ok (.invokestatic 264, 3) := by decide +kernel
theorem dX12_clapsBy_101 : decode cX12_clapsBy 101 = .ok (.istore_n 3, 1) := by decide +kernel
theorem dX12_clapsBy_102 : decode cX12_clapsBy 102 = .ok (.iinc 4 1, 3) := by decide +kernel
theorem dX12_clapsBy_105 : decode cX12_clapsBy 105 = .ok (.goto (-100), 3) := by decide +kernel
theorem dX12_clapsBy_108 : decode cX12_clapsBy 108 = .ok (.iload_n 3, 1) := by decide +kernel
theorem dX12_clapsBy_109 : decode cX12_clapsBy 109 = .ok (.iconst 1, 1) := by decide +kernel
theorem dX12_clapsBy_110 : decode cX12_clapsBy 110 = .ok (.iadd, 1) := by decide +kernel
theorem dX12_clapsBy_111 : decode cX12_clapsBy 111 = .ok (.ireturn, 1) := by decide +kernel
theorem dX12_next_0 : decode cX12_next 0 = .ok (.aload_n 0, 1) := by decide +kernel
theorem dX12_next_1 : decode cX12_next 1 = .ok (.iconst 0, 1) := by decide +kernel
theorem dX12_next_2 : decode cX12_next 2 = .ok (.putfield 147, 3) := by decide +kernel
theorem dX12_next_5 : decode cX12_next 5 = .ok (.iload_n 2, 1) := by decide +kernel
theorem dX12_next_6 : decode cX12_next 6 = .ok (.invokestatic 333, 3) := by decide +kernel
theorem dX12_next_9 : decode cX12_next 9 = .ok (.ifCond .eq 21, 3) := by decide +kernel
theorem dX12_next_12 : decode cX12_next 12 = .ok (.iload_n 3, 1) := by decide +kernel
theorem dX12_next_13 : decode cX12_next 13 = .ok (.invokestatic 336, 3) := by decide +kernel
theorem dX12_next_16 : decode cX12_next 16 = .ok (.ifCond .eq 14, 3) := by decide +kernel
theorem dX12_next_19 : decode cX12_next 19 = .ok (.iload 4, 2) := by decide +kernel
theorem dX12_next_21 : decode cX12_next 21 = .ok (.ifCond .lt 9, 3) := by decide +kernel
theorem dX12_next_24 : decode cX12_next 24 = .ok (.iload 4, 2) := by decide +kernel
theorem dX12_next_26 : decode cX12_next 26 = .ok (.iconst 1, 1) := by decide +kernel
theorem dX12_next_27 : decode cX12_next 27 = .ok (.if_icmp .le 9, 3) := by decide +kernel
theorem dX12_next_30 : decode cX12_next 30 = .ok (.aload_n 0, 1) := by decide +kernel
theorem dX12_next_31 : decode cX12_next 31 = .ok (.iconst 1, 1) := by decide +kernel
theorem dX12_next_32 : decode cX12_next 32 = .ok (.invokevirtual 249, 3) := by decide +kernel
theorem dX12_next_35 : decode cX12_next 35 = .ok (.ireturn, 1) := by decide +kernel
theorem dX12_next_36 : decode cX12_next 36 = .ok (.iload_n 1, 1) := by decide +kernel
theorem dX12_next_37 : decode cX12_next 37 = .ok (.iconst 0, 1) := by decide +kernel
theorem dX12_next_38 : decode cX12_next 38 = .ok (.bipush 63, 2) := by decide +kernel
theorem dX12_next_40 : decode cX12_next 40 = .ok (.invokestatic 150, 3) := by decide +kernel
theorem dX12_next_43 : decode cX12_next 43 = .ok (.ifCond .ne 9, 3) := by decide +kernel
theorem dX12_next_46 : decode cX12_next 46 = .ok (.aload_n 0, 1) := by decide +kernel
theorem dX12_next_47 : decode cX12_next 47 = .ok (.iconst 2, 1) := by decide +kernel
theorem dX12_next_48 : decode cX12_next 48 = .ok (.invokevirtual 249, 3) := by decide +kernel
theorem dX12_next_51 : decode cX12_next 51 = .ok (.ireturn, 1) := by decide +kernel
theorem dX12_next_52 : decode cX12_next 52 = .ok (.aload_n 0, 1) := by decide +kernel
theorem dX12_next_53 : decode cX12_next 53 = .ok (.iload_n 2, 1) := by decide +kernel
theorem dX12_next_54 : decode cX12_next 54 = .ok (.iload_n 3, 1) := by decide +kernel
theorem dX12_next_55 : decode cX12_next 55 = .ok (.invokevirtual 379, 3) := by decide +kernel
theorem dX12_next_58 : decode cX12_next 58 = .ok (.iconst (-1), 1) := by decide +kernel
theorem dX12_next_59 : decode cX12_next 59 = .ok (.istore 5, 2) := by decide +kernel
theorem dX12_next_61 : decode cX12_next 61 = .ok (.iconst 0, 1) := by decide +kernel
theorem dX12_next_62 : decode cX12_next 62 = .ok (.istore 6, 2) := by decide +kernel
theorem dX12_next_64 : decode cX12_next 64 = .ok (.iload 6, 2) := by decide +kernel
theorem dX12_next_66 : decode cX12_next 66 = .ok (.iload_n 1, 1) := by decide +kernel
theorem dX12_next_67 : decode cX12_next 67 = .ok (.if_icmp .gt 115, 3) := by decide +kernel
theorem dX12_next_70 : decode cX12_next 70 = .ok (.aload_n 0, 1) := by decide +kernel
theorem dX12_next_71 : decode cX12_next 71 = .ok (.getfield 110, 3) := by decide +kernel
theorem dX12_next_74 : decode cX12_next 74 = .ok (.iload 6, 2) := by decide +kernel
theorem dX12_next_76 : decode cX12_next 76 = .ok (.iload 6, 2) := by decide +kernel
theorem dX12_next_78 : decode cX12_next 78 = .ok (.invokestatic 354, 3) := by decide +kernel
theorem dX12_next_81 : decode cX12_next 81 = .ok (.iconst 2, 1) := by decide +kernel
theorem dX12_next_82 : decode cX12_next 82 = .ok (.if_icmp .ge 7, 3) := by decide +kernel
theorem dX12_next_85 : decode cX12_next 85 = .ok (.iconst 0, 1) := by decide +kernel
theorem dX12_next_86 : decode cX12_next 86 = .ok (.goto 4, 3) := by decide +kernel
theorem dX12_next_89 : decode cX12_next 89 = .ok (.iconst (-1), 1) := by decide +kernel
theorem dX12_next_90 : decode cX12_next 90 = .ok (.iastore, 1) := by decide +kernel
theorem dX12_next_91 : decode cX12_next 91 = .ok (.iconst (-1), 1) := by decide +kernel
theorem dX12_next_92 : decode cX12_next 92 = .ok (.istore 5, 2) := by decide +kernel
theorem dX12_next_94 : decode cX12_next 94 = .ok (.iconst 0, 1) := by decide +kernel
theorem dX12_next_95 : decode cX12_next 95 = .ok (.istore 7, 2) := by decide +kernel
theorem dX12_next_97 : decode cX12_next 97 = .ok (.iload 7, 2) := by decide +kernel
theorem dX12_next_99 : decode cX12_next 99 = .ok (.aload_n 0, 1) := by decide +kernel
theorem dX12_next_100 : decode cX12_next 100 = .ok (.getfield 258, 3) := by decide +kernel
theorem dX12_next_103 : decode cX12_next 103 = .ok (.if_icmp .ge 73, 3) := by decide +kernel
theorem dX12_next_106 : decode cX12_next 106 = .ok (.iload 6, 2) := by decide +kernel
theorem dX12_next_108 : decode cX12_next 108 = .ok (.invokestatic 354, 3) := by decide +kernel
theorem dX12_next_111 : decode cX12_next 111 = .ok (.iconst 1, 1) := by decide +kernel
theorem dX12_next_112 : decode cX12_next 112 = .ok (.if_icmp .le 64, 3) := by decide +kernel
theorem dX12_next_115 : decode cX12_next 115 = .ok (.aload_n 0, 1) := by decide +kernel
theorem dX12_next_116 : decode cX12_next 116 = .ok (.iload 6, 2) := by decide +kernel
theorem dX12_next_118 : decode cX12_next 118 = .ok (.iload 7, 2) := by decide +kernel
theorem dX12_next_120 : decode cX12_next 120 = .ok (.invokevirtual 383, 3) := by decide +kernel
theorem dX12_next_123 : decode cX12_next 123 = .ok (.istore 8, 2) := by decide +kernel
theorem dX12_next_125 : decode cX12_next 125 = .ok (.iload 8, 2) := by decide +kernel
theorem dX12_next_127 : decode cX12_next 127 = .ok (.iconst (-1), 1) := by decide +kernel
theorem dX12_next_128 : decode cX12_next 128 = .ok (.if_icmp .eq 42, 3) := by decide +kernel
theorem dX12_next_131 : decode cX12_next 131 = .ok (.aload_n 0, 1) := by decide +kernel
theorem dX12_next_132 : decode cX12_next 132 = .ok (.getfield 110, 3) := by decide +kernel
theorem dX12_next_135 : decode cX12_next 135 = .ok (.iload 6, 2) := by decide +kernel
theorem dX12_next_137 : decode cX12_next 137 = .ok (.iaload, 1) := by decide +kernel
theorem dX12_next_138 : decode cX12_next 138 = .ok (.iconst (-1), 1) := by decide +kernel
theorem dX12_next_139 : decode cX12_next 139 = .ok (.if_icmp .eq 18, 3) := by decide +kernel
theorem dX12_next_142 : decode cX12_next 142 = .ok (.iload 8, 2) := by decide +kernel
theorem dX12_next_144 : decode cX12_next 144 = .ok (.aload_n 0, 1) := by decide +kernel
theorem dX12_next_145 : decode cX12_next 145 = .ok (.getfield 110, 3) := by decide +kernel
theorem dX12_next_148 : decode cX12_next 148 = .ok (.iload 6, 2) := by decide +kernel
theorem dX12_next_150 : decode cX12_next 150 = .ok (.iaload, 1) := by decide +kernel
theorem dX12_next_151 : decode cX12_next 151 = .ok (.if_icmp .lt 6, 3) := by decide +kernel
theorem dX12_next_154 : decode cX12_next 154 = .ok (.goto 16, 3) := by decide +kernel
theorem dX12_next_157 : decode cX12_next 157 = .ok (.aload_n 0, 1) := by decide +kernel
theorem dX12_next_158 : decode cX12_next 158 = .ok (.getfield 110, 3) := by decide +kernel
theorem dX12_next_161 : decode cX12_next 161 = .ok (.iload 6, 2) := by decide +kernel
theorem dX12_next_163 : decode cX12_next 163 = .ok (.iload 8, 2) := by decide +kernel
theorem dX12_next_165 : decode cX12_next 165 = .ok (.iastore, 1) := by decide +kernel
theorem dX12_next_166 : decode cX12_next 166 = .ok (.iload 7, 2) := by decide +kernel
theorem dX12_next_168 : decode cX12_next 168 = .ok (.istore 5, 2) := by decide +kernel
theorem dX12_next_170 : decode cX12_next 170 = .ok (.iinc 7 1, 3) := by decide +kernel
theorem dX12_next_173 : decode cX12_next 173 = .ok (.goto (-76), 3) := by decide +kernel
theorem dX12_next_176 : decode cX12_next 176 = .ok (.iinc 6 1, 3) := by decide +kernel
theorem dX12_next_179 : decode cX12_next 179 = .ok (.goto (-115), 3) := by decide +kernel
theorem dX12_next_182 : decode cX12_next 182 = .ok (.iload 4, 2) := by decide +kernel
theorem dX12_next_184 : decode cX12_next 184 = .ok (.ifCond .ne 12, 3) := by decide +kernel
theorem dX12_next_187 : decode cX12_next 187 = .ok (.aload_n 0, 1) := by decide +kernel
theorem dX12_next_188 : decode cX12_next 188 = .ok (.getfield 110, 3) := by decide +kernel
theorem dX12_next_191 : decode cX12_next 191 = .ok (.iload_n 1, 1) := by decide +kernel
theorem dX12_next_192 : decode cX12_next 192 = .ok (.iaload, 1) := by decide +kernel
theorem dX12_next_193 : decode cX12_next 193 = .ok (.goto 5, 3) := by decide +kernel
theorem dX12_next_196 : decode cX12_next 196 = .ok (.iload 5, 2) := by decide +kernel
theorem dX12_next_198 : decode cX12_next 198 = .ok (.ireturn, 1) := by decide +kernel
theorem dX12_far_0 : decode cX12_far 0 = .ok (.sipush 10000, 3) := by decide +kernel
theorem dX12_far_3 : decode cX12_far 3 = .ok (.iload_n 2, 1) := by decide +kernel
theorem dX12_far_4 : decode cX12_far 4 = .ok (.iload_n 0, 1) := by decide +kernel
theorem dX12_far_5 : decode cX12_far 5 = .ok (.isub, 1) := by decide +kernel
theorem dX12_far_6 : decode cX12_far 6 = .ok (.iload_n 2, 1) := by decide +kernel
theorem dX12_far_7 : decode cX12_far 7 = .ok (.iload_n 0, 1) := by decide +kernel
theorem dX12_far_8 : decode cX12_far 8 = .ok (.isub, 1) := by decide +kernel
theorem dX12_far_9 : decode cX12_far 9 = .ok (.imul, 1) := by decide +kernel
theorem dX12_far_10 : decode cX12_far 10 = .ok (.iload_n 3, 1) := by decide +kernel
theorem dX12_far_11 : decode cX12_far 11 = .ok (.iload_n 1, 1) := by decide +kernel
theorem dX12_far_12 : decode cX12_far 12 = .ok (.isub, 1) := by decide +kernel
theorem dX12_far_13 : decode cX12_far 13 = .ok (.iload_n 3, 1) := by decide +kernel
theorem dX12_far_14 : decode cX12_far 14 = .ok (.iload_n 1, 1) := by decide +kernel
theorem dX12_far_15 : decode cX12_far 15 = .ok (.isub, 1) := by decide +kernel
theorem dX12_far_16 : decode cX12_far 16 = .ok (.imul, 1) := by decide +kernel
theorem dX12_far_17 : decode cX12_far 17 = .ok (.iadd, 1) := by decide +kernel
theorem dX12_far_18 : decode cX12_far 18 = .ok (.imul, 1) := by decide +kernel
theorem dX12_far_19 : decode cX12_far 19 = .ok (.invokestatic 310, 3) := by decide +kernel
theorem dX12_far_22 : decode cX12_far 22 = .ok (.ireturn, 1) := by decide +kernel
theorem dX12_tellThief_0 : decode cX12_tellThief 0 = .ok (.aload_n 0, 1) := by decide +kernel
theorem dX12_tellThief_1 : decode cX12_tellThief 1 = .ok (.iload_n 1, 1) := by decide +kernel
theorem dX12_tellThief_2 : decode cX12_tellThief 2 = .ok (.iconst 0, 1) := by decide +kernel
theorem dX12_tellThief_3 : decode cX12_tellThief 3 = .ok (.iload_n 2, 1) := by decide +kernel
theorem dX12_tellThief_4 : decode cX12_tellThief 4 = .ok (.iload_n 3, 1) := by decide +kernel
theorem dX12_tellThief_5 : decode cX12_tellThief 5 = .ok (.iconst 0, 1) := by decide +kernel
theorem dX12_tellThief_6 : decode cX12_tellThief 6 = .ok (.iconst 0, 1) := by decide +kernel
theorem dX12_tellThief_7 : decode cX12_tellThief 7 = .ok (.invokevirtual 316, 3) := by decide +kernel
theorem dX12_tellThief_10 : decode cX12_tellThief 10 = .ok (.aload_n 0, 1) := by decide +kernel
theorem dX12_tellThief_11 : decode cX12_tellThief 11 = .ok (.iconst 0, 1) := by decide +kernel
theorem dX12_tellThief_12 : decode cX12_tellThief 12 = .ok (.putfield 313, 3) := by decide +kernel
theorem dX12_tellThief_15 : decode cX12_tellThief 15 = .ok (.iload_n 2, 1) := by decide +kernel
theorem dX12_tellThief_16 : decode cX12_tellThief 16 = .ok (.iload_n 3, 1) := by decide +kernel
theorem dX12_tellThief_17 : decode cX12_tellThief 17 = .ok (.iload 4, 2) := by decide +kernel
theorem dX12_tellThief_19 : decode cX12_tellThief 19 = .ok (.iload 5, 2) := by decide +kernel
theorem dX12_tellThief_21 : decode cX12_tellThief 21 = .ok (.invokestatic 386, 3) := by decide +kernel
theorem dX12_tellThief_24 : decode cX12_tellThief 24 = .ok (.aload_n 0, 1) := by decide +kernel
theorem dX12_tellThief_25 : decode cX12_tellThief 25 = .ok (.getfield 39, 3) := by decide +kernel
theorem dX12_tellThief_28 : decode cX12_tellThief 28 = .ok (.iload_n 1, 1) := by decide +kernel
theorem dX12_tellThief_29 : decode cX12_tellThief 29 = .ok (.iaload, 1) := by decide +kernel
theorem dX12_tellThief_30 : decode cX12_tellThief 30 = .ok (.idiv, 1) := by decide +kernel
theorem dX12_tellThief_31 : decode cX12_tellThief 31 = .ok (.istore 6, 2) := by decide +kernel
theorem dX12_tellThief_33 : decode cX12_tellThief 33 = .ok (.iconst 0, 1) := by decide +kernel
theorem dX12_tellThief_34 : decode cX12_tellThief 34 = .ok (.istore 7, 2) := by decide +kernel
theorem dX12_tellThief_36 : decode cX12_tellThief 36 = .ok (.iload 7, 2) := by decide +kernel
theorem dX12_tellThief_38 : decode cX12_tellThief 38 = .ok (.bipush 16, 2) := by decide +kernel
theorem dX12_tellThief_40 : decode cX12_tellThief 40 = .ok (.if_icmp .ge 163, 3) := by decide +kernel
theorem dX12_tellThief_43 : decode cX12_tellThief 43 = .ok (.aload_n 0, 1) := by decide +kernel
theorem dX12_tellThief_44 : decode cX12_tellThief 44 = .ok (.iload_n 1, 1) := by decide +kernel
theorem dX12_tellThief_45 : decode cX12_tellThief 45 = .ok (.iload 7, 2) := by decide +kernel
theorem dX12_tellThief_47 : decode cX12_tellThief 47 = .ok (.invokevirtual 320, 3) := by decide +kernel
theorem dX12_tellThief_50 : decode cX12_tellThief 50 = .ok (.ifCond .ne 6, 3) := by decide +kernel
theorem dX12_tellThief_53 : decode cX12_tellThief 53 = .ok (.goto 144, 3) := by decide +kernel
theorem dX12_tellThief_56 : decode cX12_tellThief 56 = .ok (.iload 7, 2) := by decide +kernel
theorem dX12_tellThief_58 : decode cX12_tellThief 58 = .ok (.bipush 8, 2) := by decide +kernel
theorem dX12_tellThief_60 : decode cX12_tellThief 60 = .ok (.if_icmp .ge 19, 3) := by decide +kernel
theorem dX12_tellThief_63 : decode cX12_tellThief 63 = .ok (.aload_n 0, 1) := by decide +kernel
theorem dX12_tellThief_64 : decode cX12_tellThief 64 = .ok (.iload_n 1, 1) := by decide +kernel
theorem dX12_tellThief_65 : decode cX12_tellThief 65 = .ok (.iload 7, 2) := by decide +kernel
theorem dX12_tellThief_67 : decode cX12_tellThief 67 = .ok (.iconst 0, 1) := by decide +kernel
theorem dX12_tellThief_68 : decode cX12_tellThief 68 = .ok (.invokevirtual 275, 3) := by decide +kernel
theorem dX12_tellThief_71 : decode cX12_tellThief 71 = .ok (.iconst 1, 1) := by decide +kernel
theorem dX12_tellThief_72 : decode cX12_tellThief 72 = .ok (.if_icmp .ne 7, 3) := by decide +kernel
theorem dX12_tellThief_75 : decode cX12_tellThief 75 = .ok (.iconst 1, 1) := by decide +kernel
theorem dX12_tellThief_76 : decode cX12_tellThief 76 = .ok (.goto 4, 3) := by decide +kernel
theorem dX12_tellThief_79 : decode cX12_tellThief 79 = .ok (.iconst 0, 1) := by decide +kernel
theorem dX12_tellThief_80 : decode cX12_tellThief 80 = .ok (.istore 8, 2) := by decide +kernel
theorem dX12_tellThief_82 : decode cX12_tellThief 82 = .ok (.iload 7, 2) := by decide +kernel
theorem dX12_tellThief_84 : decode cX12_tellThief 84 = .ok (.bipush 8, 2) := by decide +kernel
theorem dX12_tellThief_86 : decode cX12_tellThief 86 = .ok (.if_icmp .lt 17, 3) := by decide +kernel
theorem dX12_tellThief_89 : decode cX12_tellThief 89 = .ok (.aload_n 0, 1) := by decide +kernel
theorem dX12_tellThief_90 : decode cX12_tellThief 90 = .ok (.iload_n 1, 1) := by decide +kernel
theorem dX12_tellThief_91 : decode cX12_tellThief 91 = .ok (.iload 7, 2) := by decide +kernel
theorem dX12_tellThief_93 : decode cX12_tellThief 93 = .ok (.bipush 8, 2) := by decide +kernel
theorem dX12_tellThief_95 : decode cX12_tellThief 95 = .ok (.isub, 1) := by decide +kernel
theorem dX12_tellThief_96 : decode cX12_tellThief 96 = .ok (.iconst 0, 1) := by decide +kernel
theorem dX12_tellThief_97 : decode cX12_tellThief 97 = .ok (.invokevirtual 289, 3) := by decide +kernel
theorem dX12_tellThief_100 : decode cX12_tellThief 100 = .ok (.goto 20, 3) := by decide +kernel
theorem dX12_tellThief_103 : decode cX12_tellThief 103 = .ok (.iload 8, 2) := by decide +kernel
theorem dX12_tellThief_105 : decode cX12_tellThief 105 = .ok (.ifCond .eq 7, 3) := by decide +kernel
theorem dX12_tellThief_108 : decode cX12_tellThief 108 = .ok (.iload_n 2, 1) := by decide +kernel
theorem dX12_tellThief_109 : decode cX12_tellThief 109 = .ok (.goto 11, 3) := by decide +kernel
theorem dX12_tellThief_112 : decode cX12_tellThief 112 = .ok (.aload_n 0, 1) := by decide +kernel
theorem dX12_tellThief_113 : decode cX12_tellThief 113 = .ok (.iload_n 1, 1) := by decide +kernel
theorem dX12_tellThief_114 : decode cX12_tellThief 114 = .ok (.iload 7, 2) := by decide +kernel
theorem dX12_tellThief_116 : decode cX12_tellThief 116 = .ok (.iconst 1, 1) := by decide +kernel
theorem dX12_tellThief_117 : decode cX12_tellThief 117 = .ok (.invokevirtual 275, 3) := by decide +kernel
theorem dX12_tellThief_120 : decode cX12_tellThief 120 = .ok (.istore 9, 2) := by decide +kernel
theorem dX12_tellThief_122 : decode cX12_tellThief 122 = .ok (.iload 7, 2) := by decide +kernel
theorem dX12_tellThief_124 : decode cX12_tellThief 124 = .ok (.bipush 8, 2) := by decide +kernel
theorem dX12_tellThief_126 : decode cX12_tellThief 126 = .ok (.if_icmp .lt 17, 3) := by decide +kernel
theorem dX12_tellThief_129 : decode cX12_tellThief 129 = .ok (.aload_n 0, 1) := by decide +kernel
theorem dX12_tellThief_130 : decode cX12_tellThief 130 = .ok (.iload_n 1, 1) := by decide +kernel
theorem dX12_tellThief_131 : decode cX12_tellThief 131 = .ok (.iload 7, 2) := by decide +kernel
theorem dX12_tellThief_133 : decode cX12_tellThief 133 = .ok (.bipush 8, 2) := by decide +kernel
theorem dX12_tellThief_135 : decode cX12_tellThief 135 = .ok (.isub, 1) := by decide +kernel
theorem dX12_tellThief_136 : decode cX12_tellThief 136 = .ok (.iconst 1, 1) := by decide +kernel
theorem dX12_tellThief_137 : decode cX12_tellThief 137 = .ok (.invokevirtual 289, 3) := by decide +kernel
theorem dX12_tellThief_140 : decode cX12_tellThief 140 = .ok (.goto 20, 3) := by decide +kernel
theorem dX12_tellThief_143 : decode cX12_tellThief 143 = .ok (.iload 8, 2) := by decide +kernel
theorem dX12_tellThief_145 : decode cX12_tellThief 145 = .ok (.ifCond .eq 14, 3) := by decide +kernel
theorem dX12_tellThief_148 : decode cX12_tellThief 148 = .ok (.aload_n 0, 1) := by decide +kernel
theorem dX12_tellThief_149 : decode cX12_tellThief 149 = .ok (.iload_n 1, 1) := by decide +kernel
theorem dX12_tellThief_150 : decode cX12_tellThief 150 = .ok (.iload 7, 2) := by decide +kernel
theorem dX12_tellThief_152 : decode cX12_tellThief 152 = .ok (.iconst 1, 1) := by decide +kernel
theorem dX12_tellThief_153 : decode cX12_tellThief 153 = .ok (.invokevirtual 275, 3) := by decide +kernel
theorem dX12_tellThief_156 : decode cX12_tellThief 156 = .ok (.goto 4, 3) := by decide +kernel
theorem dX12_tellThief_159 : decode cX12_tellThief 159 = .ok (.iload_n 3, 1) := by decide +kernel
theorem dX12_tellThief_160 : decode cX12_tellThief 160 = .ok (.istore 10, 2) := by decide +kernel
theorem dX12_tellThief_162 : decode cX12_tellThief 162 = .ok (.aload_n 0, 1) := by decide +kernel
theorem dX12_tellThief_163 : decode cX12_tellThief 163 = .ok (.iload_n 2, 1) := by decide +kernel
theorem dX12_tellThief_164 : decode cX12_tellThief 164 = .ok (.iload_n 3, 1) := by decide +kernel
theorem dX12_tellThief_165 : decode cX12_tellThief 165 = .ok (.iload 9, 2) := by decide +kernel
theorem dX12_tellThief_167 : decode cX12_tellThief 167 = .ok (.iload 10, 2) := by decide +kernel
theorem dX12_tellThief_169 : decode cX12_tellThief 169 = .ok (.invokestatic 386, 3) := by decide +kernel
theorem dX12_tellThief_172 : decode cX12_tellThief 172 = .ok (.iload 9, 2) := by decide +kernel
theorem dX12_tellThief_174 : decode cX12_tellThief 174 = .ok (.iload 10, 2) := by decide +kernel
theorem dX12_tellThief_176 : decode cX12_tellThief 176 = .ok (.iload 4, 2) := by decide +kernel
theorem dX12_tellThief_178 : decode cX12_tellThief 178 = .ok (.iload 5, 2) := by decide +kernel
theorem dX12_tellThief_180 : decode cX12_tellThief 180 = .ok (.invokestatic 386, 3) := by decide +kernel
theorem dX12_tellThief_183 : decode cX12_tellThief 183 = .ok (.iadd, 1) := by decide +kernel
theorem dX12_tellThief_184 : decode cX12_tellThief 184 = .ok (.aload_n 0, 1) := by decide +kernel
theorem dX12_tellThief_185 : decode cX12_tellThief 185 = .ok (.getfield 39, 3) := by decide +kernel
theorem dX12_tellThief_188 : decode cX12_tellThief 188 = .ok (.iload_n 1, 1) := by decide +kernel
theorem dX12_tellThief_189 : decode cX12_tellThief 189 = .ok (.iaload, 1) := by decide +kernel
theorem dX12_tellThief_190 : decode cX12_tellThief 190 = .ok (.idiv, 1) := by decide +kernel
theorem dX12_tellThief_191 : decode cX12_tellThief 191 = .ok (.iload 6, 2) := by decide +kernel
theorem dX12_tellThief_193 : decode cX12_tellThief 193 = .ok (.isub, 1) := by decide +kernel
theorem dX12_tellThief_194 : decode cX12_tellThief 194 = .ok (.invokevirtual 327, 3) := by decide +kernel
theorem dX12_tellThief_197 : decode cX12_tellThief 197 = .ok (.iinc 7 1, 3) := by decide +kernel
theorem dX12_tellThief_200 : decode cX12_tellThief 200 = .ok (.goto (-164), 3) := by decide +kernel
theorem dX12_tellThief_203 : decode cX12_tellThief 203 = .ok (.return_, 1) := by decide +kernel
theorem dX12_knows_0 : decode cX12_knows 0 = .ok (.aload_n 0, 1) := by decide +kernel
theorem dX12_knows_1 : decode cX12_knows 1 = .ok (.iconst 0, 1) := by decide +kernel
theorem dX12_knows_2 : decode cX12_knows 2 = .ok (.putfield 147, 3) := by decide +kernel
theorem dX12_knows_5 : decode cX12_knows 5 = .ok (.iload_n 1, 1) := by decide +kernel
theorem dX12_knows_6 : decode cX12_knows 6 = .ok (.invokestatic 246, 3) := by decide +kernel
theorem dX12_knows_9 : decode cX12_knows 9 = .ok (.ifCond .eq 21, 3) := by decide +kernel
theorem dX12_knows_12 : decode cX12_knows 12 = .ok (.iload_n 2, 1) := by decide +kernel
theorem dX12_knows_13 : decode cX12_knows 13 = .ok (.iload_n 3, 1) := by decide +kernel
theorem dX12_knows_14 : decode cX12_knows 14 = .ok (.invokestatic 330, 3) := by decide +kernel
theorem dX12_knows_17 : decode cX12_knows 17 = .ok (.ifCond .eq 13, 3) := by decide +kernel
theorem dX12_knows_20 : decode cX12_knows 20 = .ok (.iload 4, 2) := by decide +kernel
theorem dX12_knows_22 : decode cX12_knows 22 = .ok (.iload 5, 2) := by decide +kernel
theorem dX12_knows_24 : decode cX12_knows 24 = .ok (.invokestatic 330, 3) := by decide +kernel
theorem dX12_knows_27 : decode cX12_knows 27 = .ok (.ifCond .ne 9, 3) := by decide +kernel
theorem dX12_knows_30 : decode cX12_knows 30 = .ok (.aload_n 0, 1) := by decide +kernel
theorem dX12_knows_31 : decode cX12_knows 31 = .ok (.iconst 1, 1) := by decide +kernel
theorem dX12_knows_32 : decode cX12_knows 32 = .ok (.invokevirtual 249, 3) := by decide +kernel
theorem dX12_knows_35 : decode cX12_knows 35 = .ok (.ireturn, 1) := by decide +kernel
theorem dX12_knows_36 : decode cX12_knows 36 = .ok (.aload_n 0, 1) := by decide +kernel
theorem dX12_knows_37 : decode cX12_knows 37 = .ok (.iload_n 1, 1) := by decide +kernel
theorem dX12_knows_38 : decode cX12_knows 38 = .ok (.iload_n 2, 1) := by decide +kernel
theorem dX12_knows_39 : decode cX12_knows 39 = .ok (.iload_n 3, 1) := by decide +kernel
theorem dX12_knows_40 : decode cX12_knows 40 = .ok (.iload 4, 2) := by decide +kernel
theorem dX12_knows_42 : decode cX12_knows 42 = .ok (.iload 5, 2) := by decide +kernel
theorem dX12_knows_44 : decode cX12_knows 44 = .ok (.invokevirtual 389, 3) := by decide +kernel
theorem dX12_knows_47 : decode cX12_knows 47 = .ok (.aload_n 0, 1) := by decide +kernel
theorem dX12_knows_48 : decode cX12_knows 48 = .ok (.getfield 313, 3) := by decide +kernel
theorem dX12_knows_51 : decode cX12_knows 51 = .ok (.istore 6, 2) := by decide +kernel
theorem dX12_knows_53 : decode cX12_knows 53 = .ok (.iconst 0, 1) := by decide +kernel
theorem dX12_knows_54 : decode cX12_knows 54 = .ok (.istore 7, 2) := by decide +kernel
theorem dX12_knows_56 : decode cX12_knows 56 = .ok (.iload 7, 2) := by decide +kernel
theorem dX12_knows_58 : decode cX12_knows 58 = .ok (.iload 6, 2) := by decide +kernel
theorem dX12_knows_60 : decode cX12_knows 60 = .ok (.if_icmp .ge 23, 3) := by decide +kernel
theorem dX12_knows_63 : decode cX12_knows 63 = .ok (.aload_n 0, 1) := by decide +kernel
theorem dX12_knows_64 : decode cX12_knows 64 = .ok (.getfield 67, 3) := by decide +kernel
theorem dX12_knows_67 : decode cX12_knows 67 = .ok (.iload 7, 2) := by decide +kernel
theorem dX12_knows_69 : decode cX12_knows 69 = .ok (.aload_n 0, 1) := by decide +kernel
theorem dX12_knows_70 : decode cX12_knows 70 = .ok (.getfield 64, 3) := by decide +kernel
theorem dX12_knows_73 : decode cX12_knows 73 = .ok (.iload 7, 2) := by decide +kernel
theorem dX12_knows_75 : decode cX12_knows 75 = .ok (.iaload, 1) := by decide +kernel
theorem dX12_knows_76 : decode cX12_knows 76 = .ok (.iastore, 1) := by decide +kernel
theorem dX12_knows_77 : decode cX12_knows 77 = .ok (.iinc 7 1, 3) := by decide +kernel
theorem dX12_knows_80 : decode cX12_knows 80 = .ok (.goto (-24), 3) := by decide +kernel
theorem dX12_knows_83 : decode cX12_knows 83 = .ok (.iconst 0, 1) := by decide +kernel
theorem dX12_knows_84 : decode cX12_knows 84 = .ok (.istore 7, 2) := by decide +kernel
theorem dX12_knows_86 : decode cX12_knows 86 = .ok (.iconst 0, 1) := by decide +kernel
theorem dX12_knows_87 : decode cX12_knows 87 = .ok (.istore 8, 2) := by decide +kernel
theorem dX12_knows_89 : decode cX12_knows 89 = .ok (.iload 8, 2) := by decide +kernel
theorem dX12_knows_91 : decode cX12_knows 91 = .ok (.sipush 1681, 3) := by decide +kernel
theorem dX12_knows_94 : decode cX12_knows 94 = .ok (.if_icmp .ge 104, 3) := by decide +kernel
theorem dX12_knows_97 : decode cX12_knows 97 = .ok (.aload_n 0, 1) := by decide +kernel
theorem dX12_knows_98 : decode cX12_knows 98 = .ok (.iload_n 1, 1) := by decide +kernel
theorem dX12_knows_99 : decode cX12_knows 99 = .ok (.iload 8, 2) := by decide +kernel
theorem dX12_knows_101 : decode cX12_knows 101 = .ok (.bipush 41, 2) := by decide +kernel
theorem dX12_knows_103 : decode cX12_knows 103 = .ok (.irem, 1) := by decide +kernel
theorem dX12_knows_104 : decode cX12_knows 104 = .ok (.iload 8, 2) := by decide +kernel
theorem dX12_knows_106 : decode cX12_knows 106 = .ok (.bipush 41, 2) := by decide +kernel
theorem dX12_knows_108 : decode cX12_knows 108 = .ok (.idiv, 1) := by decide +kernel
theorem dX12_knows_109 : decode cX12_knows 109 = .ok (.iload 4, 2) := by decide +kernel
theorem dX12_knows_111 : decode cX12_knows 111 = .ok (.iload 5, 2) := by decide +kernel
theorem dX12_knows_113 : decode cX12_knows 113 = .ok (.invokevirtual 389, 3) := by decide +kernel
theorem dX12_knows_116 : decode cX12_knows 116 = .ok (.aload_n 0, 1) := by decide +kernel
theorem dX12_knows_117 : decode cX12_knows 117 = .ok (.getfield 313, 3) := by decide +kernel
theorem dX12_knows_120 : decode cX12_knows 120 = .ok (.iload 6, 2) := by decide +kernel
theorem dX12_knows_122 : decode cX12_knows 122 = .ok (.if_icmp .ne 7, 3) := by decide +kernel
theorem dX12_knows_125 : decode cX12_knows 125 = .ok (.iconst 1, 1) := by decide +kernel
theorem dX12_knows_126 : decode cX12_knows 126 = .ok (.goto 4, 3) := by decide +kernel
theorem dX12_knows_129 : decode cX12_knows 129 = .ok (.iconst 0, 1) := by decide +kernel
theorem dX12_knows_130 : decode cX12_knows 130 = .ok (.istore 9, 2) := by decide +kernel
theorem dX12_knows_132 : decode cX12_knows 132 = .ok (.iconst 0, 1) := by decide +kernel
theorem dX12_knows_133 : decode cX12_knows 133 = .ok (.istore 10, 2) := by decide +kernel
theorem dX12_knows_135 : decode cX12_knows 135 = .ok (.iload 9, 2) := by decide +kernel
theorem dX12_knows_137 : decode cX12_knows 137 = .ok (.ifCond .eq 40, 3) := by decide +kernel
theorem dX12_knows_140 : decode cX12_knows 140 = .ok (.iload 10, 2) := by decide +kernel
theorem dX12_knows_142 : decode cX12_knows 142 = .ok (.iload 6, 2) := by decide +kernel
theorem dX12_knows_144 : decode cX12_knows 144 = .ok (.if_icmp .ge 33, 3) := by decide +kernel
theorem dX12_knows_147 : decode cX12_knows 147 = .ok (.aload_n 0, 1) := by decide +kernel
theorem dX12_knows_148 : decode cX12_knows 148 = .ok (.getfield 64, 3) := by decide +kernel
theorem dX12_knows_151 : decode cX12_knows 151 = .ok (.iload 10, 2) := by decide +kernel
theorem dX12_knows_153 : decode cX12_knows 153 = .ok (.iaload, 1) := by decide +kernel
theorem dX12_knows_154 : decode cX12_knows 154 = .ok (.aload_n 0, 1) := by decide +kernel
theorem dX12_knows_155 : decode cX12_knows 155 = .ok (.getfield 67, 3) := by decide +kernel
theorem dX12_knows_158 : decode cX12_knows 158 = .ok (.iload 10, 2) := by decide +kernel
theorem dX12_knows_160 : decode cX12_knows 160 = .ok (.iaload, 1) := by decide +kernel
theorem dX12_knows_161 : decode cX12_knows 161 = .ok (.if_icmp .ne 7, 3) := by decide +kernel
theorem dX12_knows_164 : decode cX12_knows 164 = .ok (.iconst 1, 1) := by decide +kernel
theorem dX12_knows_165 : decode cX12_knows 165 = .ok (.goto 4, 3) := by decide +kernel
theorem dX12_knows_168 : decode cX12_knows 168 = .ok (.iconst 0, 1) := by decide +kernel
theorem dX12_knows_169 : decode cX12_knows 169 = .ok (.istore 9, 2) := by decide +kernel
theorem dX12_knows_171 : decode cX12_knows 171 = .ok (.iinc 10 1, 3) := by decide +kernel
theorem dX12_knows_174 : decode cX12_knows 174 = .ok (.goto (-39), 3) := by decide +kernel
theorem dX12_knows_177 : decode cX12_knows 177 = .ok (.iload 7, 2) := by decide +kernel
theorem dX12_knows_179 : decode cX12_knows 179 = .ok (.iload 9, 2) := by decide +kernel
theorem dX12_knows_181 : decode cX12_knows 181 = .ok (.ifCond .eq 7, 3) := by decide +kernel
theorem dX12_knows_184 : decode cX12_knows 184 = .ok (.iconst 1, 1) := by decide +kernel
theorem dX12_knows_185 : decode cX12_knows 185 = .ok (.goto 4, 3) := by decide +kernel
theorem dX12_knows_188 : decode cX12_knows 188 = .ok (.iconst 0, 1) := by decide +kernel
theorem dX12_knows_189 : decode cX12_knows 189 = .ok (.iadd, 1) := by decide +kernel
theorem dX12_knows_190 : decode cX12_knows 190 = .ok (.istore 7, 2) := by decide +kernel
theorem dX12_knows_192 : decode cX12_knows 192 = .ok (.iinc 8 1, 3) := by decide +kernel
theorem dX12_knows_195 : decode cX12_knows 195 = .ok (.goto (-106), 3) := by decide +kernel
theorem dX12_knows_198 : decode cX12_knows 198 = .ok (.iload 7, 2) := by decide +kernel
theorem dX12_knows_200 : decode cX12_knows 200 = .ok (.ireturn, 1) := by decide +kernel
theorem dX12_word_0 : decode cX12_word 0 = .ok (.aload_n 0, 1) := by decide +kernel
theorem dX12_word_1 : decode cX12_word 1 = .ok (.iconst 0, 1) := by decide +kernel
theorem dX12_word_2 : decode cX12_word 2 = .ok (.putfield 147, 3) := by decide +kernel
theorem dX12_word_5 : decode cX12_word 5 = .ok (.iload_n 1, 1) := by decide +kernel
theorem dX12_word_6 : decode cX12_word 6 = .ok (.invokestatic 246, 3) := by decide +kernel
theorem dX12_word_9 : decode cX12_word 9 = .ok (.ifCond .eq 19, 3) := by decide +kernel
theorem dX12_word_12 : decode cX12_word 12 = .ok (.iload_n 2, 1) := by decide +kernel
theorem dX12_word_13 : decode cX12_word 13 = .ok (.iload_n 3, 1) := by decide +kernel
theorem dX12_word_14 : decode cX12_word 14 = .ok (.invokestatic 330, 3) := by decide +kernel
theorem dX12_word_17 : decode cX12_word 17 = .ok (.ifCond .eq 11, 3) := by decide +kernel
theorem dX12_word_20 : decode cX12_word 20 = .ok (.iload 4, 2) := by decide +kernel
theorem dX12_word_22 : decode cX12_word 22 = .ok (.invokestatic 336, 3) := by decide +kernel
theorem dX12_word_25 : decode cX12_word 25 = .ok (.ifCond .ne 9, 3) := by decide +kernel
theorem dX12_word_28 : decode cX12_word 28 = .ok (.aload_n 0, 1) := by decide +kernel
theorem dX12_word_29 : decode cX12_word 29 = .ok (.iconst 1, 1) := by decide +kernel
theorem dX12_word_30 : decode cX12_word 30 = .ok (.invokevirtual 249, 3) := by decide +kernel
theorem dX12_word_33 : decode cX12_word 33 = .ok (.ireturn, 1) := by decide +kernel
theorem dX12_word_34 : decode cX12_word 34 = .ok (.iconst 0, 1) := by decide +kernel
theorem dX12_word_35 : decode cX12_word 35 = .ok (.istore 5, 2) := by decide +kernel
theorem dX12_word_37 : decode cX12_word 37 = .ok (.iconst 0, 1) := by decide +kernel
theorem dX12_word_38 : decode cX12_word 38 = .ok (.istore 6, 2) := by decide +kernel
theorem dX12_word_40 : decode cX12_word 40 = .ok (.iload 6, 2) := by decide +kernel
theorem dX12_word_42 : decode cX12_word 42 = .ok (.sipush 1681, 3) := by decide +kernel
theorem dX12_word_45 : decode cX12_word 45 = .ok (.if_icmp .ge 89, 3) := by decide +kernel
theorem dX12_word_48 : decode cX12_word 48 = .ok (.iload 6, 2) := by decide +kernel
theorem dX12_word_50 : decode cX12_word 50 = .ok (.bipush 41, 2) := by decide +kernel
theorem dX12_word_52 : decode cX12_word 52 = .ok (.irem, 1) := by decide +kernel
theorem dX12_word_53 : decode cX12_word 53 = .ok (.istore 7, 2) := by decide +kernel
theorem dX12_word_55 : decode cX12_word 55 = .ok (.iload 6, 2) := by decide +kernel
theorem dX12_word_57 : decode cX12_word 57 = .ok (.bipush 41, 2) := by decide +kernel
theorem dX12_word_59 : decode cX12_word 59 = .ok (.idiv, 1) := by decide +kernel
theorem dX12_word_60 : decode cX12_word 60 = .ok (.istore 8, 2) := by decide +kernel
theorem dX12_word_62 : decode cX12_word 62 = .ok (.iload 7, 2) := by decide +kernel
theorem dX12_word_64 : decode cX12_word 64 = .ok (.iload_n 2, 1) := by decide +kernel
theorem dX12_word_65 : decode cX12_word 65 = .ok (.if_icmp .ne 9, 3) := by decide +kernel
theorem dX12_word_68 : decode cX12_word 68 = .ok (.iload 8, 2) := by decide +kernel
theorem dX12_word_70 : decode cX12_word 70 = .ok (.iload_n 3, 1) := by decide +kernel
theorem dX12_word_71 : decode cX12_word 71 = .ok (.if_icmp .eq 57, 3) := by decide +kernel
theorem dX12_word_74 : decode cX12_word 74 = .ok (.aload_n 0, 1) := by decide +kernel
theorem dX12_word_75 : decode cX12_word 75 = .ok (.iload_n 1, 1) := by decide +kernel
theorem dX12_word_76 : decode cX12_word 76 = .ok (.iconst 0, 1) := by decide +kernel
theorem dX12_word_77 : decode cX12_word 77 = .ok (.iload_n 2, 1) := by decide +kernel
theorem dX12_word_78 : decode cX12_word 78 = .ok (.iload_n 3, 1) := by decide +kernel
theorem dX12_word_79 : decode cX12_word 79 = .ok (.iload 7, 2) := by decide +kernel
theorem dX12_word_81 : decode cX12_word 81 = .ok (.iload 8, 2) := by decide +kernel
theorem dX12_word_83 : decode cX12_word 83 = .ok (.invokevirtual 292, 3) := by decide +kernel
theorem dX12_word_86 : decode cX12_word 86 = .ok (.ifCond .eq 6, 3) := by decide +kernel
theorem dX12_word_89 : decode cX12_word 89 = .ok (.goto 39, 3) := by decide +kernel
theorem dX12_word_92 : decode cX12_word 92 = .ok (.iload 5, 2) := by decide +kernel
theorem dX12_word_94 : decode cX12_word 94 = .ok (.aload_n 0, 1) := by decide +kernel
theorem dX12_word_95 : decode cX12_word 95 = .ok (.iload_n 1, 1) := by decide +kernel
theorem dX12_word_96 : decode cX12_word 96 = .ok (.iload 4, 2) := by decide +kernel
theorem dX12_word_98 : decode cX12_word 98 = .ok (.sipush 1000, 3) := by decide +kernel
theorem dX12_word_101 : decode cX12_word 101 = .ok (.iconst 1, 1) := by decide +kernel
theorem dX12_word_102 : decode cX12_word 102 = .ok (.iload_n 2, 1) := by decide +kernel
theorem dX12_word_103 : decode cX12_word 103 = .ok (.iload_n 3, 1) := by decide +kernel
theorem dX12_word_104 : decode cX12_word 104 = .ok (.iload 7, 2) := by decide +kernel
theorem dX12_word_106 : decode cX12_word 106 = .ok (.iload 8, 2) := by decide +kernel
theorem dX12_word_108 : decode cX12_word 108 = .ok (.invokevirtual 285, 3) := by decide +kernel
theorem dX12_word_111 : decode cX12_word 111 = .ok (.aload_n 0, 1) := by decide +kernel
theorem dX12_word_112 : decode cX12_word 112 = .ok (.getfield 37, 3) := by decide +kernel
theorem dX12_word_115 : decode cX12_word 115 = .ok (.iload_n 1, 1) := by decide +kernel
theorem dX12_word_116 : decode cX12_word 116 = .ok (.iaload, 1) := by decide +kernel
theorem dX12_word_117 : decode cX12_word 117 = .ok (.if_icmp .lt 7, 3) := by decide +kernel
theorem dX12_word_120 : decode cX12_word 120 = .ok (.iconst 1, 1) := by decide +kernel
theorem dX12_word_121 : decode cX12_word 121 = .ok (.goto 4, 3) := by decide +kernel
theorem dX12_word_124 : decode cX12_word 124 = .ok (.iconst 0, 1) := by decide +kernel
theorem dX12_word_125 : decode cX12_word 125 = .ok (.iadd, 1) := by decide +kernel
theorem dX12_word_126 : decode cX12_word 126 = .ok (.istore 5, 2) := by decide +kernel
theorem dX12_word_128 : decode cX12_word 128 = .ok (.iinc 6 1, 3) := by decide +kernel
theorem dX12_word_131 : decode cX12_word 131 = .ok (.goto (-91), 3) := by decide +kernel
theorem dX12_word_134 : decode cX12_word 134 = .ok (.iload 5, 2) := by decide +kernel
theorem dX12_word_136 : decode cX12_word 136 = .ok (.ireturn, 1) := by decide +kernel
theorem dX12_clear_0 : decode cX12_clear 0 = .ok (.aload_n 0, 1) := by decide +kernel
theorem dX12_clear_1 : decode cX12_clear 1 = .ok (.iconst 0, 1) := by decide +kernel
theorem dX12_clear_2 : decode cX12_clear 2 = .ok (.putfield 147, 3) := by decide +kernel
theorem dX12_clear_5 : decode cX12_clear 5 = .ok (.aload_n 0, 1) := by decide +kernel
theorem dX12_clear_6 : decode cX12_clear 6 = .ok (.iconst 0, 1) := by decide +kernel
theorem dX12_clear_7 : decode cX12_clear 7 = .ok (.putfield 255, 3) := by decide +kernel
theorem dX12_clear_10 : decode cX12_clear 10 = .ok (.aload_n 0, 1) := by decide +kernel
theorem dX12_clear_11 : decode cX12_clear 11 = .ok (.iconst 0, 1) := by decide +kernel
theorem dX12_clear_12 : decode cX12_clear 12 = .ok (.putfield 258, 3) := by decide +kernel
theorem dX12_clear_15 : decode cX12_clear 15 = .ok (.return_, 1) := by decide +kernel
theorem dX12_be_0 : decode cX12_be 0 = .ok (.iconst 0, 1) := by decide +kernel
theorem dX12_be_1 : decode cX12_be 1 = .ok (.istore_n 2, 1) := by decide +kernel
theorem dX12_be_2 : decode cX12_be 2 = .ok (.iload_n 2, 1) := by decide +kernel
theorem dX12_be_3 : decode cX12_be 3 = .ok (.aload_n 0, 1) := by decide +kernel
theorem dX12_be_4 : decode cX12_be 4 = .ok (.arraylength, 1) := by decide +kernel
theorem dX12_be_5 : decode cX12_be 5 = .ok (.if_icmp .ge 15, 3) := by decide +kernel
theorem dX12_be_8 : decode cX12_be 8 = .ok (.aload_n 0, 1) := by decide +kernel
theorem dX12_be_9 : decode cX12_be 9 = .ok (.iload_n 2, 1) := by decide +kernel
theorem dX12_be_10 : decode cX12_be 10 = .ok (.aload_n 1, 1) := by decide +kernel
theorem dX12_be_11 : decode cX12_be 11 = .ok (.iload_n 2, 1) := by decide +kernel
theorem dX12_be_12 : decode cX12_be 12 = .ok (.iaload, 1) := by decide +kernel
theorem dX12_be_13 : decode cX12_be 13 = .ok (.iastore, 1) := by decide +kernel
theorem dX12_be_14 : decode cX12_be 14 = .ok (.iinc 2 1, 3) := by decide +kernel
theorem dX12_be_17 : decode cX12_be 17 = .ok (.goto (-15), 3) := by decide +kernel
theorem dX12_be_20 : decode cX12_be 20 = .ok (.return_, 1) := by decide +kernel
theorem dX12_image_0 : decode cX12_image 0 = .ok (.aload_n 0, 1) := by decide +kernel
theorem dX12_image_1 : decode cX12_image 1 = .ok (.iconst 0, 1) := by decide +kernel
theorem dX12_image_2 : decode cX12_image 2 = .ok (.putfield 147, 3) := by decide +kernel
theorem dX12_image_5 : decode cX12_image 5 = .ok (.aload_n 0, 1) := by decide +kernel
theorem dX12_image_6 : decode cX12_image 6 = .ok (.iconst 1, 1) := by decide +kernel
theorem dX12_image_7 : decode cX12_image 7 = .ok (.putfield 392, 3) := by decide +kernel
theorem dX12_image_10 : decode cX12_image 10 = .ok (.aload_n 0, 1) := by decide +kernel
theorem dX12_image_11 : decode cX12_image 11 = .ok (.aload_n 0, 1) := by decide +kernel
theorem dX12_image_12 : decode cX12_image 12 = .ok (.getfield 255, 3) := by decide +kernel
theorem dX12_image_15 : decode cX12_image 15 = .ok (.putfield 396, 3) := by decide +kernel
theorem dX12_image_18 : decode cX12_image 18 = .ok (.aload_n 0, 1) := by decide +kernel
theorem dX12_image_19 : decode cX12_image 19 = .ok (.aload_n 0, 1) := by decide +kernel
theorem dX12_image_20 : decode cX12_image 20 = .ok (.getfield 258, 3) := by decide +kernel
theorem dX12_image_23 : decode cX12_image 23 = .ok (.putfield 399, 3) := by decide +kernel
theorem dX12_image_26 : decode cX12_image 26 = .ok (.aload_n 0, 1) := by decide +kernel
theorem dX12_image_27 : decode cX12_image 27 = .ok (.getfield 113, 3) := by decide +kernel
theorem dX12_image_30 : decode cX12_image 30 = .ok (.aload_n 0, 1) := by decide +kernel
theorem dX12_image_31 : decode cX12_image 31 = .ok (.getfield 70, 3) := by decide +kernel
theorem dX12_image_34 : decode cX12_image 34 = .ok (.invokestatic 402, 3) := by decide +kernel
theorem dX12_image_37 : decode cX12_image 37 = .ok (.aload_n 0, 1) := by decide +kernel
theorem dX12_image_38 : decode cX12_image 38 = .ok (.getfield 116, 3) := by decide +kernel
theorem dX12_image_41 : decode cX12_image 41 = .ok (.aload_n 0, 1) := by decide +kernel
theorem dX12_image_42 : decode cX12_image 42 = .ok (.getfield 73, 3) := by decide +kernel
theorem dX12_image_45 : decode cX12_image 45 = .ok (.invokestatic 402, 3) := by decide +kernel
theorem dX12_image_48 : decode cX12_image 48 = .ok (.aload_n 0, 1) := by decide +kernel
theorem dX12_image_49 : decode cX12_image 49 = .ok (.getfield 119, 3) := by decide +kernel
theorem dX12_image_52 : decode cX12_image 52 = .ok (.aload_n 0, 1) := by decide +kernel
theorem dX12_image_53 : decode cX12_image 53 = .ok (.getfield 76, 3) := by decide +kernel
theorem dX12_image_56 : decode cX12_image 56 = .ok (.invokestatic 402, 3) := by decide +kernel
theorem dX12_image_59 : decode cX12_image 59 = .ok (.aload_n 0, 1) := by decide +kernel
theorem dX12_image_60 : decode cX12_image 60 = .ok (.getfield 122, 3) := by decide +kernel
theorem dX12_image_63 : decode cX12_image 63 = .ok (.aload_n 0, 1) := by decide +kernel
theorem dX12_image_64 : decode cX12_image 64 = .ok (.getfield 79, 3) := by decide +kernel
theorem dX12_image_67 : decode cX12_image 67 = .ok (.invokestatic 402, 3) := by decide +kernel
theorem dX12_image_70 : decode cX12_image 70 = .ok (.aload_n 0, 1) := by decide +kernel
theorem dX12_image_71 : decode cX12_image 71 = .ok (.getfield 125, 3) := by decide +kernel
theorem dX12_image_74 : decode cX12_image 74 = .ok (.aload_n 0, 1) := by decide +kernel
theorem dX12_image_75 : decode cX12_image 75 = .ok (.getfield 82, 3) := by decide +kernel
theorem dX12_image_78 : decode cX12_image 78 = .ok (.invokestatic 402, 3) := by decide +kernel
theorem dX12_image_81 : decode cX12_image 81 = .ok (.aload_n 0, 1) := by decide +kernel
theorem dX12_image_82 : decode cX12_image 82 = .ok (.getfield 128, 3) := by decide +kernel
theorem dX12_image_85 : decode cX12_image 85 = .ok (.aload_n 0, 1) := by decide +kernel
theorem dX12_image_86 : decode cX12_image 86 = .ok (.getfield 85, 3) := by decide +kernel
theorem dX12_image_89 : decode cX12_image 89 = .ok (.invokestatic 402, 3) := by decide +kernel
theorem dX12_image_92 : decode cX12_image 92 = .ok (.aload_n 0, 1) := by decide +kernel
theorem dX12_image_93 : decode cX12_image 93 = .ok (.getfield 131, 3) := by decide +kernel
theorem dX12_image_96 : decode cX12_image 96 = .ok (.aload_n 0, 1) := by decide +kernel
theorem dX12_image_97 : decode cX12_image 97 = .ok (.getfield 88, 3) := by decide +kernel
theorem dX12_image_100 : decode cX12_image 100 = .ok (.invokestatic 402, 3) := by decide +kernel
theorem dX12_image_103 : decode cX12_image 103 = .ok (.aload_n 0, 1) := by decide +kernel
theorem dX12_image_104 : decode cX12_image 104 = .ok (.getfield 134, 3) := by decide +kernel
theorem dX12_image_107 : decode cX12_image 107 = .ok (.aload_n 0, 1) := by decide +kernel
theorem dX12_image_108 : decode cX12_image 108 = .ok (.getfield 91, 3) := by decide +kernel
theorem dX12_image_111 : decode cX12_image 111 = .ok (.invokestatic 402, 3) := by decide +kernel
theorem dX12_image_114 : decode cX12_image 114 = .ok (.aload_n 0, 1) := by decide +kernel
theorem dX12_image_115 : decode cX12_image 115 = .ok (.getfield 137, 3) := by decide +kernel
theorem dX12_image_118 : decode cX12_image 118 = .ok (.aload_n 0, 1) := by decide +kernel
theorem dX12_image_119 : decode cX12_image 119 = .ok (.getfield 94, 3) := by decide +kernel
theorem dX12_image_122 : decode cX12_image 122 = .ok (.invokestatic 402, 3) := by decide +kernel
theorem dX12_image_125 : decode cX12_image 125 = .ok (.aload_n 0, 1) := by decide +kernel
theorem dX12_image_126 : decode cX12_image 126 = .ok (.getfield 140, 3) := by decide +kernel
theorem dX12_image_129 : decode cX12_image 129 = .ok (.aload_n 0, 1) := by decide +kernel
theorem dX12_image_130 : decode cX12_image 130 = .ok (.getfield 48, 3) := by decide +kernel
theorem dX12_image_133 : decode cX12_image 133 = .ok (.invokestatic 402, 3) := by decide +kernel
theorem dX12_image_136 : decode cX12_image 136 = .ok (.return_, 1) := by decide +kernel
theorem dX12_restore_0 : decode cX12_restore 0 = .ok (.aload_n 0, 1) := by decide +kernel
theorem dX12_restore_1 : decode cX12_restore 1 = .ok (.iconst 0, 1) := by decide +kernel
theorem dX12_restore_2 : decode cX12_restore 2 = .ok (.putfield 147, 3) := by decide +kernel
theorem dX12_restore_5 : decode cX12_restore 5 = .ok (.aload_n 0, 1) := by decide +kernel
theorem dX12_restore_6 : decode cX12_restore 6 = .ok (.getfield 392, 3) := by decide +kernel
theorem dX12_restore_9 : decode cX12_restore 9 = .ok (.ifCond .ne 5, 3) := by decide +kernel
theorem dX12_restore_12 : decode cX12_restore 12 = .ok (.iconst 0, 1) := by decide +kernel
theorem dX12_restore_13 : decode cX12_restore 13 = .ok (.ireturn, 1) := by decide +kernel
theorem dX12_restore_14 : decode cX12_restore 14 = .ok (.aload_n 0, 1) := by decide +kernel
theorem dX12_restore_15 : decode cX12_restore 15 = .ok (.aload_n 0, 1) := by decide +kernel
theorem dX12_restore_16 : decode cX12_restore 16 = .ok (.getfield 396, 3) := by decide +kernel
theorem dX12_restore_19 : decode cX12_restore 19 = .ok (.putfield 255, 3) := by decide +kernel
theorem dX12_restore_22 : decode cX12_restore 22 = .ok (.aload_n 0, 1) := by decide +kernel
theorem dX12_restore_23 : decode cX12_restore 23 = .ok (.aload_n 0, 1) := by decide +kernel
theorem dX12_restore_24 : decode cX12_restore 24 = .ok (.getfield 399, 3) := by decide +kernel
theorem dX12_restore_27 : decode cX12_restore 27 = .ok (.putfield 258, 3) := by decide +kernel
theorem dX12_restore_30 : decode cX12_restore 30 = .ok (.aload_n 0, 1) := by decide +kernel
theorem dX12_restore_31 : decode cX12_restore 31 = .ok (.getfield 70, 3) := by decide +kernel
theorem dX12_restore_34 : decode cX12_restore 34 = .ok (.aload_n 0, 1) := by decide +kernel
theorem dX12_restore_35 : decode cX12_restore 35 = .ok (.getfield 113, 3) := by decide +kernel
theorem dX12_restore_38 : decode cX12_restore 38 = .ok (.invokestatic 402, 3) := by decide +kernel
theorem dX12_restore_41 : decode cX12_restore 41 = .ok (.aload_n 0, 1) := by decide +kernel
theorem dX12_restore_42 : decode cX12_restore 42 = .ok (.getfield 73, 3) := by decide +kernel
theorem dX12_restore_45 : decode cX12_restore 45 = .ok (.aload_n 0, 1) := by decide +kernel
theorem dX12_restore_46 : decode cX12_restore 46 = .ok (.getfield 116, 3) := by decide +kernel
theorem dX12_restore_49 : decode cX12_restore 49 = .ok (.invokestatic 402, 3) := by decide +kernel
theorem dX12_restore_52 : decode cX12_restore 52 = .ok (.aload_n 0, 1) := by decide +kernel
theorem dX12_restore_53 : decode cX12_restore 53 = .ok (.getfield 76, 3) := by decide +kernel
theorem dX12_restore_56 : decode cX12_restore 56 = .ok (.aload_n 0, 1) := by decide +kernel
theorem dX12_restore_57 : decode cX12_restore 57 = .ok (.getfield 119, 3) := by decide +kernel
theorem dX12_restore_60 : decode cX12_restore 60 = .ok (.invokestatic 402, 3) := by decide +kernel
theorem dX12_restore_63 : decode cX12_restore 63 = .ok (.aload_n 0, 1) := by decide +kernel
theorem dX12_restore_64 : decode cX12_restore 64 = .ok (.getfield 79, 3) := by decide +kernel
theorem dX12_restore_67 : decode cX12_restore 67 = .ok (.aload_n 0, 1) := by decide +kernel
theorem dX12_restore_68 : decode cX12_restore 68 = .ok (.getfield 122, 3) := by decide +kernel
theorem dX12_restore_71 : decode cX12_restore 71 = .ok (.invokestatic 402, 3) := by decide +kernel
theorem dX12_restore_74 : decode cX12_restore 74 = .ok (.aload_n 0, 1) := by decide +kernel
theorem dX12_restore_75 : decode cX12_restore 75 = .ok (.getfield 82, 3) := by decide +kernel
theorem dX12_restore_78 : decode cX12_restore 78 = .ok (.aload_n 0, 1) := by decide +kernel
theorem dX12_restore_79 : decode cX12_restore 79 = .ok (.getfield 125, 3) := by decide +kernel
theorem dX12_restore_82 : decode cX12_restore 82 = .ok (.invokestatic 402, 3) := by decide +kernel
theorem dX12_restore_85 : decode cX12_restore 85 = .ok (.aload_n 0, 1) := by decide +kernel
theorem dX12_restore_86 : decode cX12_restore 86 = .ok (.getfield 85, 3) := by decide +kernel
theorem dX12_restore_89 : decode cX12_restore 89 = .ok (.aload_n 0, 1) := by decide +kernel
theorem dX12_restore_90 : decode cX12_restore 90 = .ok (.getfield 128, 3) := by decide +kernel
theorem dX12_restore_93 : decode cX12_restore 93 = .ok (.invokestatic 402, 3) := by decide +kernel
theorem dX12_restore_96 : decode cX12_restore 96 = .ok (.aload_n 0, 1) := by decide +kernel
theorem dX12_restore_97 : decode cX12_restore 97 = .ok (.getfield 88, 3) := by decide +kernel
theorem dX12_restore_100 : decode cX12_restore 100 = .ok (.aload_n 0, 1) := by decide +kernel
theorem dX12_restore_101 : decode cX12_restore 101 = .ok (.getfield 131, 3) := by decide +kernel
theorem dX12_restore_104 : decode cX12_restore 104 = .ok (.invokestatic 402, 3) := by decide +kernel
theorem dX12_restore_107 : decode cX12_restore 107 = .ok (.aload_n 0, 1) := by decide +kernel
theorem dX12_restore_108 : decode cX12_restore 108 = .ok (.getfield 91, 3) := by decide +kernel
theorem dX12_restore_111 : decode cX12_restore 111 = .ok (.aload_n 0, 1) := by decide +kernel
theorem dX12_restore_112 : decode cX12_restore 112 = .ok (.getfield 134, 3) := by decide +kernel
theorem dX12_restore_115 : decode cX12_restore 115 = .ok (.invokestatic 402, 3) := by decide +kernel
theorem dX12_restore_118 : decode cX12_restore 118 = .ok (.aload_n 0, 1) := by decide +kernel
theorem dX12_restore_119 : decode cX12_restore 119 = .ok (.getfield 94, 3) := by decide +kernel
theorem dX12_restore_122 : decode cX12_restore 122 = .ok (.aload_n 0, 1) := by decide +kernel
theorem dX12_restore_123 : decode cX12_restore 123 = .ok (.getfield 137, 3) := by decide +kernel
theorem dX12_restore_126 : decode cX12_restore 126 = .ok (.invokestatic 402, 3) := by decide +kernel
theorem dX12_restore_129 : decode cX12_restore 129 = .ok (.aload_n 0, 1) := by decide +kernel
theorem dX12_restore_130 : decode cX12_restore 130 = .ok (.getfield 48, 3) := by decide +kernel
theorem dX12_restore_133 : decode cX12_restore 133 = .ok (.aload_n 0, 1) := by decide +kernel
theorem dX12_restore_134 : decode cX12_restore 134 = .ok (.getfield 140, 3) := by decide +kernel
theorem dX12_restore_137 : decode cX12_restore 137 = .ok (.invokestatic 402, 3) := by decide +kernel
theorem dX12_restore_140 : decode cX12_restore 140 = .ok (.iconst 1, 1) := by decide +kernel
theorem dX12_restore_141 : decode cX12_restore 141 = .ok (.ireturn, 1) := by decide +kernel
theorem dJ6_bitCount_0f7a4_0 : decode cJ6_bitCount_0f7a4 0 = .ok (.iload_n 0, 1) := by decide +kernel
theorem dJ6_bitCount_0f7a4_1 : decode cJ6_bitCount_0f7a4 1 = .ok (.iload_n 0, 1) := by decide +kernel
theorem dJ6_bitCount_0f7a4_2 : decode cJ6_bitCount_0f7a4 2 = .ok (.iconst 1, 1) := by decide +kernel
theorem dJ6_bitCount_0f7a4_3 : decode cJ6_bitCount_0f7a4 3 = .ok (.iushr, 1) := by decide +kernel
theorem dJ6_bitCount_0f7a4_4 : decode cJ6_bitCount_0f7a4 4 = .ok (.ldc_w 265, 3) := by decide +kernel
theorem dJ6_bitCount_0f7a4_7 : decode cJ6_bitCount_0f7a4 7 = .ok (.iand, 1) := by decide +kernel
theorem dJ6_bitCount_0f7a4_8 : decode cJ6_bitCount_0f7a4 8 = .ok (.isub, 1) := by decide +kernel
theorem dJ6_bitCount_0f7a4_9 : decode cJ6_bitCount_0f7a4 9 = .ok (.istore_n 0, 1) := by decide +kernel
theorem dJ6_bitCount_0f7a4_10 : decode cJ6_bitCount_0f7a4 10 = .ok (.iload_n 0, 1) := by decide +kernel
theorem dJ6_bitCount_0f7a4_11 : decode cJ6_bitCount_0f7a4 11 = .ok (.ldc_w 266, 3) := by decide +kernel
theorem dJ6_bitCount_0f7a4_14 : decode cJ6_bitCount_0f7a4 14 = .ok (.iand, 1) := by decide +kernel
theorem dJ6_bitCount_0f7a4_15 : decode cJ6_bitCount_0f7a4 15 = .ok (.iload_n 0, 1) := by decide +kernel
theorem dJ6_bitCount_0f7a4_16 : decode cJ6_bitCount_0f7a4 16 = .ok (.iconst 2, 1) := by decide +kernel
theorem dJ6_bitCount_0f7a4_17 : decode cJ6_bitCount_0f7a4 17 = .ok (.iushr, 1) := by decide +kernel
theorem dJ6_bitCount_0f7a4_18 : decode cJ6_bitCount_0f7a4 18 = .ok (.ldc_w 266, 3) := by decide +kernel
theorem dJ6_bitCount_0f7a4_21 : decode cJ6_bitCount_0f7a4 21 = .ok (.iand, 1) := by decide +kernel
theorem dJ6_bitCount_0f7a4_22 : decode cJ6_bitCount_0f7a4 22 = .ok (.iadd, 1) := by decide +kernel
theorem dJ6_bitCount_0f7a4_23 : decode cJ6_bitCount_0f7a4 23 = .ok (.istore_n 0, 1) := by decide +kernel
theorem dJ6_bitCount_0f7a4_24 : decode cJ6_bitCount_0f7a4 24 = .ok (.iload_n 0, 1) := by decide +kernel
theorem dJ6_bitCount_0f7a4_25 : decode cJ6_bitCount_0f7a4 25 = .ok (.iload_n 0, 1) := by decide +kernel
theorem dJ6_bitCount_0f7a4_26 : decode cJ6_bitCount_0f7a4 26 = .ok (.iconst 4, 1) := by decide +kernel
theorem dJ6_bitCount_0f7a4_27 : decode cJ6_bitCount_0f7a4 27 = .ok (.iushr, 1) := by decide +kernel
theorem dJ6_bitCount_0f7a4_28 : decode cJ6_bitCount_0f7a4 28 = .ok (.iadd, 1) := by decide +kernel
theorem dJ6_bitCount_0f7a4_29 : decode cJ6_bitCount_0f7a4 29 = .ok (.ldc_w 267, 3) := by decide +kernel
theorem dJ6_bitCount_0f7a4_32 : decode cJ6_bitCount_0f7a4 32 = .ok (.iand, 1) := by decide +kernel
theorem dJ6_bitCount_0f7a4_33 : decode cJ6_bitCount_0f7a4 33 = .ok (.istore_n 0, 1) := by decide +kernel
theorem dJ6_bitCount_0f7a4_34 : decode cJ6_bitCount_0f7a4 34 = .ok (.iload_n 0, 1) := by decide +kernel
theorem dJ6_bitCount_0f7a4_35 : decode cJ6_bitCount_0f7a4 35 = .ok (.iload_n 0, 1) := by decide +kernel
theorem dJ6_bitCount_0f7a4_36 : decode cJ6_bitCount_0f7a4 36 = .ok (.bipush 8, 2) := by decide +kernel
theorem dJ6_bitCount_0f7a4_38 : decode cJ6_bitCount_0f7a4 38 = .ok (.iushr, 1) := by decide +kernel
theorem dJ6_bitCount_0f7a4_39 : decode cJ6_bitCount_0f7a4 39 = .ok (.iadd, 1) := by decide +kernel
theorem dJ6_bitCount_0f7a4_40 : decode cJ6_bitCount_0f7a4 40 = .ok (.istore_n 0, 1) := by decide +kernel
theorem dJ6_bitCount_0f7a4_41 : decode cJ6_bitCount_0f7a4 41 = .ok (.iload_n 0, 1) := by decide +kernel
theorem dJ6_bitCount_0f7a4_42 : decode cJ6_bitCount_0f7a4 42 = .ok (.iload_n 0, 1) := by decide +kernel
theorem dJ6_bitCount_0f7a4_43 : decode cJ6_bitCount_0f7a4 43 = .ok (.bipush 16, 2) := by decide +kernel
theorem dJ6_bitCount_0f7a4_45 : decode cJ6_bitCount_0f7a4 45 = .ok (.iushr, 1) := by decide +kernel
theorem dJ6_bitCount_0f7a4_46 : decode cJ6_bitCount_0f7a4 46 = .ok (.iadd, 1) := by decide +kernel
theorem dJ6_bitCount_0f7a4_47 : decode cJ6_bitCount_0f7a4 47 = .ok (.istore_n 0, 1) := by decide +kernel
theorem dJ6_bitCount_0f7a4_48 : decode cJ6_bitCount_0f7a4 48 = .ok (.iload_n 0, 1) := by decide +kernel
theorem dJ6_bitCount_0f7a4_49 : decode cJ6_bitCount_0f7a4 49 = .ok (.bipush 63, 2) := by decide +kernel
theorem dJ6_bitCount_0f7a4_51 : decode cJ6_bitCount_0f7a4 51 = .ok (.iand, 1) := by decide +kernel
theorem dJ6_bitCount_0f7a4_52 : decode cJ6_bitCount_0f7a4 52 = .ok (.ireturn, 1) := by decide +kernel
theorem dJ9_abs_0f7a4_0 : decode cJ9_abs_0f7a4 0 = .ok (.iload_n 0, 1) := by decide +kernel
theorem dJ9_abs_0f7a4_1 : decode cJ9_abs_0f7a4 1 = .ok (.ifCond .ge 8, 3) := by decide +kernel
theorem dJ9_abs_0f7a4_4 : decode cJ9_abs_0f7a4 4 = .ok (.iload_n 0, 1) := by decide +kernel
theorem dJ9_abs_0f7a4_5 : decode cJ9_abs_0f7a4 5 = .ok (.ineg, 1) := by decide +kernel
theorem dJ9_abs_0f7a4_6 : decode cJ9_abs_0f7a4 6 = .ok (.goto 4, 3) := by decide +kernel
theorem dJ9_abs_0f7a4_9 : decode cJ9_abs_0f7a4 9 = .ok (.iload_n 0, 1) := by decide +kernel
theorem dJ9_abs_0f7a4_10 : decode cJ9_abs_0f7a4 10 = .ok (.ireturn, 1) := by decide +kernel
theorem dJ9_max_7cf53_0 : decode cJ9_max_7cf53 0 = .ok (.iload_n 0, 1) := by decide +kernel
theorem dJ9_max_7cf53_1 : decode cJ9_max_7cf53 1 = .ok (.iload_n 1, 1) := by decide +kernel
theorem dJ9_max_7cf53_2 : decode cJ9_max_7cf53 2 = .ok (.if_icmp .lt 7, 3) := by decide +kernel
theorem dJ9_max_7cf53_5 : decode cJ9_max_7cf53 5 = .ok (.iload_n 0, 1) := by decide +kernel
theorem dJ9_max_7cf53_6 : decode cJ9_max_7cf53 6 = .ok (.goto 4, 3) := by decide +kernel
theorem dJ9_max_7cf53_9 : decode cJ9_max_7cf53 9 = .ok (.iload_n 1, 1) := by decide +kernel
theorem dJ9_max_7cf53_10 : decode cJ9_max_7cf53 10 = .ok (.ireturn, 1) := by decide +kernel
theorem dJ9_min_7cf53_0 : decode cJ9_min_7cf53 0 = .ok (.iload_n 0, 1) := by decide +kernel
theorem dJ9_min_7cf53_1 : decode cJ9_min_7cf53 1 = .ok (.iload_n 1, 1) := by decide +kernel
theorem dJ9_min_7cf53_2 : decode cJ9_min_7cf53 2 = .ok (.if_icmp .gt 7, 3) := by decide +kernel
theorem dJ9_min_7cf53_5 : decode cJ9_min_7cf53 5 = .ok (.iload_n 0, 1) := by decide +kernel
theorem dJ9_min_7cf53_6 : decode cJ9_min_7cf53 6 = .ok (.goto 4, 3) := by decide +kernel
theorem dJ9_min_7cf53_9 : decode cJ9_min_7cf53 9 = .ok (.iload_n 1, 1) := by decide +kernel
theorem dJ9_min_7cf53_10 : decode cJ9_min_7cf53 10 = .ok (.ireturn, 1) := by decide +kernel
theorem dJ0_length_8abf5_0 : decode cJ0_length_8abf5 0 = .ok (.aload_n 0, 1) := by decide +kernel
theorem dJ0_length_8abf5_1 : decode cJ0_length_8abf5 1 = .ok (.getfield 9, 3) := by decide +kernel
theorem dJ0_length_8abf5_4 : decode cJ0_length_8abf5 4 = .ok (.arraylength, 1) := by decide +kernel
theorem dJ0_length_8abf5_5 : decode cJ0_length_8abf5 5 = .ok (.aload_n 0, 1) := by decide +kernel
theorem dJ0_length_8abf5_6 : decode cJ0_length_8abf5 6 = .ok (.invokevirtual 335, 3) := by decide +kernel
theorem dJ0_length_8abf5_9 : decode cJ0_length_8abf5 9 = .ok (.ishr, 1) := by decide +kernel
theorem dJ0_length_8abf5_10 : decode cJ0_length_8abf5 10 = .ok (.ireturn, 1) := by decide +kernel
theorem dJ0_charAt_5068e_0 : decode cJ0_charAt_5068e 0 = .ok (.aload_n 0, 1) := by decide +kernel
theorem dJ0_charAt_5068e_1 : decode cJ0_charAt_5068e 1 = .ok (.invokevirtual 492, 3) := by decide +kernel
theorem dJ0_charAt_5068e_4 : decode cJ0_charAt_5068e 4 = .ok (.ifCond .eq 12, 3) := by decide +kernel
theorem dJ0_charAt_5068e_7 : decode cJ0_charAt_5068e 7 = .ok (.aload_n 0, 1) := by decide +kernel
theorem dJ0_charAt_5068e_8 : decode cJ0_charAt_5068e 8 = .ok (.getfield 9, 3) := by decide +kernel
theorem dJ0_charAt_5068e_11 : decode cJ0_charAt_5068e 11 = .ok (.iload_n 1, 1) := by decide +kernel
theorem dJ0_charAt_5068e_12 : decode cJ0_charAt_5068e 12 = .ok (.invokestatic 495, 3) := by decide +kernel
theorem dJ0_charAt_5068e_15 : decode cJ0_charAt_5068e 15 = .ok (.ireturn, 1) := by decide +kernel
theorem dJ0_charAt_5068e_16 : decode cJ0_charAt_5068e 16 = .ok (.aload_n 0, 1) := by decide +kernel
theorem dJ0_charAt_5068e_17 : decode cJ0_charAt_5068e 17 = .ok (.getfield 9, 3) := by decide +kernel
theorem dJ0_charAt_5068e_20 : decode cJ0_charAt_5068e 20 = .ok (.iload_n 1, 1) := by decide +kernel
theorem dJ0_charAt_5068e_21 : decode cJ0_charAt_5068e 21 = .ok (.invokestatic 498, 3) := by decide +kernel
theorem dJ0_charAt_5068e_24 : decode cJ0_charAt_5068e 24 = .ok (.ireturn, 1) := by decide +kernel
theorem dJ0_coder_7d493_0 : decode cJ0_coder_7d493 0 = .ok (.getstatic 38, 3) := by decide +kernel
theorem dJ0_coder_7d493_3 : decode cJ0_coder_7d493 3 = .ok (.ifCond .eq 10, 3) := by decide +kernel
theorem dJ0_coder_7d493_6 : decode cJ0_coder_7d493 6 = .ok (.aload_n 0, 1) := by decide +kernel
theorem dJ0_coder_7d493_7 : decode cJ0_coder_7d493 7 = .ok (.getfield 15, 3) := by decide +kernel
theorem dJ0_coder_7d493_10 : decode cJ0_coder_7d493 10 = .ok (.goto 4, 3) := by decide +kernel
theorem dJ0_coder_7d493_13 : decode cJ0_coder_7d493 13 = .ok (.iconst 1, 1) := by decide +kernel
theorem dJ0_coder_7d493_14 : decode cJ0_coder_7d493 14 = .ok (.ireturn, 1) := by decide +kernel
theorem dJ0_isLatin1_aae02_0 : decode cJ0_isLatin1_aae02 0 = .ok (.getstatic 38, 3) := by decide +kernel
theorem dJ0_isLatin1_aae02_3 : decode cJ0_isLatin1_aae02 3 = .ok (.ifCond .eq 14, 3) := by decide +kernel
theorem dJ0_isLatin1_aae02_6 : decode cJ0_isLatin1_aae02 6 = .ok (.aload_n 0, 1) := by decide +kernel
theorem dJ0_isLatin1_aae02_7 : decode cJ0_isLatin1_aae02 7 = .ok (.getfield 15, 3) := by decide +kernel
theorem dJ0_isLatin1_aae02_10 : decode cJ0_isLatin1_aae02 10 = .ok (.ifCond .ne 7, 3) := by decide +kernel
theorem dJ0_isLatin1_aae02_13 : decode cJ0_isLatin1_aae02 13 = .ok (.iconst 1, 1) := by decide +kernel
theorem dJ0_isLatin1_aae02_14 : decode cJ0_isLatin1_aae02 14 = .ok (.goto 4, 3) := by decide +kernel
theorem dJ0_isLatin1_aae02_17 : decode cJ0_isLatin1_aae02 17 = .ok (.iconst 0, 1) := by decide +kernel
theorem dJ0_isLatin1_aae02_18 : decode cJ0_isLatin1_aae02 18 = .ok (.ireturn, 1) := by decide +kernel
theorem dJ0_checkIndex_df160_0 : decode cJ0_checkIndex_df160 0 = .ok (.iload_n 0, 1) := by decide +kernel
theorem dJ0_checkIndex_df160_1 : decode cJ0_checkIndex_df160 1 = .ok (.iload_n 1, 1) := by decide +kernel
theorem dJ0_checkIndex_df160_2 : decode cJ0_checkIndex_df160 2 = .ok (.getstatic 1053, 3) := by decide +kernel
theorem dJ0_checkIndex_df160_5 : decode cJ0_checkIndex_df160 5 = .ok (.invokestatic 1059, 3) := by decide +kernel
theorem dJ0_checkIndex_df160_8 : decode cJ0_checkIndex_df160 8 = .ok (.pop, 1) := by decide +kernel
theorem dJ0_checkIndex_df160_9 : decode cJ0_checkIndex_df160 9 = .ok (.return_, 1) := by decide +kernel
theorem dJ1_charAt_3b067_0 : decode cJ1_charAt_3b067 0 = .ok (.iload_n 1, 1) := by decide +kernel
theorem dJ1_charAt_3b067_1 : decode cJ1_charAt_3b067 1 = .ok (.aload_n 0, 1) := by decide +kernel
theorem dJ1_charAt_3b067_2 : decode cJ1_charAt_3b067 2 = .ok (.arraylength, 1) := by decide +kernel
theorem dJ1_charAt_3b067_3 : decode cJ1_charAt_3b067 3 = .ok (.invokestatic 9, 3) := by decide +kernel
theorem dJ1_charAt_3b067_6 : decode cJ1_charAt_3b067 6 = .ok (.aload_n 0, 1) := by decide +kernel
theorem dJ1_charAt_3b067_7 : decode cJ1_charAt_3b067 7 = .ok (.iload_n 1, 1) := by decide +kernel
theorem dJ1_charAt_3b067_8 : decode cJ1_charAt_3b067 8 = .ok (.baload, 1) := by decide +kernel
theorem dJ1_charAt_3b067_9 : decode cJ1_charAt_3b067 9 = .ok (.sipush 255, 3) := by decide +kernel
theorem dJ1_charAt_3b067_12 : decode cJ1_charAt_3b067 12 = .ok (.iand, 1) := by decide +kernel
theorem dJ1_charAt_3b067_13 : decode cJ1_charAt_3b067 13 = .ok (.i2c, 1) := by decide +kernel
theorem dJ1_charAt_3b067_14 : decode cJ1_charAt_3b067 14 = .ok (.ireturn, 1) := by decide +kernel
theorem dJ2_getChar_3b067_0 : decode cJ2_getChar_3b067 0 = .ok (.getstatic 44, 3) := by decide +kernel
theorem dJ2_getChar_3b067_3 : decode cJ2_getChar_3b067 3 = .ok (.ifCond .ne 25, 3) := by decide +kernel
theorem dJ2_getChar_3b067_6 : decode cJ2_getChar_3b067 6 = .ok (.iload_n 1, 1) := by decide +kernel
theorem dJ2_getChar_3b067_7 : decode cJ2_getChar_3b067 7 = .ok (.ifCond .lt 11, 3) := by decide +kernel
theorem dJ2_getChar_3b067_10 : decode cJ2_getChar_3b067 10 = .ok (.iload_n 1, 1) := by decide +kernel
theorem dJ2_getChar_3b067_11 : decode cJ2_getChar_3b067 11 = .ok (.aload_n 0, 1) := by decide +kernel
theorem dJ2_getChar_3b067_12 : decode cJ2_getChar_3b067 12 = .ok (.invokestatic 48, 3) := by decide +kernel
theorem dJ2_getChar_3b067_15 : decode cJ2_getChar_3b067 15 = .ok (.if_icmp .lt 13, 3) := by decide +kernel
theorem dJ2_getChar_3b067_18 : decode cJ2_getChar_3b067 18 = .ok (.new 52, 3) := by decide +kernel
theorem dJ2_getChar_3b067_21 : decode cJ2_getChar_3b067 21 = .ok (.dup, 1) := by decide +kernel
theorem dJ2_getChar_3b067_22 : decode cJ2_getChar_3b067 22 = .ok (.ldc 54, 2) := by decide +kernel
theorem dJ2_getChar_3b067_24 : decode cJ2_getChar_3b067 24 = .ok (.invokespecial 56, 3) := by decide +kernel
theorem dJ2_getChar_3b067_27 : decode cJ2_getChar_3b067 27 = .ok (.athrow, 1) := by decide +kernel
theorem dJ2_getChar_3b067_28 : decode cJ2_getChar_3b067 28 = .ok (.iload_n 1, 1) := by decide +kernel
theorem dJ2_getChar_3b067_29 : decode cJ2_getChar_3b067 29 = .ok (.iconst 1, 1) := by decide +kernel
theorem dJ2_getChar_3b067_30 : decode cJ2_getChar_3b067 30 = .ok (.ishl, 1) := by decide +kernel
theorem dJ2_getChar_3b067_31 : decode cJ2_getChar_3b067 31 = .ok (.istore_n 1, 1) := by decide +kernel
theorem dJ2_getChar_3b067_32 : decode cJ2_getChar_3b067 32 = .ok (.aload_n 0, 1) := by decide +kernel
theorem dJ2_getChar_3b067_33 : decode cJ2_getChar_3b067 33 = .ok (.iload_n 1, 1) := by decide +kernel
theorem dJ2_getChar_3b067_34 : decode cJ2_getChar_3b067 34 = .ok (.iinc 1 1, 3) := by decide +kernel
theorem dJ2_getChar_3b067_37 : decode cJ2_getChar_3b067 37 = .ok (.baload, 1) := by decide +kernel
theorem dJ2_getChar_3b067_38 : decode cJ2_getChar_3b067 38 = .ok (.sipush 255, 3) := by decide +kernel
theorem dJ2_getChar_3b067_41 : decode cJ2_getChar_3b067 41 = .ok (.iand, 1) := by decide +kernel
theorem dJ2_getChar_3b067_42 : decode cJ2_getChar_3b067 42 = .ok (.getstatic 59, 3) := by decide +kernel
theorem dJ2_getChar_3b067_45 : decode cJ2_getChar_3b067 45 = .ok (.ishl, 1) := by decide +kernel
theorem dJ2_getChar_3b067_46 : decode cJ2_getChar_3b067 46 = .ok (.aload_n 0, 1) := by decide +kernel
theorem dJ2_getChar_3b067_47 : decode cJ2_getChar_3b067 47 = .ok (.iload_n 1, 1) := by decide +kernel
theorem dJ2_getChar_3b067_48 : decode cJ2_getChar_3b067 48 = .ok (.baload, 1) := by decide +kernel
theorem dJ2_getChar_3b067_49 : decode cJ2_getChar_3b067 49 = .ok (.sipush 255, 3) := by decide +kernel
theorem dJ2_getChar_3b067_52 : decode cJ2_getChar_3b067 52 = .ok (.iand, 1) := by decide +kernel
theorem dJ2_getChar_3b067_53 : decode cJ2_getChar_3b067 53 = .ok (.getstatic 63, 3) := by decide +kernel
theorem dJ2_getChar_3b067_56 : decode cJ2_getChar_3b067 56 = .ok (.ishl, 1) := by decide +kernel
theorem dJ2_getChar_3b067_57 : decode cJ2_getChar_3b067 57 = .ok (.ior, 1) := by decide +kernel
theorem dJ2_getChar_3b067_58 : decode cJ2_getChar_3b067 58 = .ok (.i2c, 1) := by decide +kernel
theorem dJ2_getChar_3b067_59 : decode cJ2_getChar_3b067 59 = .ok (.ireturn, 1) := by decide +kernel
theorem dJ2_length_9d52b_0 : decode cJ2_length_9d52b 0 = .ok (.aload_n 0, 1) := by decide +kernel
theorem dJ2_length_9d52b_1 : decode cJ2_length_9d52b 1 = .ok (.arraylength, 1) := by decide +kernel
theorem dJ2_length_9d52b_2 : decode cJ2_length_9d52b 2 = .ok (.iconst 1, 1) := by decide +kernel
theorem dJ2_length_9d52b_3 : decode cJ2_length_9d52b 3 = .ok (.ishr, 1) := by decide +kernel
theorem dJ2_length_9d52b_4 : decode cJ2_length_9d52b 4 = .ok (.ireturn, 1) := by decide +kernel
theorem dJ2_charAt_3b067_0 : decode cJ2_charAt_3b067 0 = .ok (.iload_n 1, 1) := by decide +kernel
theorem dJ2_charAt_3b067_1 : decode cJ2_charAt_3b067 1 = .ok (.aload_n 0, 1) := by decide +kernel
theorem dJ2_charAt_3b067_2 : decode cJ2_charAt_3b067 2 = .ok (.invokestatic 67, 3) := by decide +kernel
theorem dJ2_charAt_3b067_5 : decode cJ2_charAt_3b067 5 = .ok (.aload_n 0, 1) := by decide +kernel
theorem dJ2_charAt_3b067_6 : decode cJ2_charAt_3b067 6 = .ok (.iload_n 1, 1) := by decide +kernel
theorem dJ2_charAt_3b067_7 : decode cJ2_charAt_3b067 7 = .ok (.invokestatic 71, 3) := by decide +kernel
theorem dJ2_charAt_3b067_10 : decode cJ2_charAt_3b067 10 = .ok (.ireturn, 1) := by decide +kernel
theorem dJ2_checkIndex_2214a_0 : decode cJ2_checkIndex_2214a 0 = .ok (.iload_n 0, 1) := by decide +kernel
theorem dJ2_checkIndex_2214a_1 : decode cJ2_checkIndex_2214a 1 = .ok (.aload_n 1, 1) := by decide +kernel
theorem dJ2_checkIndex_2214a_2 : decode cJ2_checkIndex_2214a 2 = .ok (.invokestatic 48, 3) := by decide +kernel
theorem dJ2_checkIndex_2214a_5 : decode cJ2_checkIndex_2214a 5 = .ok (.invokestatic 414, 3) := by decide +kernel
theorem dJ2_checkIndex_2214a_8 : decode cJ2_checkIndex_2214a 8 = .ok (.return_, 1) := by decide +kernel
theorem dJ3_checkIndex_8e157_0 : decode cJ3_checkIndex_8e157 0 = .ok (.iload_n 0, 1) := by decide +kernel
theorem dJ3_checkIndex_8e157_1 : decode cJ3_checkIndex_8e157 1 = .ok (.ifCond .lt 8, 3) := by decide +kernel
theorem dJ3_checkIndex_8e157_4 : decode cJ3_checkIndex_8e157 4 = .ok (.iload_n 0, 1) := by decide +kernel
theorem dJ3_checkIndex_8e157_5 : decode cJ3_checkIndex_8e157 5 = .ok (.iload_n 1, 1) := by decide +kernel
theorem dJ3_checkIndex_8e157_6 : decode cJ3_checkIndex_8e157 6 = .ok (.if_icmp .lt 10, 3) := by decide +kernel
theorem dJ3_checkIndex_8e157_9 : decode cJ3_checkIndex_8e157 9 = .ok (.aload_n 2, 1) := by decide +kernel
theorem dJ3_checkIndex_8e157_10 : decode cJ3_checkIndex_8e157 10 = .ok (.iload_n 0, 1) := by decide +kernel
theorem dJ3_checkIndex_8e157_11 : decode cJ3_checkIndex_8e157 11 = .ok (.iload_n 1, 1) := by decide +kernel
theorem dJ3_checkIndex_8e157_12 : decode cJ3_checkIndex_8e157 12 = .ok (.invokestatic 95, 3) := by decide +kernel
theorem dJ3_checkIndex_8e157_15 : decode cJ3_checkIndex_8e157 15 = .ok (.athrow, 1) := by decide +kernel
theorem dJ3_checkIndex_8e157_16 : decode cJ3_checkIndex_8e157 16 = .ok (.iload_n 0, 1) := by decide +kernel
theorem dJ3_checkIndex_8e157_17 : decode cJ3_checkIndex_8e157 17 = .ok (.ireturn, 1) := by decide +kernel
theorem dL_land_0 : decode cL_land 0 = .ok (.aload_n 3, 1) := by decide +kernel
theorem dL_land_1 : decode cL_land 1 = .ok (.iconst 0, 1) := by decide +kernel
theorem dL_land_2 : decode cL_land 2 = .ok (.aload_n 0, 1) := by decide +kernel
theorem dL_land_3 : decode cL_land 3 = .ok (.iload_n 1, 1) := by decide +kernel
theorem dL_land_4 : decode cL_land 4 = .ok (.iload_n 2, 1) := by decide +kernel
theorem dL_land_5 : decode cL_land 5 = .ok (.invokevirtual 7, 3) := by decide +kernel
theorem dL_land_8 : decode cL_land 8 = .ok (.i2l, 1) := by decide +kernel
theorem dL_land_9 : decode cL_land 9 = .ok (.lastore, 1) := by decide +kernel
theorem dL_land_10 : decode cL_land 10 = .ok (.goto 11, 3) := by decide +kernel
theorem dL_land_13 : decode cL_land 13 = .ok (.astore 4, 2) := by decide +kernel
theorem dL_land_15 : decode cL_land 15 = .ok (.iconst 1, 1) := by decide +kernel
theorem dL_land_16 : decode cL_land 16 = .ok (.ireturn, 1) := by decide +kernel
theorem dL_land_17 : decode cL_land 17 = .ok (.astore 4, 2) := by decide +kernel
theorem dL_land_19 : decode cL_land 19 = .ok (.iconst 2, 1) := by decide +kernel
theorem dL_land_20 : decode cL_land 20 = .ok (.ireturn, 1) := by decide +kernel
theorem dL_land_21 : decode cL_land 21 = .ok (.iconst 0, 1) := by decide +kernel
theorem dL_land_22 : decode cL_land 22 = .ok (.ireturn, 1) := by decide +kernel
theorem dL_count_0 : decode cL_count 0 = .ok (.aload_n 2, 1) := by decide +kernel
theorem dL_count_1 : decode cL_count 1 = .ok (.iconst 0, 1) := by decide +kernel
theorem dL_count_2 : decode cL_count 2 = .ok (.aload_n 0, 1) := by decide +kernel
theorem dL_count_3 : decode cL_count 3 = .ok (.iload_n 1, 1) := by decide +kernel
theorem dL_count_4 : decode cL_count 4 = .ok (.invokevirtual 17, 3) := by decide +kernel
theorem dL_count_7 : decode cL_count 7 = .ok (.i2l, 1) := by decide +kernel
theorem dL_count_8 : decode cL_count 8 = .ok (.lastore, 1) := by decide +kernel
theorem dL_count_9 : decode cL_count 9 = .ok (.goto 6, 3) := by decide +kernel
theorem dL_count_12 : decode cL_count 12 = .ok (.astore_n 3, 1) := by decide +kernel
theorem dL_count_13 : decode cL_count 13 = .ok (.iconst 1, 1) := by decide +kernel
theorem dL_count_14 : decode cL_count 14 = .ok (.ireturn, 1) := by decide +kernel
theorem dL_count_15 : decode cL_count 15 = .ok (.iconst 0, 1) := by decide +kernel
theorem dL_count_16 : decode cL_count 16 = .ok (.ireturn, 1) := by decide +kernel
theorem dL_about_0 : decode cL_about 0 = .ok (.aload_n 3, 1) := by decide +kernel
theorem dL_about_1 : decode cL_about 1 = .ok (.iconst 0, 1) := by decide +kernel
theorem dL_about_2 : decode cL_about 2 = .ok (.aload_n 0, 1) := by decide +kernel
theorem dL_about_3 : decode cL_about 3 = .ok (.iload_n 1, 1) := by decide +kernel
theorem dL_about_4 : decode cL_about 4 = .ok (.iload_n 2, 1) := by decide +kernel
theorem dL_about_5 : decode cL_about 5 = .ok (.invokevirtual 21, 3) := by decide +kernel
theorem dL_about_8 : decode cL_about 8 = .ok (.i2l, 1) := by decide +kernel
theorem dL_about_9 : decode cL_about 9 = .ok (.lastore, 1) := by decide +kernel
theorem dL_about_10 : decode cL_about 10 = .ok (.goto 7, 3) := by decide +kernel
theorem dL_about_13 : decode cL_about 13 = .ok (.astore 4, 2) := by decide +kernel
theorem dL_about_15 : decode cL_about 15 = .ok (.iconst 1, 1) := by decide +kernel
theorem dL_about_16 : decode cL_about 16 = .ok (.ireturn, 1) := by decide +kernel
theorem dL_about_17 : decode cL_about 17 = .ok (.iconst 0, 1) := by decide +kernel
theorem dL_about_18 : decode cL_about 18 = .ok (.ireturn, 1) := by decide +kernel
theorem dL_clap_0 : decode cL_clap 0 = .ok (.aload 7, 2) := by decide +kernel
theorem dL_clap_2 : decode cL_clap 2 = .ok (.iconst 0, 1) := by decide +kernel
theorem dL_clap_3 : decode cL_clap 3 = .ok (.aload_n 0, 1) := by decide +kernel
