theorem dX11_gone_0 : decode cX11_gone 0 = .ok (.aload_n 0, 1) := by decide +kernel
theorem dX11_gone_1 : decode cX11_gone 1 = .ok (.iload_n 1, 1) := by decide +kernel
theorem dX11_gone_2 : decode cX11_gone 2 = .ok (.invokevirtual 84, 3) := by decide +kernel
theorem dX11_gone_5 : decode cX11_gone 5 = .ok (.astore_n 3, 1) := by decide +kernel
theorem dX11_gone_6 : decode cX11_gone 6 = .ok (.iload_n 2, 1) := by decide +kernel
theorem dX11_gone_7 : decode cX11_gone 7 = .ok (.invokestatic 253, 3) := by decide +kernel
theorem dX11_gone_10 : decode cX11_gone 10 = .ok (.aload_n 0, 1) := by decide +kernel
theorem dX11_gone_11 : decode cX11_gone 11 = .ok (.getfield 26, 3) := by decide +kernel
theorem dX11_gone_14 : decode cX11_gone 14 = .ok (.iload_n 2, 1) := by decide +kernel
theorem dX11_gone_15 : decode cX11_gone 15 = .ok (.invokevirtual 256, 3) := by decide +kernel
theorem dX11_gone_18 : decode cX11_gone 18 = .ok (.istore 4, 2) := by decide +kernel
theorem dX11_gone_20 : decode cX11_gone 20 = .ok (.iconst 0, 1) := by decide +kernel
theorem dX11_gone_21 : decode cX11_gone 21 = .ok (.istore 5, 2) := by decide +kernel
theorem dX11_gone_23 : decode cX11_gone 23 = .ok (.iload 5, 2) := by decide +kernel
theorem dX11_gone_25 : decode cX11_gone 25 = .ok (.iload 4, 2) := by decide +kernel
theorem dX11_gone_27 : decode cX11_gone 27 = .ok (.if_icmp .ge 48, 3) := by decide +kernel
theorem dX11_gone_30 : decode cX11_gone 30 = .ok (.aload_n 0, 1) := by decide +kernel
theorem dX11_gone_31 : decode cX11_gone 31 = .ok (.getfield 26, 3) := by decide +kernel
theorem dX11_gone_34 : decode cX11_gone 34 = .ok (.getfield 259, 3) := by decide +kernel
theorem dX11_gone_37 : decode cX11_gone 37 = .ok (.iload 5, 2) := by decide +kernel
theorem dX11_gone_39 : decode cX11_gone 39 = .ok (.aaload, 1) := by decide +kernel
theorem dX11_gone_40 : decode cX11_gone 40 = .ok (.astore 6, 2) := by decide +kernel
theorem dX11_gone_42 : decode cX11_gone 42 = .ok (.aload_n 0, 1) := by decide +kernel
theorem dX11_gone_43 : decode cX11_gone 43 = .ok (.getfield 44, 3) := by decide +kernel
theorem dX11_gone_46 : decode cX11_gone 46 = .ok (.iload 5, 2) := by decide +kernel
theorem dX11_gone_48 : decode cX11_gone 48 = .ok (.aaload, 1) := by decide +kernel
theorem dX11_gone_49 : decode cX11_gone 49 = .ok (.aload_n 3, 1) := by decide +kernel
theorem dX11_gone_50 : decode cX11_gone 50 = .ok (.aload 6, 2) := by decide +kernel
theorem dX11_gone_52 : decode cX11_gone 52 = .ok (.getfield 197, 3) := by decide +kernel
theorem dX11_gone_55 : decode cX11_gone 55 = .ok (.aload 6, 2) := by decide +kernel
theorem dX11_gone_57 : decode cX11_gone 57 = .ok (.getfield 200, 3) := by decide +kernel
theorem dX11_gone_60 : decode cX11_gone 60 = .ok (.iload_n 2, 1) := by decide +kernel
theorem dX11_gone_61 : decode cX11_gone 61 = .ok (.aload 6, 2) := by decide +kernel
theorem dX11_gone_63 : decode cX11_gone 63 = .ok (.getfield 206, 3) := by decide +kernel
theorem dX11_gone_66 : decode cX11_gone 66 = .ok (.invokevirtual 141, 3) := by decide +kernel
theorem dX11_gone_69 : decode cX11_gone 69 = .ok (.iinc 5 1, 3) := by decide +kernel
theorem dX11_gone_72 : decode cX11_gone 72 = .ok (.goto (-49), 3) := by decide +kernel
theorem dX11_gone_75 : decode cX11_gone 75 = .ok (.aload_n 3, 1) := by decide +kernel
theorem dX11_gone_76 : decode cX11_gone 76 = .ok (.getfield 123, 3) := by decide +kernel
theorem dX11_gone_79 : decode cX11_gone 79 = .ok (.aload_n 3, 1) := by decide +kernel
theorem dX11_gone_80 : decode cX11_gone 80 = .ok (.getfield 120, 3) := by decide +kernel
theorem dX11_gone_83 : decode cX11_gone 83 = .ok (.iadd, 1) := by decide +kernel
theorem dX11_gone_84 : decode cX11_gone 84 = .ok (.istore 5, 2) := by decide +kernel
theorem dX11_gone_86 : decode cX11_gone 86 = .ok (.iconst 0, 1) := by decide +kernel
theorem dX11_gone_87 : decode cX11_gone 87 = .ok (.istore 6, 2) := by decide +kernel
theorem dX11_gone_89 : decode cX11_gone 89 = .ok (.iconst 0, 1) := by decide +kernel
theorem dX11_gone_90 : decode cX11_gone 90 = .ok (.istore 7, 2) := by decide +kernel
theorem dX11_gone_92 : decode cX11_gone 92 = .ok (.iload 7, 2) := by decide +kernel
theorem dX11_gone_94 : decode cX11_gone 94 = .ok (.iload 5, 2) := by decide +kernel
theorem dX11_gone_96 : decode cX11_gone 96 = .ok (.if_icmp .gt 70, 3) := by decide +kernel
theorem dX11_gone_99 : decode cX11_gone 99 = .ok (.iconst 0, 1) := by decide +kernel
theorem dX11_gone_100 : decode cX11_gone 100 = .ok (.istore 8, 2) := by decide +kernel
theorem dX11_gone_102 : decode cX11_gone 102 = .ok (.iload 8, 2) := by decide +kernel
theorem dX11_gone_104 : decode cX11_gone 104 = .ok (.iconst 1, 1) := by decide +kernel
theorem dX11_gone_105 : decode cX11_gone 105 = .ok (.iload 5, 2) := by decide +kernel
theorem dX11_gone_107 : decode cX11_gone 107 = .ok (.ishl, 1) := by decide +kernel
theorem dX11_gone_108 : decode cX11_gone 108 = .ok (.if_icmp .ge 52, 3) := by decide +kernel
theorem dX11_gone_111 : decode cX11_gone 111 = .ok (.iload 8, 2) := by decide +kernel
theorem dX11_gone_113 : decode cX11_gone 113 = .ok (.invokestatic 262, 3) := by decide +kernel
theorem dX11_gone_116 : decode cX11_gone 116 = .ok (.iload 7, 2) := by decide +kernel
theorem dX11_gone_118 : decode cX11_gone 118 = .ok (.if_icmp .ne 36, 3) := by decide +kernel
theorem dX11_gone_121 : decode cX11_gone 121 = .ok (.iload 8, 2) := by decide +kernel
theorem dX11_gone_123 : decode cX11_gone 123 = .ok (.aload_n 3, 1) := by decide +kernel
theorem dX11_gone_124 : decode cX11_gone 124 = .ok (.getfield 123, 3) := by decide +kernel
theorem dX11_gone_127 : decode cX11_gone 127 = .ok (.invokestatic 267, 3) := by decide +kernel
theorem dX11_gone_130 : decode cX11_gone 130 = .ok (.istore 9, 2) := by decide +kernel
theorem dX11_gone_132 : decode cX11_gone 132 = .ok (.aload_n 0, 1) := by decide +kernel
theorem dX11_gone_133 : decode cX11_gone 133 = .ok (.aload_n 3, 1) := by decide +kernel
theorem dX11_gone_134 : decode cX11_gone 134 = .ok (.iload 9, 2) := by decide +kernel
theorem dX11_gone_136 : decode cX11_gone 136 = .ok (.iload 4, 2) := by decide +kernel
theorem dX11_gone_138 : decode cX11_gone 138 = .ok (.iload 6, 2) := by decide +kernel
theorem dX11_gone_140 : decode cX11_gone 140 = .ok (.invokevirtual 270, 3) := by decide +kernel
theorem dX11_gone_143 : decode cX11_gone 143 = .ok (.istore 6, 2) := by decide +kernel
theorem dX11_gone_145 : decode cX11_gone 145 = .ok (.iload 6, 2) := by decide +kernel
theorem dX11_gone_147 : decode cX11_gone 147 = .ok (.iconst (-1), 1) := by decide +kernel
theorem dX11_gone_148 : decode cX11_gone 148 = .ok (.if_icmp .ne 6, 3) := by decide +kernel
theorem dX11_gone_151 : decode cX11_gone 151 = .ok (.iload 9, 2) := by decide +kernel
theorem dX11_gone_153 : decode cX11_gone 153 = .ok (.ireturn, 1) := by decide +kernel
theorem dX11_gone_154 : decode cX11_gone 154 = .ok (.iinc 8 1, 3) := by decide +kernel
theorem dX11_gone_157 : decode cX11_gone 157 = .ok (.goto (-55), 3) := by decide +kernel
theorem dX11_gone_160 : decode cX11_gone 160 = .ok (.iinc 7 1, 3) := by decide +kernel
theorem dX11_gone_163 : decode cX11_gone 163 = .ok (.goto (-71), 3) := by decide +kernel
theorem dX11_gone_166 : decode cX11_gone 166 = .ok (.iconst (-1), 1) := by decide +kernel
theorem dX11_gone_167 : decode cX11_gone 167 = .ok (.ireturn, 1) := by decide +kernel
theorem dX11_thingBits_0 : decode cX11_thingBits 0 = .ok (.iload_n 0, 1) := by decide +kernel
theorem dX11_thingBits_1 : decode cX11_thingBits 1 = .ok (.iconst 1, 1) := by decide +kernel
theorem dX11_thingBits_2 : decode cX11_thingBits 2 = .ok (.iload_n 1, 1) := by decide +kernel
theorem dX11_thingBits_3 : decode cX11_thingBits 3 = .ok (.ishl, 1) := by decide +kernel
theorem dX11_thingBits_4 : decode cX11_thingBits 4 = .ok (.iconst 1, 1) := by decide +kernel
theorem dX11_thingBits_5 : decode cX11_thingBits 5 = .ok (.isub, 1) := by decide +kernel
theorem dX11_thingBits_6 : decode cX11_thingBits 6 = .ok (.iand, 1) := by decide +kernel
theorem dX11_thingBits_7 : decode cX11_thingBits 7 = .ok (.iload_n 0, 1) := by decide +kernel
theorem dX11_thingBits_8 : decode cX11_thingBits 8 = .ok (.iload_n 1, 1) := by decide +kernel
theorem dX11_thingBits_9 : decode cX11_thingBits 9 = .ok (.iushr, 1) := by decide +kernel
theorem dX11_thingBits_10 : decode cX11_thingBits 10 = .ok (.bipush 8, 2) := by decide +kernel
theorem dX11_thingBits_12 : decode cX11_thingBits 12 = .ok (.ishl, 1) := by decide +kernel
theorem dX11_thingBits_13 : decode cX11_thingBits 13 = .ok (.ior, 1) := by decide +kernel
theorem dX11_thingBits_14 : decode cX11_thingBits 14 = .ok (.ireturn, 1) := by decide +kernel
theorem dX11_firstMisfit_0 : decode cX11_firstMisfit 0 = .ok (.iconst 0, 1) := by decide +kernel
theorem dX11_firstMisfit_1 : decode cX11_firstMisfit 1 = .ok (.istore 5, 2) := by decide +kernel
theorem dX11_firstMisfit_3 : decode cX11_firstMisfit 3 = .ok (.iload 5, 2) := by decide +kernel
theorem dX11_firstMisfit_5 : decode cX11_firstMisfit 5 = .ok (.iload_n 3, 1) := by decide +kernel
theorem dX11_firstMisfit_6 : decode cX11_firstMisfit 6 = .ok (.if_icmp .ge 75, 3) := by decide +kernel
theorem dX11_firstMisfit_9 : decode cX11_firstMisfit 9 = .ok (.iload 4, 2) := by decide +kernel
theorem dX11_firstMisfit_11 : decode cX11_firstMisfit 11 = .ok (.iload 5, 2) := by decide +kernel
theorem dX11_firstMisfit_13 : decode cX11_firstMisfit 13 = .ok (.iadd, 1) := by decide +kernel
theorem dX11_firstMisfit_14 : decode cX11_firstMisfit 14 = .ok (.iload_n 3, 1) := by decide +kernel
theorem dX11_firstMisfit_15 : decode cX11_firstMisfit 15 = .ok (.if_icmp .ge 11, 3) := by decide +kernel
theorem dX11_firstMisfit_18 : decode cX11_firstMisfit 18 = .ok (.iload 4, 2) := by decide +kernel
theorem dX11_firstMisfit_20 : decode cX11_firstMisfit 20 = .ok (.iload 5, 2) := by decide +kernel
theorem dX11_firstMisfit_22 : decode cX11_firstMisfit 22 = .ok (.iadd, 1) := by decide +kernel
theorem dX11_firstMisfit_23 : decode cX11_firstMisfit 23 = .ok (.goto 10, 3) := by decide +kernel
theorem dX11_firstMisfit_26 : decode cX11_firstMisfit 26 = .ok (.iload 4, 2) := by decide +kernel
theorem dX11_firstMisfit_28 : decode cX11_firstMisfit 28 = .ok (.iload 5, 2) := by decide +kernel
theorem dX11_firstMisfit_30 : decode cX11_firstMisfit 30 = .ok (.iadd, 1) := by decide +kernel
theorem dX11_firstMisfit_31 : decode cX11_firstMisfit 31 = .ok (.iload_n 3, 1) := by decide +kernel
theorem dX11_firstMisfit_32 : decode cX11_firstMisfit 32 = .ok (.isub, 1) := by decide +kernel
theorem dX11_firstMisfit_33 : decode cX11_firstMisfit 33 = .ok (.istore 6, 2) := by decide +kernel
theorem dX11_firstMisfit_35 : decode cX11_firstMisfit 35 = .ok (.aload_n 0, 1) := by decide +kernel
theorem dX11_firstMisfit_36 : decode cX11_firstMisfit 36 = .ok (.getfield 51, 3) := by decide +kernel
theorem dX11_firstMisfit_39 : decode cX11_firstMisfit 39 = .ok (.aload_n 0, 1) := by decide +kernel
theorem dX11_firstMisfit_40 : decode cX11_firstMisfit 40 = .ok (.getfield 44, 3) := by decide +kernel
theorem dX11_firstMisfit_43 : decode cX11_firstMisfit 43 = .ok (.iload 6, 2) := by decide +kernel
theorem dX11_firstMisfit_45 : decode cX11_firstMisfit 45 = .ok (.aaload, 1) := by decide +kernel
theorem dX11_firstMisfit_46 : decode cX11_firstMisfit 46 = .ok (.aload_n 1, 1) := by decide +kernel
theorem dX11_firstMisfit_47 : decode cX11_firstMisfit 47 = .ok (.iload_n 2, 1) := by decide +kernel
theorem dX11_firstMisfit_48 : decode cX11_firstMisfit 48 = .ok (.invokevirtual 145, 3) := by decide +kernel
theorem dX11_firstMisfit_51 : decode cX11_firstMisfit 51 = .ok (.aload_n 0, 1) := by decide +kernel
theorem dX11_firstMisfit_52 : decode cX11_firstMisfit 52 = .ok (.getfield 51, 3) := by decide +kernel
theorem dX11_firstMisfit_55 : decode cX11_firstMisfit 55 = .ok (.aload_n 0, 1) := by decide +kernel
theorem dX11_firstMisfit_56 : decode cX11_firstMisfit 56 = .ok (.getfield 26, 3) := by decide +kernel
theorem dX11_firstMisfit_59 : decode cX11_firstMisfit 59 = .ok (.getfield 259, 3) := by decide +kernel
theorem dX11_firstMisfit_62 : decode cX11_firstMisfit 62 = .ok (.iload 6, 2) := by decide +kernel
theorem dX11_firstMisfit_64 : decode cX11_firstMisfit 64 = .ok (.aaload, 1) := by decide +kernel
theorem dX11_firstMisfit_65 : decode cX11_firstMisfit 65 = .ok (.aload_n 1, 1) := by decide +kernel
theorem dX11_firstMisfit_66 : decode cX11_firstMisfit 66 = .ok (.invokevirtual 244, 3) := by decide +kernel
theorem dX11_firstMisfit_69 : decode cX11_firstMisfit 69 = .ok (.ifCond .ne 6, 3) := by decide +kernel
theorem dX11_firstMisfit_72 : decode cX11_firstMisfit 72 = .ok (.iload 6, 2) := by decide +kernel
theorem dX11_firstMisfit_74 : decode cX11_firstMisfit 74 = .ok (.ireturn, 1) := by decide +kernel
theorem dX11_firstMisfit_75 : decode cX11_firstMisfit 75 = .ok (.iinc 5 1, 3) := by decide +kernel
theorem dX11_firstMisfit_78 : decode cX11_firstMisfit 78 = .ok (.goto (-75), 3) := by decide +kernel
theorem dX11_firstMisfit_81 : decode cX11_firstMisfit 81 = .ok (.iconst (-1), 1) := by decide +kernel
theorem dX11_firstMisfit_82 : decode cX11_firstMisfit 82 = .ok (.ireturn, 1) := by decide +kernel
theorem dX11_plans_0 : decode cX11_plans 0 = .ok (.iload_n 1, 1) := by decide +kernel
theorem dX11_plans_1 : decode cX11_plans 1 = .ok (.invokestatic 253, 3) := by decide +kernel
theorem dX11_plans_4 : decode cX11_plans 4 = .ok (.iload_n 2, 1) := by decide +kernel
theorem dX11_plans_5 : decode cX11_plans 5 = .ok (.bipush 50, 2) := by decide +kernel
theorem dX11_plans_7 : decode cX11_plans 7 = .ok (.if_icmp .lt 10, 3) := by decide +kernel
theorem dX11_plans_10 : decode cX11_plans 10 = .ok (.iload_n 2, 1) := by decide +kernel
theorem dX11_plans_11 : decode cX11_plans 11 = .ok (.sipush 150, 3) := by decide +kernel
theorem dX11_plans_14 : decode cX11_plans 14 = .ok (.if_icmp .le 14, 3) := by decide +kernel
theorem dX11_plans_17 : decode cX11_plans 17 = .ok (.new 88, 3) := by decide +kernel
theorem dX11_plans_20 : decode cX11_plans 20 = .ok (.dup, 1) := by decide +kernel
theorem dX11_plans_21 : decode cX11_plans 21 = .ok (.ldc_w 274, 3) := by decide +kernel
theorem dX11_plans_24 : decode cX11_plans 24 = .ok (.invokespecial 92, 3) := by decide +kernel
theorem dX11_plans_27 : decode cX11_plans 27 = .ok (.athrow, 1) := by decide +kernel
theorem dX11_plans_28 : decode cX11_plans 28 = .ok (.aload_n 0, 1) := by decide +kernel
theorem dX11_plans_29 : decode cX11_plans 29 = .ok (.getfield 26, 3) := by decide +kernel
theorem dX11_plans_32 : decode cX11_plans 32 = .ok (.iload_n 1, 1) := by decide +kernel
theorem dX11_plans_33 : decode cX11_plans 33 = .ok (.invokevirtual 256, 3) := by decide +kernel
theorem dX11_plans_36 : decode cX11_plans 36 = .ok (.istore 4, 2) := by decide +kernel
theorem dX11_plans_38 : decode cX11_plans 38 = .ok (.iload 4, 2) := by decide +kernel
theorem dX11_plans_40 : decode cX11_plans 40 = .ok (.ifCond .ne 14, 3) := by decide +kernel
theorem dX11_plans_43 : decode cX11_plans 43 = .ok (.new 88, 3) := by decide +kernel
theorem dX11_plans_46 : decode cX11_plans 46 = .ok (.dup, 1) := by decide +kernel
theorem dX11_plans_47 : decode cX11_plans 47 = .ok (.ldc_w 276, 3) := by decide +kernel
theorem dX11_plans_50 : decode cX11_plans 50 = .ok (.invokespecial 92, 3) := by decide +kernel
theorem dX11_plans_53 : decode cX11_plans 53 = .ok (.athrow, 1) := by decide +kernel
theorem dX11_plans_54 : decode cX11_plans 54 = .ok (.aload_n 0, 1) := by decide +kernel
theorem dX11_plans_55 : decode cX11_plans 55 = .ok (.getfield 58, 3) := by decide +kernel
theorem dX11_plans_58 : decode cX11_plans 58 = .ok (.aload_n 0, 1) := by decide +kernel
theorem dX11_plans_59 : decode cX11_plans 59 = .ok (.getfield 26, 3) := by decide +kernel
theorem dX11_plans_62 : decode cX11_plans 62 = .ok (.iload_n 2, 1) := by decide +kernel
theorem dX11_plans_63 : decode cX11_plans 63 = .ok (.invokevirtual 278, 3) := by decide +kernel
theorem dX11_plans_66 : decode cX11_plans 66 = .ok (.aload_n 0, 1) := by decide +kernel
theorem dX11_plans_67 : decode cX11_plans 67 = .ok (.getfield 58, 3) := by decide +kernel
theorem dX11_plans_70 : decode cX11_plans 70 = .ok (.aload_n 0, 1) := by decide +kernel
theorem dX11_plans_71 : decode cX11_plans 71 = .ok (.getfield 26, 3) := by decide +kernel
theorem dX11_plans_74 : decode cX11_plans 74 = .ok (.iload_n 3, 1) := by decide +kernel
theorem dX11_plans_75 : decode cX11_plans 75 = .ok (.invokevirtual 282, 3) := by decide +kernel
theorem dX11_plans_78 : decode cX11_plans 78 = .ok (.istore 5, 2) := by decide +kernel
theorem dX11_plans_80 : decode cX11_plans 80 = .ok (.iload_n 3, 1) := by decide +kernel
theorem dX11_plans_81 : decode cX11_plans 81 = .ok (.iconst (-1), 1) := by decide +kernel
theorem dX11_plans_82 : decode cX11_plans 82 = .ok (.if_icmp .eq 20, 3) := by decide +kernel
theorem dX11_plans_85 : decode cX11_plans 85 = .ok (.iload 5, 2) := by decide +kernel
theorem dX11_plans_87 : decode cX11_plans 87 = .ok (.iconst (-1), 1) := by decide +kernel
theorem dX11_plans_88 : decode cX11_plans 88 = .ok (.if_icmp .ne 14, 3) := by decide +kernel
theorem dX11_plans_91 : decode cX11_plans 91 = .ok (.new 115, 3) := by decide +kernel
theorem dX11_plans_94 : decode cX11_plans 94 = .ok (.dup, 1) := by decide +kernel
theorem dX11_plans_95 : decode cX11_plans 95 = .ok (.ldc_w 286, 3) := by decide +kernel
theorem dX11_plans_98 : decode cX11_plans 98 = .ok (.invokespecial 119, 3) := by decide +kernel
theorem dX11_plans_101 : decode cX11_plans 101 = .ok (.athrow, 1) := by decide +kernel
theorem dX11_plans_102 : decode cX11_plans 102 = .ok (.iload 5, 2) := by decide +kernel
theorem dX11_plans_104 : decode cX11_plans 104 = .ok (.ireturn, 1) := by decide +kernel
theorem dX11_spot_0 : decode cX11_spot 0 = .ok (.iload_n 1, 1) := by decide +kernel
theorem dX11_spot_1 : decode cX11_spot 1 = .ok (.iload_n 2, 1) := by decide +kernel
theorem dX11_spot_2 : decode cX11_spot 2 = .ok (.invokestatic 166, 3) := by decide +kernel
theorem dX11_spot_5 : decode cX11_spot 5 = .ok (.ifCond .eq 15, 3) := by decide +kernel
theorem dX11_spot_8 : decode cX11_spot 8 = .ok (.aload_n 0, 1) := by decide +kernel
theorem dX11_spot_9 : decode cX11_spot 9 = .ok (.getfield 26, 3) := by decide +kernel
theorem dX11_spot_12 : decode cX11_spot 12 = .ok (.getfield 112, 3) := by decide +kernel
theorem dX11_spot_15 : decode cX11_spot 15 = .ok (.bipush 8, 2) := by decide +kernel
theorem dX11_spot_17 : decode cX11_spot 17 = .ok (.if_icmp .lt 18, 3) := by decide +kernel
theorem dX11_spot_20 : decode cX11_spot 20 = .ok (.aload_n 0, 1) := by decide +kernel
theorem dX11_spot_21 : decode cX11_spot 21 = .ok (.getfield 26, 3) := by decide +kernel
theorem dX11_spot_24 : decode cX11_spot 24 = .ok (.getfield 99, 3) := by decide +kernel
theorem dX11_spot_27 : decode cX11_spot 27 = .ok (.iconst 3, 1) := by decide +kernel
theorem dX11_spot_28 : decode cX11_spot 28 = .ok (.dup2, 1) := by decide +kernel
theorem dX11_spot_29 : decode cX11_spot 29 = .ok (.iaload, 1) := by decide +kernel
theorem dX11_spot_30 : decode cX11_spot 30 = .ok (.iconst 1, 1) := by decide +kernel
theorem dX11_spot_31 : decode cX11_spot 31 = .ok (.iadd, 1) := by decide +kernel
theorem dX11_spot_32 : decode cX11_spot 32 = .ok (.iastore, 1) := by decide +kernel
theorem dX11_spot_33 : decode cX11_spot 33 = .ok (.iconst (-1), 1) := by decide +kernel
theorem dX11_spot_34 : decode cX11_spot 34 = .ok (.ireturn, 1) := by decide +kernel
theorem dX11_spot_35 : decode cX11_spot 35 = .ok (.aload_n 0, 1) := by decide +kernel
theorem dX11_spot_36 : decode cX11_spot 36 = .ok (.getfield 26, 3) := by decide +kernel
theorem dX11_spot_39 : decode cX11_spot 39 = .ok (.getfield 112, 3) := by decide +kernel
theorem dX11_spot_42 : decode cX11_spot 42 = .ok (.istore_n 3, 1) := by decide +kernel
theorem dX11_spot_43 : decode cX11_spot 43 = .ok (.aload_n 0, 1) := by decide +kernel
theorem dX11_spot_44 : decode cX11_spot 44 = .ok (.getfield 26, 3) := by decide +kernel
theorem dX11_spot_47 : decode cX11_spot 47 = .ok (.getfield 288, 3) := by decide +kernel
theorem dX11_spot_50 : decode cX11_spot 50 = .ok (.iload_n 3, 1) := by decide +kernel
theorem dX11_spot_51 : decode cX11_spot 51 = .ok (.iload_n 1, 1) := by decide +kernel
theorem dX11_spot_52 : decode cX11_spot 52 = .ok (.iastore, 1) := by decide +kernel
theorem dX11_spot_53 : decode cX11_spot 53 = .ok (.aload_n 0, 1) := by decide +kernel
theorem dX11_spot_54 : decode cX11_spot 54 = .ok (.getfield 26, 3) := by decide +kernel
theorem dX11_spot_57 : decode cX11_spot 57 = .ok (.getfield 291, 3) := by decide +kernel
theorem dX11_spot_60 : decode cX11_spot 60 = .ok (.iload_n 3, 1) := by decide +kernel
theorem dX11_spot_61 : decode cX11_spot 61 = .ok (.iload_n 2, 1) := by decide +kernel
theorem dX11_spot_62 : decode cX11_spot 62 = .ok (.iastore, 1) := by decide +kernel
theorem dX11_spot_63 : decode cX11_spot 63 = .ok (.aload_n 0, 1) := by decide +kernel
theorem dX11_spot_64 : decode cX11_spot 64 = .ok (.getfield 26, 3) := by decide +kernel
theorem dX11_spot_67 : decode cX11_spot 67 = .ok (.dup, 1) := by decide +kernel
theorem dX11_spot_68 : decode cX11_spot 68 = .ok (.getfield 112, 3) := by decide +kernel
theorem dX11_spot_71 : decode cX11_spot 71 = .ok (.iconst 1, 1) := by decide +kernel
theorem dX11_spot_72 : decode cX11_spot 72 = .ok (.iadd, 1) := by decide +kernel
theorem dX11_spot_73 : decode cX11_spot 73 = .ok (.putfield 112, 3) := by decide +kernel
theorem dX11_spot_76 : decode cX11_spot 76 = .ok (.iload_n 3, 1) := by decide +kernel
theorem dX11_spot_77 : decode cX11_spot 77 = .ok (.ireturn, 1) := by decide +kernel
theorem dX11_next_0 : decode cX11_next 0 = .ok (.iload_n 2, 1) := by decide +kernel
theorem dX11_next_1 : decode cX11_next 1 = .ok (.invokestatic 253, 3) := by decide +kernel
theorem dX11_next_4 : decode cX11_next 4 = .ok (.iload_n 3, 1) := by decide +kernel
theorem dX11_next_5 : decode cX11_next 5 = .ok (.invokestatic 294, 3) := by decide +kernel
theorem dX11_next_8 : decode cX11_next 8 = .ok (.iload 4, 2) := by decide +kernel
theorem dX11_next_10 : decode cX11_next 10 = .ok (.ifCond .eq 20, 3) := by decide +kernel
theorem dX11_next_13 : decode cX11_next 13 = .ok (.iload 4, 2) := by decide +kernel
theorem dX11_next_15 : decode cX11_next 15 = .ok (.iconst 1, 1) := by decide +kernel
theorem dX11_next_16 : decode cX11_next 16 = .ok (.if_icmp .eq 14, 3) := by decide +kernel
theorem dX11_next_19 : decode cX11_next 19 = .ok (.new 115, 3) := by decide +kernel
theorem dX11_next_22 : decode cX11_next 22 = .ok (.dup, 1) := by decide +kernel
theorem dX11_next_23 : decode cX11_next 23 = .ok (.ldc_w 297, 3) := by decide +kernel
theorem dX11_next_26 : decode cX11_next 26 = .ok (.invokespecial 119, 3) := by decide +kernel
theorem dX11_next_29 : decode cX11_next 29 = .ok (.athrow, 1) := by decide +kernel
theorem dX11_next_30 : decode cX11_next 30 = .ok (.iload_n 1, 1) := by decide +kernel
theorem dX11_next_31 : decode cX11_next 31 = .ok (.ifCond .lt 9, 3) := by decide +kernel
theorem dX11_next_34 : decode cX11_next 34 = .ok (.iload_n 1, 1) := by decide +kernel
theorem dX11_next_35 : decode cX11_next 35 = .ok (.bipush 64, 2) := by decide +kernel
theorem dX11_next_37 : decode cX11_next 37 = .ok (.if_icmp .lt 14, 3) := by decide +kernel
theorem dX11_next_40 : decode cX11_next 40 = .ok (.new 88, 3) := by decide +kernel
theorem dX11_next_43 : decode cX11_next 43 = .ok (.dup, 1) := by decide +kernel
theorem dX11_next_44 : decode cX11_next 44 = .ok (.ldc_w 299, 3) := by decide +kernel
theorem dX11_next_47 : decode cX11_next 47 = .ok (.invokespecial 92, 3) := by decide +kernel
theorem dX11_next_50 : decode cX11_next 50 = .ok (.athrow, 1) := by decide +kernel
theorem dX11_next_51 : decode cX11_next 51 = .ok (.iconst 0, 1) := by decide +kernel
theorem dX11_next_52 : decode cX11_next 52 = .ok (.istore 5, 2) := by decide +kernel
theorem dX11_next_54 : decode cX11_next 54 = .ok (.iload 5, 2) := by decide +kernel
theorem dX11_next_56 : decode cX11_next 56 = .ok (.aload_n 0, 1) := by decide +kernel
theorem dX11_next_57 : decode cX11_next 57 = .ok (.getfield 26, 3) := by decide +kernel
theorem dX11_next_60 : decode cX11_next 60 = .ok (.getfield 112, 3) := by decide +kernel
theorem dX11_next_63 : decode cX11_next 63 = .ok (.if_icmp .ge 103, 3) := by decide +kernel
theorem dX11_next_66 : decode cX11_next 66 = .ok (.iconst 0, 1) := by decide +kernel
theorem dX11_next_67 : decode cX11_next 67 = .ok (.istore 6, 2) := by decide +kernel
theorem dX11_next_69 : decode cX11_next 69 = .ok (.iload 6, 2) := by decide +kernel
theorem dX11_next_71 : decode cX11_next 71 = .ok (.bipush 6, 2) := by decide +kernel
theorem dX11_next_73 : decode cX11_next 73 = .ok (.if_icmp .ge 78, 3) := by decide +kernel
theorem dX11_next_76 : decode cX11_next 76 = .ok (.aload_n 0, 1) := by decide +kernel
theorem dX11_next_77 : decode cX11_next 77 = .ok (.getfield 18, 3) := by decide +kernel
theorem dX11_next_80 : decode cX11_next 80 = .ok (.iload 6, 2) := by decide +kernel
theorem dX11_next_82 : decode cX11_next 82 = .ok (.aaload, 1) := by decide +kernel
theorem dX11_next_83 : decode cX11_next 83 = .ok (.astore 7, 2) := by decide +kernel
theorem dX11_next_85 : decode cX11_next 85 = .ok (.aload_n 0, 1) := by decide +kernel
theorem dX11_next_86 : decode cX11_next 86 = .ok (.getfield 40, 3) := by decide +kernel
theorem dX11_next_89 : decode cX11_next 89 = .ok (.aload 7, 2) := by decide +kernel
theorem dX11_next_91 : decode cX11_next 91 = .ok (.aload_n 0, 1) := by decide +kernel
theorem dX11_next_92 : decode cX11_next 92 = .ok (.getfield 26, 3) := by decide +kernel
theorem dX11_next_95 : decode cX11_next 95 = .ok (.getfield 288, 3) := by decide +kernel
theorem dX11_next_98 : decode cX11_next 98 = .ok (.iload 5, 2) := by decide +kernel
theorem dX11_next_100 : decode cX11_next 100 = .ok (.iaload, 1) := by decide +kernel
theorem dX11_next_101 : decode cX11_next 101 = .ok (.aload_n 0, 1) := by decide +kernel
theorem dX11_next_102 : decode cX11_next 102 = .ok (.getfield 26, 3) := by decide +kernel
theorem dX11_next_105 : decode cX11_next 105 = .ok (.getfield 291, 3) := by decide +kernel
theorem dX11_next_108 : decode cX11_next 108 = .ok (.iload 5, 2) := by decide +kernel
theorem dX11_next_110 : decode cX11_next 110 = .ok (.iaload, 1) := by decide +kernel
theorem dX11_next_111 : decode cX11_next 111 = .ok (.iload_n 2, 1) := by decide +kernel
theorem dX11_next_112 : decode cX11_next 112 = .ok (.iload_n 3, 1) := by decide +kernel
theorem dX11_next_113 : decode cX11_next 113 = .ok (.invokevirtual 141, 3) := by decide +kernel
theorem dX11_next_116 : decode cX11_next 116 = .ok (.aload_n 0, 1) := by decide +kernel
theorem dX11_next_117 : decode cX11_next 117 = .ok (.getfield 51, 3) := by decide +kernel
theorem dX11_next_120 : decode cX11_next 120 = .ok (.aload_n 0, 1) := by decide +kernel
theorem dX11_next_121 : decode cX11_next 121 = .ok (.getfield 40, 3) := by decide +kernel
theorem dX11_next_124 : decode cX11_next 124 = .ok (.aload 7, 2) := by decide +kernel
theorem dX11_next_126 : decode cX11_next 126 = .ok (.iconst 0, 1) := by decide +kernel
theorem dX11_next_127 : decode cX11_next 127 = .ok (.invokevirtual 145, 3) := by decide +kernel
theorem dX11_next_130 : decode cX11_next 130 = .ok (.aload_n 0, 1) := by decide +kernel
theorem dX11_next_131 : decode cX11_next 131 = .ok (.getfield 65, 3) := by decide +kernel
theorem dX11_next_134 : decode cX11_next 134 = .ok (.iload 6, 2) := by decide +kernel
theorem dX11_next_136 : decode cX11_next 136 = .ok (.aload_n 0, 1) := by decide +kernel
theorem dX11_next_137 : decode cX11_next 137 = .ok (.getfield 51, 3) := by decide +kernel
theorem dX11_next_140 : decode cX11_next 140 = .ok (.aload 7, 2) := by decide +kernel
theorem dX11_next_142 : decode cX11_next 142 = .ok (.invokevirtual 301, 3) := by decide +kernel
theorem dX11_next_145 : decode cX11_next 145 = .ok (.iinc 6 1, 3) := by decide +kernel
theorem dX11_next_148 : decode cX11_next 148 = .ok (.goto (-79), 3) := by decide +kernel
theorem dX11_next_151 : decode cX11_next 151 = .ok (.aload_n 0, 1) := by decide +kernel
theorem dX11_next_152 : decode cX11_next 152 = .ok (.getfield 65, 3) := by decide +kernel
theorem dX11_next_155 : decode cX11_next 155 = .ok (.iload 5, 2) := by decide +kernel
theorem dX11_next_157 : decode cX11_next 157 = .ok (.invokevirtual 305, 3) := by decide +kernel
theorem dX11_next_160 : decode cX11_next 160 = .ok (.iinc 5 1, 3) := by decide +kernel
theorem dX11_next_163 : decode cX11_next 163 = .ok (.goto (-109), 3) := by decide +kernel
theorem dX11_next_166 : decode cX11_next 166 = .ok (.aload_n 0, 1) := by decide +kernel
theorem dX11_next_167 : decode cX11_next 167 = .ok (.getfield 65, 3) := by decide +kernel
theorem dX11_next_170 : decode cX11_next 170 = .ok (.aload_n 0, 1) := by decide +kernel
theorem dX11_next_171 : decode cX11_next 171 = .ok (.getfield 26, 3) := by decide +kernel
theorem dX11_next_174 : decode cX11_next 174 = .ok (.getfield 112, 3) := by decide +kernel
theorem dX11_next_177 : decode cX11_next 177 = .ok (.iload_n 1, 1) := by decide +kernel
theorem dX11_next_178 : decode cX11_next 178 = .ok (.invokevirtual 308, 3) := by decide +kernel
theorem dX11_next_181 : decode cX11_next 181 = .ok (.iload 4, 2) := by decide +kernel
theorem dX11_next_183 : decode cX11_next 183 = .ok (.ifCond .ne 15, 3) := by decide +kernel
theorem dX11_next_186 : decode cX11_next 186 = .ok (.aload_n 0, 1) := by decide +kernel
theorem dX11_next_187 : decode cX11_next 187 = .ok (.getfield 65, 3) := by decide +kernel
theorem dX11_next_190 : decode cX11_next 190 = .ok (.getfield 312, 3) := by decide +kernel
theorem dX11_next_193 : decode cX11_next 193 = .ok (.iload_n 1, 1) := by decide +kernel
theorem dX11_next_194 : decode cX11_next 194 = .ok (.iaload, 1) := by decide +kernel
theorem dX11_next_195 : decode cX11_next 195 = .ok (.goto 12, 3) := by decide +kernel
theorem dX11_next_198 : decode cX11_next 198 = .ok (.aload_n 0, 1) := by decide +kernel
theorem dX11_next_199 : decode cX11_next 199 = .ok (.getfield 65, 3) := by decide +kernel
theorem dX11_next_202 : decode cX11_next 202 = .ok (.getfield 315, 3) := by decide +kernel
theorem dX11_next_205 : decode cX11_next 205 = .ok (.iload_n 1, 1) := by decide +kernel
theorem dX11_next_206 : decode cX11_next 206 = .ok (.iaload, 1) := by decide +kernel
theorem dX11_next_207 : decode cX11_next 207 = .ok (.ireturn, 1) := by decide +kernel
theorem dX11_knows_0 : decode cX11_knows 0 = .ok (.aload_n 0, 1) := by decide +kernel
theorem dX11_knows_1 : decode cX11_knows 1 = .ok (.iload_n 1, 1) := by decide +kernel
theorem dX11_knows_2 : decode cX11_knows 2 = .ok (.invokevirtual 84, 3) := by decide +kernel
theorem dX11_knows_5 : decode cX11_knows 5 = .ok (.astore 6, 2) := by decide +kernel
theorem dX11_knows_7 : decode cX11_knows 7 = .ok (.iload_n 2, 1) := by decide +kernel
theorem dX11_knows_8 : decode cX11_knows 8 = .ok (.iload_n 3, 1) := by decide +kernel
theorem dX11_knows_9 : decode cX11_knows 9 = .ok (.invokestatic 318, 3) := by decide +kernel
theorem dX11_knows_12 : decode cX11_knows 12 = .ok (.iload 4, 2) := by decide +kernel
theorem dX11_knows_14 : decode cX11_knows 14 = .ok (.iload 5, 2) := by decide +kernel
theorem dX11_knows_16 : decode cX11_knows 16 = .ok (.invokestatic 318, 3) := by decide +kernel
theorem dX11_knows_19 : decode cX11_knows 19 = .ok (.aload_n 0, 1) := by decide +kernel
theorem dX11_knows_20 : decode cX11_knows 20 = .ok (.aload 6, 2) := by decide +kernel
theorem dX11_knows_22 : decode cX11_knows 22 = .ok (.iload_n 2, 1) := by decide +kernel
theorem dX11_knows_23 : decode cX11_knows 23 = .ok (.iload_n 3, 1) := by decide +kernel
theorem dX11_knows_24 : decode cX11_knows 24 = .ok (.invokevirtual 321, 3) := by decide +kernel
theorem dX11_knows_27 : decode cX11_knows 27 = .ok (.aload_n 0, 1) := by decide +kernel
theorem dX11_knows_28 : decode cX11_knows 28 = .ok (.getfield 51, 3) := by decide +kernel
theorem dX11_knows_31 : decode cX11_knows 31 = .ok (.aload 6, 2) := by decide +kernel
theorem dX11_knows_33 : decode cX11_knows 33 = .ok (.getfield 129, 3) := by decide +kernel
theorem dX11_knows_36 : decode cX11_knows 36 = .ok (.invokevirtual 325, 3) := by decide +kernel
theorem dX11_knows_39 : decode cX11_knows 39 = .ok (.istore 7, 2) := by decide +kernel
theorem dX11_knows_41 : decode cX11_knows 41 = .ok (.aload_n 0, 1) := by decide +kernel
theorem dX11_knows_42 : decode cX11_knows 42 = .ok (.getfield 51, 3) := by decide +kernel
theorem dX11_knows_45 : decode cX11_knows 45 = .ok (.aload_n 0, 1) := by decide +kernel
theorem dX11_knows_46 : decode cX11_knows 46 = .ok (.getfield 40, 3) := by decide +kernel
theorem dX11_knows_49 : decode cX11_knows 49 = .ok (.aload 6, 2) := by decide +kernel
theorem dX11_knows_51 : decode cX11_knows 51 = .ok (.iload 4, 2) := by decide +kernel
theorem dX11_knows_53 : decode cX11_knows 53 = .ok (.iload 5, 2) := by decide +kernel
theorem dX11_knows_55 : decode cX11_knows 55 = .ok (.aload_n 0, 1) := by decide +kernel
theorem dX11_knows_56 : decode cX11_knows 56 = .ok (.getfield 69, 3) := by decide +kernel
theorem dX11_knows_59 : decode cX11_knows 59 = .ok (.invokevirtual 328, 3) := by decide +kernel
theorem dX11_knows_62 : decode cX11_knows 62 = .ok (.iconst 0, 1) := by decide +kernel
theorem dX11_knows_63 : decode cX11_knows 63 = .ok (.istore 8, 2) := by decide +kernel
theorem dX11_knows_65 : decode cX11_knows 65 = .ok (.iconst 0, 1) := by decide +kernel
theorem dX11_knows_66 : decode cX11_knows 66 = .ok (.istore 9, 2) := by decide +kernel
theorem dX11_knows_68 : decode cX11_knows 68 = .ok (.iload 9, 2) := by decide +kernel
theorem dX11_knows_70 : decode cX11_knows 70 = .ok (.sipush 1681, 3) := by decide +kernel
theorem dX11_knows_73 : decode cX11_knows 73 = .ok (.if_icmp .ge 89, 3) := by decide +kernel
theorem dX11_knows_76 : decode cX11_knows 76 = .ok (.aload_n 0, 1) := by decide +kernel
theorem dX11_knows_77 : decode cX11_knows 77 = .ok (.aload 6, 2) := by decide +kernel
theorem dX11_knows_79 : decode cX11_knows 79 = .ok (.iload 9, 2) := by decide +kernel
theorem dX11_knows_81 : decode cX11_knows 81 = .ok (.bipush 41, 2) := by decide +kernel
theorem dX11_knows_83 : decode cX11_knows 83 = .ok (.irem, 1) := by decide +kernel
theorem dX11_knows_84 : decode cX11_knows 84 = .ok (.iload 9, 2) := by decide +kernel
theorem dX11_knows_86 : decode cX11_knows 86 = .ok (.bipush 41, 2) := by decide +kernel
theorem dX11_knows_88 : decode cX11_knows 88 = .ok (.idiv, 1) := by decide +kernel
theorem dX11_knows_89 : decode cX11_knows 89 = .ok (.invokevirtual 321, 3) := by decide +kernel
theorem dX11_knows_92 : decode cX11_knows 92 = .ok (.aload_n 0, 1) := by decide +kernel
theorem dX11_knows_93 : decode cX11_knows 93 = .ok (.getfield 51, 3) := by decide +kernel
theorem dX11_knows_96 : decode cX11_knows 96 = .ok (.aload 6, 2) := by decide +kernel
theorem dX11_knows_98 : decode cX11_knows 98 = .ok (.getfield 129, 3) := by decide +kernel
theorem dX11_knows_101 : decode cX11_knows 101 = .ok (.invokevirtual 325, 3) := by decide +kernel
theorem dX11_knows_104 : decode cX11_knows 104 = .ok (.iload 7, 2) := by decide +kernel
theorem dX11_knows_106 : decode cX11_knows 106 = .ok (.if_icmp .ne 50, 3) := by decide +kernel
theorem dX11_knows_109 : decode cX11_knows 109 = .ok (.aload_n 0, 1) := by decide +kernel
theorem dX11_knows_110 : decode cX11_knows 110 = .ok (.getfield 51, 3) := by decide +kernel
theorem dX11_knows_113 : decode cX11_knows 113 = .ok (.aload_n 0, 1) := by decide +kernel
theorem dX11_knows_114 : decode cX11_knows 114 = .ok (.getfield 40, 3) := by decide +kernel
theorem dX11_knows_117 : decode cX11_knows 117 = .ok (.aload 6, 2) := by decide +kernel
theorem dX11_knows_119 : decode cX11_knows 119 = .ok (.iload 4, 2) := by decide +kernel
theorem dX11_knows_121 : decode cX11_knows 121 = .ok (.iload 5, 2) := by decide +kernel
theorem dX11_knows_123 : decode cX11_knows 123 = .ok (.aload_n 0, 1) := by decide +kernel
theorem dX11_knows_124 : decode cX11_knows 124 = .ok (.getfield 73, 3) := by decide +kernel
theorem dX11_knows_127 : decode cX11_knows 127 = .ok (.invokevirtual 328, 3) := by decide +kernel
theorem dX11_knows_130 : decode cX11_knows 130 = .ok (.iload 8, 2) := by decide +kernel
theorem dX11_knows_132 : decode cX11_knows 132 = .ok (.aload_n 0, 1) := by decide +kernel
theorem dX11_knows_133 : decode cX11_knows 133 = .ok (.getfield 69, 3) := by decide +kernel
theorem dX11_knows_136 : decode cX11_knows 136 = .ok (.aload_n 0, 1) := by decide +kernel
theorem dX11_knows_137 : decode cX11_knows 137 = .ok (.getfield 73, 3) := by decide +kernel
theorem dX11_knows_140 : decode cX11_knows 140 = .ok (.iload 7, 2) := by decide +kernel
theorem dX11_knows_142 : decode cX11_knows 142 = .ok (.invokestatic 332, 3) := by decide +kernel
theorem dX11_knows_145 : decode cX11_knows 145 = .ok (.ifCond .eq 7, 3) := by decide +kernel
theorem dX11_knows_148 : decode cX11_knows 148 = .ok (.iconst 1, 1) := by decide +kernel
theorem dX11_knows_149 : decode cX11_knows 149 = .ok (.goto 4, 3) := by decide +kernel
theorem dX11_knows_152 : decode cX11_knows 152 = .ok (.iconst 0, 1) := by decide +kernel
theorem dX11_knows_153 : decode cX11_knows 153 = .ok (.iadd, 1) := by decide +kernel
theorem dX11_knows_154 : decode cX11_knows 154 = .ok (.istore 8, 2) := by decide +kernel
theorem dX11_knows_156 : decode cX11_knows 156 = .ok (.iinc 9 1, 3) := by decide +kernel
theorem dX11_knows_159 : decode cX11_knows 159 = .ok (.goto (-91), 3) := by decide +kernel
theorem dX11_knows_162 : decode cX11_knows 162 = .ok (.iload 8, 2) := by decide +kernel
theorem dX11_knows_164 : decode cX11_knows 164 = .ok (.ireturn, 1) := by decide +kernel
theorem dX11_lookAsThief_0 : decode cX11_lookAsThief 0 = .ok (.aload_n 0, 1) := by decide +kernel
theorem dX11_lookAsThief_1 : decode cX11_lookAsThief 1 = .ok (.getfield 40, 3) := by decide +kernel
theorem dX11_lookAsThief_4 : decode cX11_lookAsThief 4 = .ok (.aload_n 1, 1) := by decide +kernel
theorem dX11_lookAsThief_5 : decode cX11_lookAsThief 5 = .ok (.iload_n 2, 1) := by decide +kernel
theorem dX11_lookAsThief_6 : decode cX11_lookAsThief 6 = .ok (.iload_n 3, 1) := by decide +kernel
theorem dX11_lookAsThief_7 : decode cX11_lookAsThief 7 = .ok (.iconst 0, 1) := by decide +kernel
theorem dX11_lookAsThief_8 : decode cX11_lookAsThief 8 = .ok (.iconst 0, 1) := by decide +kernel
theorem dX11_lookAsThief_9 : decode cX11_lookAsThief 9 = .ok (.invokevirtual 141, 3) := by decide +kernel
theorem dX11_lookAsThief_12 : decode cX11_lookAsThief 12 = .ok (.aload_n 0, 1) := by decide +kernel
theorem dX11_lookAsThief_13 : decode cX11_lookAsThief 13 = .ok (.getfield 51, 3) := by decide +kernel
theorem dX11_lookAsThief_16 : decode cX11_lookAsThief 16 = .ok (.aload_n 0, 1) := by decide +kernel
theorem dX11_lookAsThief_17 : decode cX11_lookAsThief 17 = .ok (.getfield 40, 3) := by decide +kernel
theorem dX11_lookAsThief_20 : decode cX11_lookAsThief 20 = .ok (.aload_n 1, 1) := by decide +kernel
theorem dX11_lookAsThief_21 : decode cX11_lookAsThief 21 = .ok (.iconst 0, 1) := by decide +kernel
theorem dX11_lookAsThief_22 : decode cX11_lookAsThief 22 = .ok (.invokevirtual 145, 3) := by decide +kernel
theorem dX11_lookAsThief_25 : decode cX11_lookAsThief 25 = .ok (.return_, 1) := by decide +kernel
theorem dX11_word_0 : decode cX11_word 0 = .ok (.aload_n 0, 1) := by decide +kernel
theorem dX11_word_1 : decode cX11_word 1 = .ok (.iload_n 1, 1) := by decide +kernel
theorem dX11_word_2 : decode cX11_word 2 = .ok (.invokevirtual 84, 3) := by decide +kernel
theorem dX11_word_5 : decode cX11_word 5 = .ok (.astore 5, 2) := by decide +kernel
theorem dX11_word_7 : decode cX11_word 7 = .ok (.iload_n 2, 1) := by decide +kernel
theorem dX11_word_8 : decode cX11_word 8 = .ok (.iload_n 3, 1) := by decide +kernel
theorem dX11_word_9 : decode cX11_word 9 = .ok (.invokestatic 318, 3) := by decide +kernel
theorem dX11_word_12 : decode cX11_word 12 = .ok (.iload 4, 2) := by decide +kernel
theorem dX11_word_14 : decode cX11_word 14 = .ok (.invokestatic 294, 3) := by decide +kernel
theorem dX11_word_17 : decode cX11_word 17 = .ok (.iconst 0, 1) := by decide +kernel
theorem dX11_word_18 : decode cX11_word 18 = .ok (.istore 6, 2) := by decide +kernel
theorem dX11_word_20 : decode cX11_word 20 = .ok (.iconst 0, 1) := by decide +kernel
theorem dX11_word_21 : decode cX11_word 21 = .ok (.istore 7, 2) := by decide +kernel
theorem dX11_word_23 : decode cX11_word 23 = .ok (.iload 7, 2) := by decide +kernel
theorem dX11_word_25 : decode cX11_word 25 = .ok (.sipush 1681, 3) := by decide +kernel
theorem dX11_word_28 : decode cX11_word 28 = .ok (.if_icmp .ge 87, 3) := by decide +kernel
theorem dX11_word_31 : decode cX11_word 31 = .ok (.iload 7, 2) := by decide +kernel
theorem dX11_word_33 : decode cX11_word 33 = .ok (.bipush 41, 2) := by decide +kernel
theorem dX11_word_35 : decode cX11_word 35 = .ok (.irem, 1) := by decide +kernel
theorem dX11_word_36 : decode cX11_word 36 = .ok (.istore 8, 2) := by decide +kernel
theorem dX11_word_38 : decode cX11_word 38 = .ok (.iload 7, 2) := by decide +kernel
theorem dX11_word_40 : decode cX11_word 40 = .ok (.bipush 41, 2) := by decide +kernel
theorem dX11_word_42 : decode cX11_word 42 = .ok (.idiv, 1) := by decide +kernel
theorem dX11_word_43 : decode cX11_word 43 = .ok (.istore 9, 2) := by decide +kernel
theorem dX11_word_45 : decode cX11_word 45 = .ok (.iload 8, 2) := by decide +kernel
theorem dX11_word_47 : decode cX11_word 47 = .ok (.iload_n 2, 1) := by decide +kernel
theorem dX11_word_48 : decode cX11_word 48 = .ok (.if_icmp .ne 13, 3) := by decide +kernel
theorem dX11_word_51 : decode cX11_word 51 = .ok (.iload 9, 2) := by decide +kernel
theorem dX11_word_53 : decode cX11_word 53 = .ok (.iload_n 3, 1) := by decide +kernel
theorem dX11_word_54 : decode cX11_word 54 = .ok (.if_icmp .ne 7, 3) := by decide +kernel
theorem dX11_word_57 : decode cX11_word 57 = .ok (.iconst 1, 1) := by decide +kernel
theorem dX11_word_58 : decode cX11_word 58 = .ok (.goto 4, 3) := by decide +kernel
theorem dX11_word_61 : decode cX11_word 61 = .ok (.iconst 0, 1) := by decide +kernel
theorem dX11_word_62 : decode cX11_word 62 = .ok (.istore 10, 2) := by decide +kernel
theorem dX11_word_64 : decode cX11_word 64 = .ok (.iload 10, 2) := by decide +kernel
theorem dX11_word_66 : decode cX11_word 66 = .ok (.ifCond .ne 43, 3) := by decide +kernel
theorem dX11_word_69 : decode cX11_word 69 = .ok (.aload 5, 2) := by decide +kernel
theorem dX11_word_71 : decode cX11_word 71 = .ok (.iload_n 2, 1) := by decide +kernel
theorem dX11_word_72 : decode cX11_word 72 = .ok (.iload_n 3, 1) := by decide +kernel
theorem dX11_word_73 : decode cX11_word 73 = .ok (.iload 8, 2) := by decide +kernel
theorem dX11_word_75 : decode cX11_word 75 = .ok (.iload 9, 2) := by decide +kernel
theorem dX11_word_77 : decode cX11_word 77 = .ok (.invokevirtual 336, 3) := by decide +kernel
theorem dX11_word_80 : decode cX11_word 80 = .ok (.ifCond .ne 29, 3) := by decide +kernel
theorem dX11_word_83 : decode cX11_word 83 = .ok (.aload 5, 2) := by decide +kernel
theorem dX11_word_85 : decode cX11_word 85 = .ok (.iconst 0, 1) := by decide +kernel
theorem dX11_word_86 : decode cX11_word 86 = .ok (.iload_n 2, 1) := by decide +kernel
theorem dX11_word_87 : decode cX11_word 87 = .ok (.iload_n 3, 1) := by decide +kernel
theorem dX11_word_88 : decode cX11_word 88 = .ok (.iload 8, 2) := by decide +kernel
theorem dX11_word_90 : decode cX11_word 90 = .ok (.iload 9, 2) := by decide +kernel
theorem dX11_word_92 : decode cX11_word 92 = .ok (.iload 4, 2) := by decide +kernel
theorem dX11_word_94 : decode cX11_word 94 = .ok (.iconst 1, 1) := by decide +kernel
theorem dX11_word_95 : decode cX11_word 95 = .ok (.invokevirtual 340, 3) := by decide +kernel
theorem dX11_word_98 : decode cX11_word 98 = .ok (.aload 5, 2) := by decide +kernel
theorem dX11_word_100 : decode cX11_word 100 = .ok (.getfield 129, 3) := by decide +kernel
theorem dX11_word_103 : decode cX11_word 103 = .ok (.if_icmp .lt 6, 3) := by decide +kernel
theorem dX11_word_106 : decode cX11_word 106 = .ok (.iinc 6 1, 3) := by decide +kernel
theorem dX11_word_109 : decode cX11_word 109 = .ok (.iinc 7 1, 3) := by decide +kernel
theorem dX11_word_112 : decode cX11_word 112 = .ok (.goto (-89), 3) := by decide +kernel
theorem dX11_word_115 : decode cX11_word 115 = .ok (.iload 6, 2) := by decide +kernel
theorem dX11_word_117 : decode cX11_word 117 = .ok (.ireturn, 1) := by decide +kernel
theorem dX11_clear_0 : decode cX11_clear 0 = .ok (.aload_n 0, 1) := by decide +kernel
theorem dX11_clear_1 : decode cX11_clear 1 = .ok (.getfield 26, 3) := by decide +kernel
theorem dX11_clear_4 : decode cX11_clear 4 = .ok (.invokevirtual 344, 3) := by decide +kernel
theorem dX11_clear_7 : decode cX11_clear 7 = .ok (.return_, 1) := by decide +kernel
theorem dX11_image_0 : decode cX11_image 0 = .ok (.aload_n 0, 1) := by decide +kernel
theorem dX11_image_1 : decode cX11_image 1 = .ok (.getfield 30, 3) := by decide +kernel
theorem dX11_image_4 : decode cX11_image 4 = .ok (.aload_n 0, 1) := by decide +kernel
theorem dX11_image_5 : decode cX11_image 5 = .ok (.getfield 26, 3) := by decide +kernel
theorem dX11_image_8 : decode cX11_image 8 = .ok (.invokevirtual 347, 3) := by decide +kernel
theorem dX11_image_11 : decode cX11_image 11 = .ok (.aload_n 0, 1) := by decide +kernel
theorem dX11_image_12 : decode cX11_image 12 = .ok (.iconst 1, 1) := by decide +kernel
theorem dX11_image_13 : decode cX11_image 13 = .ok (.putfield 33, 3) := by decide +kernel
theorem dX11_image_16 : decode cX11_image 16 = .ok (.return_, 1) := by decide +kernel
theorem dX11_restore_0 : decode cX11_restore 0 = .ok (.aload_n 0, 1) := by decide +kernel
theorem dX11_restore_1 : decode cX11_restore 1 = .ok (.getfield 33, 3) := by decide +kernel
theorem dX11_restore_4 : decode cX11_restore 4 = .ok (.ifCond .eq 14, 3) := by decide +kernel
theorem dX11_restore_7 : decode cX11_restore 7 = .ok (.aload_n 0, 1) := by decide +kernel
theorem dX11_restore_8 : decode cX11_restore 8 = .ok (.getfield 26, 3) := by decide +kernel
theorem dX11_restore_11 : decode cX11_restore 11 = .ok (.aload_n 0, 1) := by decide +kernel
theorem dX11_restore_12 : decode cX11_restore 12 = .ok (.getfield 30, 3) := by decide +kernel
theorem dX11_restore_15 : decode cX11_restore 15 = .ok (.invokevirtual 347, 3) := by decide +kernel
theorem dX11_restore_18 : decode cX11_restore 18 = .ok (.aload_n 0, 1) := by decide +kernel
theorem dX11_restore_19 : decode cX11_restore 19 = .ok (.getfield 33, 3) := by decide +kernel
theorem dX11_restore_22 : decode cX11_restore 22 = .ok (.ireturn, 1) := by decide +kernel
theorem dX11_isPlace_0 : decode cX11_isPlace 0 = .ok (.iload_n 0, 1) := by decide +kernel
theorem dX11_isPlace_1 : decode cX11_isPlace 1 = .ok (.ifCond .lt 23, 3) := by decide +kernel
theorem dX11_isPlace_4 : decode cX11_isPlace 4 = .ok (.iload_n 0, 1) := by decide +kernel
theorem dX11_isPlace_5 : decode cX11_isPlace 5 = .ok (.bipush 41, 2) := by decide +kernel
theorem dX11_isPlace_7 : decode cX11_isPlace 7 = .ok (.if_icmp .ge 17, 3) := by decide +kernel
theorem dX11_isPlace_10 : decode cX11_isPlace 10 = .ok (.iload_n 1, 1) := by decide +kernel
theorem dX11_isPlace_11 : decode cX11_isPlace 11 = .ok (.ifCond .lt 13, 3) := by decide +kernel
theorem dX11_isPlace_14 : decode cX11_isPlace 14 = .ok (.iload_n 1, 1) := by decide +kernel
theorem dX11_isPlace_15 : decode cX11_isPlace 15 = .ok (.bipush 41, 2) := by decide +kernel
theorem dX11_isPlace_17 : decode cX11_isPlace 17 = .ok (.if_icmp .ge 7, 3) := by decide +kernel
theorem dX11_isPlace_20 : decode cX11_isPlace 20 = .ok (.iconst 1, 1) := by decide +kernel
theorem dX11_isPlace_21 : decode cX11_isPlace 21 = .ok (.goto 4, 3) := by decide +kernel
theorem dX11_isPlace_24 : decode cX11_isPlace 24 = .ok (.iconst 0, 1) := by decide +kernel
theorem dX11_isPlace_25 : decode cX11_isPlace 25 = .ok (.ireturn, 1) := by decide +kernel
theorem dX11_isYear_0 : decode cX11_isYear 0 = .ok (.iload_n 0, 1) := by decide +kernel
theorem dX11_isYear_1 : decode cX11_isYear 1 = .ok (.ifCond .lt 13, 3) := by decide +kernel
theorem dX11_isYear_4 : decode cX11_isYear 4 = .ok (.iload_n 0, 1) := by decide +kernel
theorem dX11_isYear_5 : decode cX11_isYear 5 = .ok (.bipush 100, 2) := by decide +kernel
theorem dX11_isYear_7 : decode cX11_isYear 7 = .ok (.if_icmp .ge 7, 3) := by decide +kernel
theorem dX11_isYear_10 : decode cX11_isYear 10 = .ok (.iconst 1, 1) := by decide +kernel
theorem dX11_isYear_11 : decode cX11_isYear 11 = .ok (.goto 4, 3) := by decide +kernel
theorem dX11_isYear_14 : decode cX11_isYear 14 = .ok (.iconst 0, 1) := by decide +kernel
theorem dX11_isYear_15 : decode cX11_isYear 15 = .ok (.ireturn, 1) := by decide +kernel
theorem dX11_isTone_0 : decode cX11_isTone 0 = .ok (.iload_n 0, 1) := by decide +kernel
theorem dX11_isTone_1 : decode cX11_isTone 1 = .ok (.ifCond .lt 12, 3) := by decide +kernel
theorem dX11_isTone_4 : decode cX11_isTone 4 = .ok (.iload_n 0, 1) := by decide +kernel
theorem dX11_isTone_5 : decode cX11_isTone 5 = .ok (.iconst 3, 1) := by decide +kernel
theorem dX11_isTone_6 : decode cX11_isTone 6 = .ok (.if_icmp .ge 7, 3) := by decide +kernel
theorem dX11_isTone_9 : decode cX11_isTone 9 = .ok (.iconst 1, 1) := by decide +kernel
theorem dX11_isTone_10 : decode cX11_isTone 10 = .ok (.goto 4, 3) := by decide +kernel
theorem dX11_isTone_13 : decode cX11_isTone 13 = .ok (.iconst 0, 1) := by decide +kernel
theorem dX11_isTone_14 : decode cX11_isTone 14 = .ok (.ireturn, 1) := by decide +kernel
theorem dX11_needLand_0 : decode cX11_needLand 0 = .ok (.iload_n 1, 1) := by decide +kernel
theorem dX11_needLand_1 : decode cX11_needLand 1 = .ok (.ifCond .lt 9, 3) := by decide +kernel
theorem dX11_needLand_4 : decode cX11_needLand 4 = .ok (.iload_n 1, 1) := by decide +kernel
theorem dX11_needLand_5 : decode cX11_needLand 5 = .ok (.bipush 6, 2) := by decide +kernel
theorem dX11_needLand_7 : decode cX11_needLand 7 = .ok (.if_icmp .lt 14, 3) := by decide +kernel
theorem dX11_needLand_10 : decode cX11_needLand 10 = .ok (.new 115, 3) := by decide +kernel
theorem dX11_needLand_13 : decode cX11_needLand 13 = .ok (.dup, 1) := by decide +kernel
theorem dX11_needLand_14 : decode cX11_needLand 14 = .ok (.ldc_w 351, 3) := by decide +kernel
theorem dX11_needLand_17 : decode cX11_needLand 17 = .ok (.invokespecial 119, 3) := by decide +kernel
theorem dX11_needLand_20 : decode cX11_needLand 20 = .ok (.athrow, 1) := by decide +kernel
theorem dX11_needLand_21 : decode cX11_needLand 21 = .ok (.aload_n 0, 1) := by decide +kernel
theorem dX11_needLand_22 : decode cX11_needLand 22 = .ok (.getfield 18, 3) := by decide +kernel
theorem dX11_needLand_25 : decode cX11_needLand 25 = .ok (.iload_n 1, 1) := by decide +kernel
theorem dX11_needLand_26 : decode cX11_needLand 26 = .ok (.aaload, 1) := by decide +kernel
theorem dX11_needLand_27 : decode cX11_needLand 27 = .ok (.areturn, 1) := by decide +kernel
theorem dX11_needClap_0 : decode cX11_needClap 0 = .ok (.aload_n 0, 1) := by decide +kernel
theorem dX11_needClap_1 : decode cX11_needClap 1 = .ok (.iload_n 1, 1) := by decide +kernel
theorem dX11_needClap_2 : decode cX11_needClap 2 = .ok (.invokevirtual 84, 3) := by decide +kernel
theorem dX11_needClap_5 : decode cX11_needClap 5 = .ok (.astore 6, 2) := by decide +kernel
theorem dX11_needClap_7 : decode cX11_needClap 7 = .ok (.iload_n 2, 1) := by decide +kernel
theorem dX11_needClap_8 : decode cX11_needClap 8 = .ok (.iload_n 3, 1) := by decide +kernel
theorem dX11_needClap_9 : decode cX11_needClap 9 = .ok (.invokestatic 318, 3) := by decide +kernel
theorem dX11_needClap_12 : decode cX11_needClap 12 = .ok (.iload 4, 2) := by decide +kernel
theorem dX11_needClap_14 : decode cX11_needClap 14 = .ok (.invokestatic 253, 3) := by decide +kernel
theorem dX11_needClap_17 : decode cX11_needClap 17 = .ok (.iload 5, 2) := by decide +kernel
theorem dX11_needClap_19 : decode cX11_needClap 19 = .ok (.invokestatic 294, 3) := by decide +kernel
theorem dX11_needClap_22 : decode cX11_needClap 22 = .ok (.aload 6, 2) := by decide +kernel
theorem dX11_needClap_24 : decode cX11_needClap 24 = .ok (.areturn, 1) := by decide +kernel
theorem dX11_needStation_0 : decode cX11_needStation 0 = .ok (.iload_n 1, 1) := by decide +kernel
theorem dX11_needStation_1 : decode cX11_needStation 1 = .ok (.ifCond .lt 14, 3) := by decide +kernel
theorem dX11_needStation_4 : decode cX11_needStation 4 = .ok (.iload_n 1, 1) := by decide +kernel
theorem dX11_needStation_5 : decode cX11_needStation 5 = .ok (.aload_n 0, 1) := by decide +kernel
theorem dX11_needStation_6 : decode cX11_needStation 6 = .ok (.getfield 26, 3) := by decide +kernel
theorem dX11_needStation_9 : decode cX11_needStation 9 = .ok (.getfield 109, 3) := by decide +kernel
theorem dX11_needStation_12 : decode cX11_needStation 12 = .ok (.if_icmp .lt 14, 3) := by decide +kernel
theorem dX11_needStation_15 : decode cX11_needStation 15 = .ok (.new 115, 3) := by decide +kernel
theorem dX11_needStation_18 : decode cX11_needStation 18 = .ok (.dup, 1) := by decide +kernel
theorem dX11_needStation_19 : decode cX11_needStation 19 = .ok (.ldc_w 353, 3) := by decide +kernel
theorem dX11_needStation_22 : decode cX11_needStation 22 = .ok (.invokespecial 119, 3) := by decide +kernel
theorem dX11_needStation_25 : decode cX11_needStation 25 = .ok (.athrow, 1) := by decide +kernel
theorem dX11_needStation_26 : decode cX11_needStation 26 = .ok (.aload_n 0, 1) := by decide +kernel
theorem dX11_needStation_27 : decode cX11_needStation 27 = .ok (.getfield 26, 3) := by decide +kernel
theorem dX11_needStation_30 : decode cX11_needStation 30 = .ok (.getfield 177, 3) := by decide +kernel
theorem dX11_needStation_33 : decode cX11_needStation 33 = .ok (.iload_n 1, 1) := by decide +kernel
theorem dX11_needStation_34 : decode cX11_needStation 34 = .ok (.aaload, 1) := by decide +kernel
theorem dX11_needStation_35 : decode cX11_needStation 35 = .ok (.areturn, 1) := by decide +kernel
theorem dX11_needNamed_0 : decode cX11_needNamed 0 = .ok (.aload_n 0, 1) := by decide +kernel
theorem dX11_needNamed_1 : decode cX11_needNamed 1 = .ok (.iload_n 1, 1) := by decide +kernel
theorem dX11_needNamed_2 : decode cX11_needNamed 2 = .ok (.invokevirtual 187, 3) := by decide +kernel
theorem dX11_needNamed_5 : decode cX11_needNamed 5 = .ok (.astore_n 2, 1) := by decide +kernel
theorem dX11_needNamed_6 : decode cX11_needNamed 6 = .ok (.aload_n 2, 1) := by decide +kernel
theorem dX11_needNamed_7 : decode cX11_needNamed 7 = .ok (.invokevirtual 213, 3) := by decide +kernel
theorem dX11_needNamed_10 : decode cX11_needNamed 10 = .ok (.ifCond .ne 14, 3) := by decide +kernel
theorem dX11_needNamed_13 : decode cX11_needNamed 13 = .ok (.new 115, 3) := by decide +kernel
theorem dX11_needNamed_16 : decode cX11_needNamed 16 = .ok (.dup, 1) := by decide +kernel
theorem dX11_needNamed_17 : decode cX11_needNamed 17 = .ok (.ldc_w 355, 3) := by decide +kernel
theorem dX11_needNamed_20 : decode cX11_needNamed 20 = .ok (.invokespecial 119, 3) := by decide +kernel
theorem dX11_needNamed_23 : decode cX11_needNamed 23 = .ok (.athrow, 1) := by decide +kernel
theorem dX11_needNamed_24 : decode cX11_needNamed 24 = .ok (.aload_n 2, 1) := by decide +kernel
theorem dX11_needNamed_25 : decode cX11_needNamed 25 = .ok (.areturn, 1) := by decide +kernel
theorem dX11_needPlace_0 : decode cX11_needPlace 0 = .ok (.iload_n 0, 1) := by decide +kernel
theorem dX11_needPlace_1 : decode cX11_needPlace 1 = .ok (.iload_n 1, 1) := by decide +kernel
theorem dX11_needPlace_2 : decode cX11_needPlace 2 = .ok (.invokestatic 166, 3) := by decide +kernel
theorem dX11_needPlace_5 : decode cX11_needPlace 5 = .ok (.ifCond .ne 14, 3) := by decide +kernel
theorem dX11_needPlace_8 : decode cX11_needPlace 8 = .ok (.new 115, 3) := by decide +kernel
theorem dX11_needPlace_11 : decode cX11_needPlace 11 = .ok (.dup, 1) := by decide +kernel
theorem dX11_needPlace_12 : decode cX11_needPlace 12 = .ok (.ldc_w 357, 3) := by decide +kernel
theorem dX11_needPlace_15 : decode cX11_needPlace 15 = .ok (.invokespecial 119, 3) := by decide +kernel
theorem dX11_needPlace_18 : decode cX11_needPlace 18 = .ok (.athrow, 1) := by decide +kernel
theorem dX11_needPlace_19 : decode cX11_needPlace 19 = .ok (.return_, 1) := by decide +kernel
theorem dX11_needYear_0 : decode cX11_needYear 0 = .ok (.iload_n 0, 1) := by decide +kernel
theorem dX11_needYear_1 : decode cX11_needYear 1 = .ok (.invokestatic 170, 3) := by decide +kernel
theorem dX11_needYear_4 : decode cX11_needYear 4 = .ok (.ifCond .ne 14, 3) := by decide +kernel
theorem dX11_needYear_7 : decode cX11_needYear 7 = .ok (.new 115, 3) := by decide +kernel
theorem dX11_needYear_10 : decode cX11_needYear 10 = .ok (.dup, 1) := by decide +kernel
theorem dX11_needYear_11 : decode cX11_needYear 11 = .ok (.ldc_w 359, 3) := by decide +kernel
theorem dX11_needYear_14 : decode cX11_needYear 14 = .ok (.invokespecial 119, 3) := by decide +kernel
theorem dX11_needYear_17 : decode cX11_needYear 17 = .ok (.athrow, 1) := by decide +kernel
theorem dX11_needYear_18 : decode cX11_needYear 18 = .ok (.return_, 1) := by decide +kernel
theorem dX11_needTone_0 : decode cX11_needTone 0 = .ok (.iload_n 0, 1) := by decide +kernel
theorem dX11_needTone_1 : decode cX11_needTone 1 = .ok (.invokestatic 174, 3) := by decide +kernel
theorem dX11_needTone_4 : decode cX11_needTone 4 = .ok (.ifCond .ne 14, 3) := by decide +kernel
theorem dX11_needTone_7 : decode cX11_needTone 7 = .ok (.new 115, 3) := by decide +kernel
theorem dX11_needTone_10 : decode cX11_needTone 10 = .ok (.dup, 1) := by decide +kernel
theorem dX11_needTone_11 : decode cX11_needTone 11 = .ok (.ldc_w 361, 3) := by decide +kernel
theorem dX11_needTone_14 : decode cX11_needTone 14 = .ok (.invokespecial 119, 3) := by decide +kernel
theorem dX11_needTone_17 : decode cX11_needTone 17 = .ok (.athrow, 1) := by decide +kernel
theorem dX11_needTone_18 : decode cX11_needTone 18 = .ok (.return_, 1) := by decide +kernel
theorem dX11_wayRoot_0 : decode cX11_wayRoot 0 = .ok (.sipush 10000, 3) := by decide +kernel
theorem dX11_wayRoot_3 : decode cX11_wayRoot 3 = .ok (.iload_n 0, 1) := by decide +kernel
theorem dX11_wayRoot_4 : decode cX11_wayRoot 4 = .ok (.imul, 1) := by decide +kernel
theorem dX11_wayRoot_5 : decode cX11_wayRoot 5 = .ok (.istore_n 1, 1) := by decide +kernel
theorem dX11_wayRoot_6 : decode cX11_wayRoot 6 = .ok (.iconst 0, 1) := by decide +kernel
theorem dX11_wayRoot_7 : decode cX11_wayRoot 7 = .ok (.istore_n 2, 1) := by decide +kernel
theorem dX11_wayRoot_8 : decode cX11_wayRoot 8 = .ok (.sipush 8192, 3) := by decide +kernel
theorem dX11_wayRoot_11 : decode cX11_wayRoot 11 = .ok (.istore_n 3, 1) := by decide +kernel
theorem dX11_wayRoot_12 : decode cX11_wayRoot 12 = .ok (.iload_n 3, 1) := by decide +kernel
theorem dX11_wayRoot_13 : decode cX11_wayRoot 13 = .ok (.ifCond .le 27, 3) := by decide +kernel
theorem dX11_wayRoot_16 : decode cX11_wayRoot 16 = .ok (.iload_n 2, 1) := by decide +kernel
theorem dX11_wayRoot_17 : decode cX11_wayRoot 17 = .ok (.iload_n 3, 1) := by decide +kernel
theorem dX11_wayRoot_18 : decode cX11_wayRoot 18 = .ok (.ior, 1) := by decide +kernel
theorem dX11_wayRoot_19 : decode cX11_wayRoot 19 = .ok (.istore 4, 2) := by decide +kernel
theorem dX11_wayRoot_21 : decode cX11_wayRoot 21 = .ok (.iload 4, 2) := by decide +kernel
theorem dX11_wayRoot_23 : decode cX11_wayRoot 23 = .ok (.iload 4, 2) := by decide +kernel
theorem dX11_wayRoot_25 : decode cX11_wayRoot 25 = .ok (.imul, 1) := by decide +kernel
theorem dX11_wayRoot_26 : decode cX11_wayRoot 26 = .ok (.iload_n 1, 1) := by decide +kernel
theorem dX11_wayRoot_27 : decode cX11_wayRoot 27 = .ok (.if_icmp .gt 6, 3) := by decide +kernel
theorem dX11_wayRoot_30 : decode cX11_wayRoot 30 = .ok (.iload 4, 2) := by decide +kernel
theorem dX11_wayRoot_32 : decode cX11_wayRoot 32 = .ok (.istore_n 2, 1) := by decide +kernel
theorem dX11_wayRoot_33 : decode cX11_wayRoot 33 = .ok (.iload_n 3, 1) := by decide +kernel
theorem dX11_wayRoot_34 : decode cX11_wayRoot 34 = .ok (.iconst 1, 1) := by decide +kernel
theorem dX11_wayRoot_35 : decode cX11_wayRoot 35 = .ok (.ishr, 1) := by decide +kernel
theorem dX11_wayRoot_36 : decode cX11_wayRoot 36 = .ok (.istore_n 3, 1) := by decide +kernel
theorem dX11_wayRoot_37 : decode cX11_wayRoot 37 = .ok (.goto (-25), 3) := by decide +kernel
theorem dX11_wayRoot_40 : decode cX11_wayRoot 40 = .ok (.iload_n 2, 1) := by decide +kernel
theorem dX11_wayRoot_41 : decode cX11_wayRoot 41 = .ok (.ireturn, 1) := by decide +kernel
theorem dX11_byAir_0 : decode cX11_byAir 0 = .ok (.iload_n 1, 1) := by decide +kernel
theorem dX11_byAir_1 : decode cX11_byAir 1 = .ok (.ifCond .le 9, 3) := by decide +kernel
theorem dX11_byAir_4 : decode cX11_byAir 4 = .ok (.iload_n 0, 1) := by decide +kernel
theorem dX11_byAir_5 : decode cX11_byAir 5 = .ok (.iload_n 1, 1) := by decide +kernel
theorem dX11_byAir_6 : decode cX11_byAir 6 = .ok (.idiv, 1) := by decide +kernel
theorem dX11_byAir_7 : decode cX11_byAir 7 = .ok (.goto 4, 3) := by decide +kernel
theorem dX11_byAir_10 : decode cX11_byAir 10 = .ok (.iconst 0, 1) := by decide +kernel
theorem dX11_byAir_11 : decode cX11_byAir 11 = .ok (.ireturn, 1) := by decide +kernel
theorem dX11_distanceSquare_0 : decode cX11_distanceSquare 0 = .ok (.iload_n 2, 1) := by decide +kernel
theorem dX11_distanceSquare_1 : decode cX11_distanceSquare 1 = .ok (.iload_n 0, 1) := by decide +kernel
theorem dX11_distanceSquare_2 : decode cX11_distanceSquare 2 = .ok (.isub, 1) := by decide +kernel
theorem dX11_distanceSquare_3 : decode cX11_distanceSquare 3 = .ok (.iload_n 2, 1) := by decide +kernel
theorem dX11_distanceSquare_4 : decode cX11_distanceSquare 4 = .ok (.iload_n 0, 1) := by decide +kernel
theorem dX11_distanceSquare_5 : decode cX11_distanceSquare 5 = .ok (.isub, 1) := by decide +kernel
theorem dX11_distanceSquare_6 : decode cX11_distanceSquare 6 = .ok (.imul, 1) := by decide +kernel
theorem dX11_distanceSquare_7 : decode cX11_distanceSquare 7 = .ok (.iload_n 3, 1) := by decide +kernel
theorem dX11_distanceSquare_8 : decode cX11_distanceSquare 8 = .ok (.iload_n 1, 1) := by decide +kernel
theorem dX11_distanceSquare_9 : decode cX11_distanceSquare 9 = .ok (.isub, 1) := by decide +kernel
theorem dX11_distanceSquare_10 : decode cX11_distanceSquare 10 = .ok (.iload_n 3, 1) := by decide +kernel
theorem dX11_distanceSquare_11 : decode cX11_distanceSquare 11 = .ok (.iload_n 1, 1) := by decide +kernel
theorem dX11_distanceSquare_12 : decode cX11_distanceSquare 12 = .ok (.isub, 1) := by decide +kernel
theorem dX11_distanceSquare_13 : decode cX11_distanceSquare 13 = .ok (.imul, 1) := by decide +kernel
theorem dX11_distanceSquare_14 : decode cX11_distanceSquare 14 = .ok (.iadd, 1) := by decide +kernel
theorem dX11_distanceSquare_15 : decode cX11_distanceSquare 15 = .ok (.ireturn, 1) := by decide +kernel
theorem dX11_insert_0 : decode cX11_insert 0 = .ok (.iload_n 1, 1) := by decide +kernel
theorem dX11_insert_1 : decode cX11_insert 1 = .ok (.istore_n 3, 1) := by decide +kernel
theorem dX11_insert_2 : decode cX11_insert 2 = .ok (.iload_n 3, 1) := by decide +kernel
theorem dX11_insert_3 : decode cX11_insert 3 = .ok (.ifCond .le 26, 3) := by decide +kernel
theorem dX11_insert_6 : decode cX11_insert 6 = .ok (.aload_n 0, 1) := by decide +kernel
theorem dX11_insert_7 : decode cX11_insert 7 = .ok (.iload_n 3, 1) := by decide +kernel
theorem dX11_insert_8 : decode cX11_insert 8 = .ok (.iconst 1, 1) := by decide +kernel
theorem dX11_insert_9 : decode cX11_insert 9 = .ok (.isub, 1) := by decide +kernel
theorem dX11_insert_10 : decode cX11_insert 10 = .ok (.iaload, 1) := by decide +kernel
theorem dX11_insert_11 : decode cX11_insert 11 = .ok (.iload_n 2, 1) := by decide +kernel
theorem dX11_insert_12 : decode cX11_insert 12 = .ok (.if_icmp .le 17, 3) := by decide +kernel
theorem dX11_insert_15 : decode cX11_insert 15 = .ok (.aload_n 0, 1) := by decide +kernel
theorem dX11_insert_16 : decode cX11_insert 16 = .ok (.iload_n 3, 1) := by decide +kernel
theorem dX11_insert_17 : decode cX11_insert 17 = .ok (.aload_n 0, 1) := by decide +kernel
theorem dX11_insert_18 : decode cX11_insert 18 = .ok (.iload_n 3, 1) := by decide +kernel
theorem dX11_insert_19 : decode cX11_insert 19 = .ok (.iconst 1, 1) := by decide +kernel
theorem dX11_insert_20 : decode cX11_insert 20 = .ok (.isub, 1) := by decide +kernel
theorem dX11_insert_21 : decode cX11_insert 21 = .ok (.iaload, 1) := by decide +kernel
theorem dX11_insert_22 : decode cX11_insert 22 = .ok (.iastore, 1) := by decide +kernel
theorem dX11_insert_23 : decode cX11_insert 23 = .ok (.iinc 3 (-1), 3) := by decide +kernel
theorem dX11_insert_26 : decode cX11_insert 26 = .ok (.goto (-24), 3) := by decide +kernel
theorem dX11_insert_29 : decode cX11_insert 29 = .ok (.aload_n 0, 1) := by decide +kernel
theorem dX11_insert_30 : decode cX11_insert 30 = .ok (.iload_n 3, 1) := by decide +kernel
theorem dX11_insert_31 : decode cX11_insert 31 = .ok (.iload_n 2, 1) := by decide +kernel
theorem dX11_insert_32 : decode cX11_insert 32 = .ok (.iastore, 1) := by decide +kernel
theorem dX11_insert_33 : decode cX11_insert 33 = .ok (.return_, 1) := by decide +kernel
theorem dX11_sameStart_0 : decode cX11_sameStart 0 = .ok (.iconst 0, 1) := by decide +kernel
theorem dX11_sameStart_1 : decode cX11_sameStart 1 = .ok (.istore_n 3, 1) := by decide +kernel
theorem dX11_sameStart_2 : decode cX11_sameStart 2 = .ok (.iload_n 3, 1) := by decide +kernel
theorem dX11_sameStart_3 : decode cX11_sameStart 3 = .ok (.iload_n 2, 1) := by decide +kernel
theorem dX11_sameStart_4 : decode cX11_sameStart 4 = .ok (.if_icmp .ge 20, 3) := by decide +kernel
theorem dX11_sameStart_7 : decode cX11_sameStart 7 = .ok (.aload_n 0, 1) := by decide +kernel
theorem dX11_sameStart_8 : decode cX11_sameStart 8 = .ok (.iload_n 3, 1) := by decide +kernel
theorem dX11_sameStart_9 : decode cX11_sameStart 9 = .ok (.iaload, 1) := by decide +kernel
theorem dX11_sameStart_10 : decode cX11_sameStart 10 = .ok (.aload_n 1, 1) := by decide +kernel
theorem dX11_sameStart_11 : decode cX11_sameStart 11 = .ok (.iload_n 3, 1) := by decide +kernel
theorem dX11_sameStart_12 : decode cX11_sameStart 12 = .ok (.iaload, 1) := by decide +kernel
theorem dX11_sameStart_13 : decode cX11_sameStart 13 = .ok (.if_icmp .eq 5, 3) := by decide +kernel
theorem dX11_sameStart_16 : decode cX11_sameStart 16 = .ok (.iconst 0, 1) := by decide +kernel
theorem dX11_sameStart_17 : decode cX11_sameStart 17 = .ok (.ireturn, 1) := by decide +kernel
theorem dX11_sameStart_18 : decode cX11_sameStart 18 = .ok (.iinc 3 1, 3) := by decide +kernel
theorem dX11_sameStart_21 : decode cX11_sameStart 21 = .ok (.goto (-19), 3) := by decide +kernel
theorem dX11_sameStart_24 : decode cX11_sameStart 24 = .ok (.iconst 1, 1) := by decide +kernel
theorem dX11_sameStart_25 : decode cX11_sameStart 25 = .ok (.ireturn, 1) := by decide +kernel
theorem dX12_init_0 : decode cX12_init 0 = .ok (.aload_n 0, 1) := by decide +kernel
theorem dX12_init_1 : decode cX12_init 1 = .ok (.invokespecial 1, 3) := by decide +kernel
theorem dX12_init_4 : decode cX12_init 4 = .ok (.aload_n 0, 1) := by decide +kernel
theorem dX12_init_5 : decode cX12_init 5 = .ok (.bipush 6, 2) := by decide +kernel
theorem dX12_init_7 : decode cX12_init 7 = .ok (.anewarray 7, 3) := by decide +kernel
theorem dX12_init_10 : decode cX12_init 10 = .ok (.dup, 1) := by decide +kernel
theorem dX12_init_11 : decode cX12_init 11 = .ok (.iconst 0, 1) := by decide +kernel
theorem dX12_init_12 : decode cX12_init 12 = .ok (.ldc 9, 2) := by decide +kernel
theorem dX12_init_14 : decode cX12_init 14 = .ok (.aastore, 1) := by decide +kernel
theorem dX12_init_15 : decode cX12_init 15 = .ok (.dup, 1) := by decide +kernel
theorem dX12_init_16 : decode cX12_init 16 = .ok (.iconst 1, 1) := by decide +kernel
theorem dX12_init_17 : decode cX12_init 17 = .ok (.ldc 11, 2) := by decide +kernel
theorem dX12_init_19 : decode cX12_init 19 = .ok (.aastore, 1) := by decide +kernel
theorem dX12_init_20 : decode cX12_init 20 = .ok (.dup, 1) := by decide +kernel
theorem dX12_init_21 : decode cX12_init 21 = .ok (.iconst 2, 1) := by decide +kernel
theorem dX12_init_22 : decode cX12_init 22 = .ok (.ldc 13, 2) := by decide +kernel
theorem dX12_init_24 : decode cX12_init 24 = .ok (.aastore, 1) := by decide +kernel
theorem dX12_init_25 : decode cX12_init 25 = .ok (.dup, 1) := by decide +kernel
theorem dX12_init_26 : decode cX12_init 26 = .ok (.iconst 3, 1) := by decide +kernel
theorem dX12_init_27 : decode cX12_init 27 = .ok (.ldc 15, 2) := by decide +kernel
theorem dX12_init_29 : decode cX12_init 29 = .ok (.aastore, 1) := by decide +kernel
theorem dX12_init_30 : decode cX12_init 30 = .ok (.dup, 1) := by decide +kernel
theorem dX12_init_31 : decode cX12_init 31 = .ok (.iconst 4, 1) := by decide +kernel
theorem dX12_init_32 : decode cX12_init 32 = .ok (.ldc 17, 2) := by decide +kernel
theorem dX12_init_34 : decode cX12_init 34 = .ok (.aastore, 1) := by decide +kernel
theorem dX12_init_35 : decode cX12_init 35 = .ok (.dup, 1) := by decide +kernel
theorem dX12_init_36 : decode cX12_init 36 = .ok (.iconst 5, 1) := by decide +kernel
theorem dX12_init_37 : decode cX12_init 37 = .ok (.ldc 19, 2) := by decide +kernel
theorem dX12_init_39 : decode cX12_init 39 = .ok (.aastore, 1) := by decide +kernel
theorem dX12_init_40 : decode cX12_init 40 = .ok (.putfield 21, 3) := by decide +kernel
theorem dX12_init_43 : decode cX12_init 43 = .ok (.aload_n 0, 1) := by decide +kernel
theorem dX12_init_44 : decode cX12_init 44 = .ok (.bipush 7, 2) := by decide +kernel
theorem dX12_init_46 : decode cX12_init 46 = .ok (.newarray .int, 2) := by decide +kernel
theorem dX12_init_48 : decode cX12_init 48 = .ok (.putfield 27, 3) := by decide +kernel
theorem dX12_init_51 : decode cX12_init 51 = .ok (.aload_n 0, 1) := by decide +kernel
theorem dX12_init_52 : decode cX12_init 52 = .ok (.bipush 7, 2) := by decide +kernel
theorem dX12_init_54 : decode cX12_init 54 = .ok (.newarray .int, 2) := by decide +kernel
theorem dX12_init_56 : decode cX12_init 56 = .ok (.putfield 31, 3) := by decide +kernel
theorem dX12_init_59 : decode cX12_init 59 = .ok (.aload_n 0, 1) := by decide +kernel
theorem dX12_init_60 : decode cX12_init 60 = .ok (.bipush 7, 2) := by decide +kernel
theorem dX12_init_62 : decode cX12_init 62 = .ok (.newarray .int, 2) := by decide +kernel
theorem dX12_init_64 : decode cX12_init 64 = .ok (.putfield 34, 3) := by decide +kernel
theorem dX12_init_67 : decode cX12_init 67 = .ok (.aload_n 0, 1) := by decide +kernel
theorem dX12_init_68 : decode cX12_init 68 = .ok (.bipush 7, 2) := by decide +kernel
theorem dX12_init_70 : decode cX12_init 70 = .ok (.newarray .int, 2) := by decide +kernel
theorem dX12_init_72 : decode cX12_init 72 = .ok (.putfield 37, 3) := by decide +kernel
theorem dX12_init_75 : decode cX12_init 75 = .ok (.aload_n 0, 1) := by decide +kernel
theorem dX12_init_76 : decode cX12_init 76 = .ok (.bipush 7, 2) := by decide +kernel
theorem dX12_init_78 : decode cX12_init 78 = .ok (.newarray .int, 2) := by decide +kernel
theorem dX12_init_80 : decode cX12_init 80 = .ok (.putfield 39, 3) := by decide +kernel
theorem dX12_init_83 : decode cX12_init 83 = .ok (.aload_n 0, 1) := by decide +kernel
theorem dX12_init_84 : decode cX12_init 84 = .ok (.sipush 280, 3) := by decide +kernel
theorem dX12_init_87 : decode cX12_init 87 = .ok (.newarray .int, 2) := by decide +kernel
theorem dX12_init_89 : decode cX12_init 89 = .ok (.putfield 41, 3) := by decide +kernel
theorem dX12_init_92 : decode cX12_init 92 = .ok (.aload_n 0, 1) := by decide +kernel
theorem dX12_init_93 : decode cX12_init 93 = .ok (.sipush 280, 3) := by decide +kernel
theorem dX12_init_96 : decode cX12_init 96 = .ok (.newarray .int, 2) := by decide +kernel
theorem dX12_init_98 : decode cX12_init 98 = .ok (.putfield 44, 3) := by decide +kernel
theorem dX12_init_101 : decode cX12_init 101 = .ok (.aload_n 0, 1) := by decide +kernel
theorem dX12_init_102 : decode cX12_init 102 = .ok (.sipush 196, 3) := by decide +kernel
theorem dX12_init_105 : decode cX12_init 105 = .ok (.newarray .int, 2) := by decide +kernel
theorem dX12_init_107 : decode cX12_init 107 = .ok (.putfield 46, 3) := by decide +kernel
theorem dX12_init_110 : decode cX12_init 110 = .ok (.aload_n 0, 1) := by decide +kernel
theorem dX12_init_111 : decode cX12_init 111 = .ok (.iconst 4, 1) := by decide +kernel
theorem dX12_init_112 : decode cX12_init 112 = .ok (.newarray .int, 2) := by decide +kernel
theorem dX12_init_114 : decode cX12_init 114 = .ok (.putfield 48, 3) := by decide +kernel
theorem dX12_init_117 : decode cX12_init 117 = .ok (.aload_n 0, 1) := by decide +kernel
theorem dX12_init_118 : decode cX12_init 118 = .ok (.sipush 700, 3) := by decide +kernel
theorem dX12_init_121 : decode cX12_init 121 = .ok (.newarray .int, 2) := by decide +kernel
theorem dX12_init_123 : decode cX12_init 123 = .ok (.putfield 51, 3) := by decide +kernel
theorem dX12_init_126 : decode cX12_init 126 = .ok (.aload_n 0, 1) := by decide +kernel
theorem dX12_init_127 : decode cX12_init 127 = .ok (.iconst (-1), 1) := by decide +kernel
theorem dX12_init_128 : decode cX12_init 128 = .ok (.putfield 54, 3) := by decide +kernel
theorem dX12_init_131 : decode cX12_init 131 = .ok (.aload_n 0, 1) := by decide +kernel
theorem dX12_init_132 : decode cX12_init 132 = .ok (.bipush 80, 2) := by decide +kernel
theorem dX12_init_134 : decode cX12_init 134 = .ok (.newarray .int, 2) := by decide +kernel
theorem dX12_init_136 : decode cX12_init 136 = .ok (.putfield 58, 3) := by decide +kernel
theorem dX12_init_139 : decode cX12_init 139 = .ok (.aload_n 0, 1) := by decide +kernel
theorem dX12_init_140 : decode cX12_init 140 = .ok (.bipush 80, 2) := by decide +kernel
theorem dX12_init_142 : decode cX12_init 142 = .ok (.newarray .int, 2) := by decide +kernel
theorem dX12_init_144 : decode cX12_init 144 = .ok (.putfield 61, 3) := by decide +kernel
theorem dX12_init_147 : decode cX12_init 147 = .ok (.aload_n 0, 1) := by decide +kernel
theorem dX12_init_148 : decode cX12_init 148 = .ok (.bipush 80, 2) := by decide +kernel
theorem dX12_init_150 : decode cX12_init 150 = .ok (.newarray .int, 2) := by decide +kernel
theorem dX12_init_152 : decode cX12_init 152 = .ok (.putfield 64, 3) := by decide +kernel
theorem dX12_init_155 : decode cX12_init 155 = .ok (.aload_n 0, 1) := by decide +kernel
theorem dX12_init_156 : decode cX12_init 156 = .ok (.bipush 80, 2) := by decide +kernel
theorem dX12_init_158 : decode cX12_init 158 = .ok (.newarray .int, 2) := by decide +kernel
theorem dX12_init_160 : decode cX12_init 160 = .ok (.putfield 67, 3) := by decide +kernel
theorem dX12_init_163 : decode cX12_init 163 = .ok (.aload_n 0, 1) := by decide +kernel
theorem dX12_init_164 : decode cX12_init 164 = .ok (.bipush 20, 2) := by decide +kernel
theorem dX12_init_166 : decode cX12_init 166 = .ok (.newarray .int, 2) := by decide +kernel
theorem dX12_init_168 : decode cX12_init 168 = .ok (.putfield 70, 3) := by decide +kernel
theorem dX12_init_171 : decode cX12_init 171 = .ok (.aload_n 0, 1) := by decide +kernel
theorem dX12_init_172 : decode cX12_init 172 = .ok (.bipush 20, 2) := by decide +kernel
theorem dX12_init_174 : decode cX12_init 174 = .ok (.newarray .int, 2) := by decide +kernel
theorem dX12_init_176 : decode cX12_init 176 = .ok (.putfield 73, 3) := by decide +kernel
theorem dX12_init_179 : decode cX12_init 179 = .ok (.aload_n 0, 1) := by decide +kernel
theorem dX12_init_180 : decode cX12_init 180 = .ok (.bipush 20, 2) := by decide +kernel
theorem dX12_init_182 : decode cX12_init 182 = .ok (.newarray .int, 2) := by decide +kernel
theorem dX12_init_184 : decode cX12_init 184 = .ok (.putfield 76, 3) := by decide +kernel
theorem dX12_init_187 : decode cX12_init 187 = .ok (.aload_n 0, 1) := by decide +kernel
theorem dX12_init_188 : decode cX12_init 188 = .ok (.bipush 20, 2) := by decide +kernel
theorem dX12_init_190 : decode cX12_init 190 = .ok (.newarray .int, 2) := by decide +kernel
theorem dX12_init_192 : decode cX12_init 192 = .ok (.putfield 79, 3) := by decide +kernel
theorem dX12_init_195 : decode cX12_init 195 = .ok (.aload_n 0, 1) := by decide +kernel
theorem dX12_init_196 : decode cX12_init 196 = .ok (.bipush 20, 2) := by decide +kernel
theorem dX12_init_198 : decode cX12_init 198 = .ok (.newarray .int, 2) := by decide +kernel
theorem dX12_init_200 : decode cX12_init 200 = .ok (.putfield 82, 3) := by decide +kernel
theorem dX12_init_203 : decode cX12_init 203 = .ok (.aload_n 0, 1) := by decide +kernel
theorem dX12_init_204 : decode cX12_init 204 = .ok (.sipush 240, 3) := by decide +kernel
theorem dX12_init_207 : decode cX12_init 207 = .ok (.newarray .int, 2) := by decide +kernel
theorem dX12_init_209 : decode cX12_init 209 = .ok (.putfield 85, 3) := by decide +kernel
theorem dX12_init_212 : decode cX12_init 212 = .ok (.aload_n 0, 1) := by decide +kernel
theorem dX12_init_213 : decode cX12_init 213 = .ok (.sipush 240, 3) := by decide +kernel
theorem dX12_init_216 : decode cX12_init 216 = .ok (.newarray .int, 2) := by decide +kernel
theorem dX12_init_218 : decode cX12_init 218 = .ok (.putfield 88, 3) := by decide +kernel
theorem dX12_init_221 : decode cX12_init 221 = .ok (.aload_n 0, 1) := by decide +kernel
theorem dX12_init_222 : decode cX12_init 222 = .ok (.bipush 8, 2) := by decide +kernel
theorem dX12_init_224 : decode cX12_init 224 = .ok (.newarray .int, 2) := by decide +kernel
theorem dX12_init_226 : decode cX12_init 226 = .ok (.putfield 91, 3) := by decide +kernel
theorem dX12_init_229 : decode cX12_init 229 = .ok (.aload_n 0, 1) := by decide +kernel
theorem dX12_init_230 : decode cX12_init 230 = .ok (.bipush 8, 2) := by decide +kernel
theorem dX12_init_232 : decode cX12_init 232 = .ok (.newarray .int, 2) := by decide +kernel
theorem dX12_init_234 : decode cX12_init 234 = .ok (.putfield 94, 3) := by decide +kernel
theorem dX12_init_237 : decode cX12_init 237 = .ok (.aload_n 0, 1) := by decide +kernel
theorem dX12_init_238 : decode cX12_init 238 = .ok (.sipush 1640, 3) := by decide +kernel
theorem dX12_init_241 : decode cX12_init 241 = .ok (.newarray .int, 2) := by decide +kernel
theorem dX12_init_243 : decode cX12_init 243 = .ok (.putfield 97, 3) := by decide +kernel
theorem dX12_init_246 : decode cX12_init 246 = .ok (.aload_n 0, 1) := by decide +kernel
theorem dX12_init_247 : decode cX12_init 247 = .ok (.bipush 20, 2) := by decide +kernel
theorem dX12_init_249 : decode cX12_init 249 = .ok (.newarray .int, 2) := by decide +kernel
theorem dX12_init_251 : decode cX12_init 251 = .ok (.putfield 100, 3) := by decide +kernel
theorem dX12_init_254 : decode cX12_init 254 = .ok (.aload_n 0, 1) := by decide +kernel
theorem dX12_init_255 : decode cX12_init 255 = .ok (.ldc 103, 2) := by decide +kernel
theorem dX12_init_257 : decode cX12_init 257 = .ok (.newarray .int, 2) := by decide +kernel
theorem dX12_init_259 : decode cX12_init 259 = .ok (.putfield 104, 3) := by decide +kernel
theorem dX12_init_262 : decode cX12_init 262 = .ok (.aload_n 0, 1) := by decide +kernel
theorem dX12_init_263 : decode cX12_init 263 = .ok (.bipush 48, 2) := by decide +kernel
theorem dX12_init_265 : decode cX12_init 265 = .ok (.newarray .int, 2) := by decide +kernel
theorem dX12_init_267 : decode cX12_init 267 = .ok (.putfield 107, 3) := by decide +kernel
theorem dX12_init_270 : decode cX12_init 270 = .ok (.aload_n 0, 1) := by decide +kernel
theorem dX12_init_271 : decode cX12_init 271 = .ok (.bipush 64, 2) := by decide +kernel
theorem dX12_init_273 : decode cX12_init 273 = .ok (.newarray .int, 2) := by decide +kernel
theorem dX12_init_275 : decode cX12_init 275 = .ok (.putfield 110, 3) := by decide +kernel
theorem dX12_init_278 : decode cX12_init 278 = .ok (.aload_n 0, 1) := by decide +kernel
theorem dX12_init_279 : decode cX12_init 279 = .ok (.bipush 20, 2) := by decide +kernel
theorem dX12_init_281 : decode cX12_init 281 = .ok (.newarray .int, 2) := by decide +kernel
theorem dX12_init_283 : decode cX12_init 283 = .ok (.putfield 113, 3) := by decide +kernel
theorem dX12_init_286 : decode cX12_init 286 = .ok (.aload_n 0, 1) := by decide +kernel
theorem dX12_init_287 : decode cX12_init 287 = .ok (.bipush 20, 2) := by decide +kernel
theorem dX12_init_289 : decode cX12_init 289 = .ok (.newarray .int, 2) := by decide +kernel
theorem dX12_init_291 : decode cX12_init 291 = .ok (.putfield 116, 3) := by decide +kernel
theorem dX12_init_294 : decode cX12_init 294 = .ok (.aload_n 0, 1) := by decide +kernel
theorem dX12_init_295 : decode cX12_init 295 = .ok (.bipush 20, 2) := by decide +kernel
theorem dX12_init_297 : decode cX12_init 297 = .ok (.newarray .int, 2) := by decide +kernel
theorem dX12_init_299 : decode cX12_init 299 = .ok (.putfield 119, 3) := by decide +kernel
theorem dX12_init_302 : decode cX12_init 302 = .ok (.aload_n 0, 1) := by decide +kernel
theorem dX12_init_303 : decode cX12_init 303 = .ok (.bipush 20, 2) := by decide +kernel
theorem dX12_init_305 : decode cX12_init 305 = .ok (.newarray .int, 2) := by decide +kernel
theorem dX12_init_307 : decode cX12_init 307 = .ok (.putfield 122, 3) := by decide +kernel
theorem dX12_init_310 : decode cX12_init 310 = .ok (.aload_n 0, 1) := by decide +kernel
theorem dX12_init_311 : decode cX12_init 311 = .ok (.bipush 20, 2) := by decide +kernel
theorem dX12_init_313 : decode cX12_init 313 = .ok (.newarray .int, 2) := by decide +kernel
theorem dX12_init_315 : decode cX12_init 315 = .ok (.putfield 125, 3) := by decide +kernel
theorem dX12_init_318 : decode cX12_init 318 = .ok (.aload_n 0, 1) := by decide +kernel
theorem dX12_init_319 : decode cX12_init 319 = .ok (.sipush 240, 3) := by decide +kernel
theorem dX12_init_322 : decode cX12_init 322 = .ok (.newarray .int, 2) := by decide +kernel
theorem dX12_init_324 : decode cX12_init 324 = .ok (.putfield 128, 3) := by decide +kernel
theorem dX12_init_327 : decode cX12_init 327 = .ok (.aload_n 0, 1) := by decide +kernel
theorem dX12_init_328 : decode cX12_init 328 = .ok (.sipush 240, 3) := by decide +kernel
theorem dX12_init_331 : decode cX12_init 331 = .ok (.newarray .int, 2) := by decide +kernel
theorem dX12_init_333 : decode cX12_init 333 = .ok (.putfield 131, 3) := by decide +kernel
theorem dX12_init_336 : decode cX12_init 336 = .ok (.aload_n 0, 1) := by decide +kernel
theorem dX12_init_337 : decode cX12_init 337 = .ok (.bipush 8, 2) := by decide +kernel
theorem dX12_init_339 : decode cX12_init 339 = .ok (.newarray .int, 2) := by decide +kernel
theorem dX12_init_341 : decode cX12_init 341 = .ok (.putfield 134, 3) := by decide +kernel
theorem dX12_init_344 : decode cX12_init 344 = .ok (.aload_n 0, 1) := by decide +kernel
theorem dX12_init_345 : decode cX12_init 345 = .ok (.bipush 8, 2) := by decide +kernel
theorem dX12_init_347 : decode cX12_init 347 = .ok (.newarray .int, 2) := by decide +kernel
theorem dX12_init_349 : decode cX12_init 349 = .ok (.putfield 137, 3) := by decide +kernel
theorem dX12_init_352 : decode cX12_init 352 = .ok (.aload_n 0, 1) := by decide +kernel
theorem dX12_init_353 : decode cX12_init 353 = .ok (.iconst 4, 1) := by decide +kernel
theorem dX12_init_354 : decode cX12_init 354 = .ok (.newarray .int, 2) := by decide +kernel
theorem dX12_init_356 : decode cX12_init 356 = .ok (.putfield 140, 3) := by decide +kernel
theorem dX12_init_359 : decode cX12_init 359 = .ok (.iconst 0, 1) := by decide +kernel
theorem dX12_init_360 : decode cX12_init 360 = .ok (.istore_n 1, 1) := by decide +kernel
theorem dX12_init_361 : decode cX12_init 361 = .ok (.iload_n 1, 1) := by decide +kernel
theorem dX12_init_362 : decode cX12_init 362 = .ok (.bipush 6, 2) := by decide +kernel
theorem dX12_init_364 : decode cX12_init 364 = .ok (.if_icmp .ge 14, 3) := by decide +kernel
theorem dX12_init_367 : decode cX12_init 367 = .ok (.aload_n 0, 1) := by decide +kernel
theorem dX12_init_368 : decode cX12_init 368 = .ok (.iload_n 1, 1) := by decide +kernel
theorem dX12_init_369 : decode cX12_init 369 = .ok (.invokevirtual 143, 3) := by decide +kernel
theorem dX12_init_372 : decode cX12_init 372 = .ok (.iinc 1 1, 3) := by decide +kernel
theorem dX12_init_375 : decode cX12_init 375 = .ok (.goto (-14), 3) := by decide +kernel
theorem dX12_init_378 : decode cX12_init 378 = .ok (.return_, 1) := by decide +kernel
theorem dX12_thrown_0 : decode cX12_thrown 0 = .ok (.aload_n 0, 1) := by decide +kernel
theorem dX12_thrown_1 : decode cX12_thrown 1 = .ok (.getfield 147, 3) := by decide +kernel
theorem dX12_thrown_4 : decode cX12_thrown 4 = .ok (.ireturn, 1) := by decide +kernel
theorem dX12_fail_0 : decode cX12_fail 0 = .ok (.aload_n 0, 1) := by decide +kernel
theorem dX12_fail_1 : decode cX12_fail 1 = .ok (.iload_n 1, 1) := by decide +kernel
theorem dX12_fail_2 : decode cX12_fail 2 = .ok (.putfield 147, 3) := by decide +kernel
theorem dX12_fail_5 : decode cX12_fail 5 = .ok (.iconst 0, 1) := by decide +kernel
theorem dX12_fail_6 : decode cX12_fail 6 = .ok (.ireturn, 1) := by decide +kernel
theorem dX12_isIn_0 : decode cX12_isIn 0 = .ok (.iload_n 0, 1) := by decide +kernel
theorem dX12_isIn_1 : decode cX12_isIn 1 = .ok (.iload_n 1, 1) := by decide +kernel
theorem dX12_isIn_2 : decode cX12_isIn 2 = .ok (.if_icmp .lt 12, 3) := by decide +kernel
theorem dX12_isIn_5 : decode cX12_isIn 5 = .ok (.iload_n 0, 1) := by decide +kernel
theorem dX12_isIn_6 : decode cX12_isIn 6 = .ok (.iload_n 2, 1) := by decide +kernel
theorem dX12_isIn_7 : decode cX12_isIn 7 = .ok (.if_icmp .gt 7, 3) := by decide +kernel
theorem dX12_isIn_10 : decode cX12_isIn 10 = .ok (.iconst 1, 1) := by decide +kernel
theorem dX12_isIn_11 : decode cX12_isIn 11 = .ok (.goto 4, 3) := by decide +kernel
theorem dX12_isIn_14 : decode cX12_isIn 14 = .ok (.iconst 0, 1) := by decide +kernel
theorem dX12_isIn_15 : decode cX12_isIn 15 = .ok (.ireturn, 1) := by decide +kernel
theorem dX12_atFirst_0 : decode cX12_atFirst 0 = .ok (.aload_n 0, 1) := by decide +kernel
theorem dX12_atFirst_1 : decode cX12_atFirst 1 = .ok (.getfield 27, 3) := by decide +kernel
theorem dX12_atFirst_4 : decode cX12_atFirst 4 = .ok (.iload_n 1, 1) := by decide +kernel
theorem dX12_atFirst_5 : decode cX12_atFirst 5 = .ok (.iconst 0, 1) := by decide +kernel
theorem dX12_atFirst_6 : decode cX12_atFirst 6 = .ok (.iastore, 1) := by decide +kernel
theorem dX12_atFirst_7 : decode cX12_atFirst 7 = .ok (.aload_n 0, 1) := by decide +kernel
theorem dX12_atFirst_8 : decode cX12_atFirst 8 = .ok (.getfield 31, 3) := by decide +kernel
theorem dX12_atFirst_11 : decode cX12_atFirst 11 = .ok (.iload_n 1, 1) := by decide +kernel
theorem dX12_atFirst_12 : decode cX12_atFirst 12 = .ok (.iconst 0, 1) := by decide +kernel
theorem dX12_atFirst_13 : decode cX12_atFirst 13 = .ok (.iastore, 1) := by decide +kernel
theorem dX12_atFirst_14 : decode cX12_atFirst 14 = .ok (.aload_n 0, 1) := by decide +kernel
theorem dX12_atFirst_15 : decode cX12_atFirst 15 = .ok (.getfield 34, 3) := by decide +kernel
theorem dX12_atFirst_18 : decode cX12_atFirst 18 = .ok (.iload_n 1, 1) := by decide +kernel
theorem dX12_atFirst_19 : decode cX12_atFirst 19 = .ok (.iconst 0, 1) := by decide +kernel
theorem dX12_atFirst_20 : decode cX12_atFirst 20 = .ok (.iastore, 1) := by decide +kernel
theorem dX12_atFirst_21 : decode cX12_atFirst 21 = .ok (.aload_n 0, 1) := by decide +kernel
theorem dX12_atFirst_22 : decode cX12_atFirst 22 = .ok (.getfield 37, 3) := by decide +kernel
theorem dX12_atFirst_25 : decode cX12_atFirst 25 = .ok (.iload_n 1, 1) := by decide +kernel
theorem dX12_atFirst_26 : decode cX12_atFirst 26 = .ok (.bipush 100, 2) := by decide +kernel
theorem dX12_atFirst_28 : decode cX12_atFirst 28 = .ok (.iastore, 1) := by decide +kernel
theorem dX12_atFirst_29 : decode cX12_atFirst 29 = .ok (.aload_n 0, 1) := by decide +kernel
theorem dX12_atFirst_30 : decode cX12_atFirst 30 = .ok (.getfield 39, 3) := by decide +kernel
theorem dX12_atFirst_33 : decode cX12_atFirst 33 = .ok (.iload_n 1, 1) := by decide +kernel
theorem dX12_atFirst_34 : decode cX12_atFirst 34 = .ok (.bipush 100, 2) := by decide +kernel
theorem dX12_atFirst_36 : decode cX12_atFirst 36 = .ok (.iastore, 1) := by decide +kernel
theorem dX12_atFirst_37 : decode cX12_atFirst 37 = .ok (.return_, 1) := by decide +kernel
theorem dX12_isLand_0 : decode cX12_isLand 0 = .ok (.iload_n 0, 1) := by decide +kernel
theorem dX12_isLand_1 : decode cX12_isLand 1 = .ok (.iconst 0, 1) := by decide +kernel
theorem dX12_isLand_2 : decode cX12_isLand 2 = .ok (.iconst 5, 1) := by decide +kernel
theorem dX12_isLand_3 : decode cX12_isLand 3 = .ok (.invokestatic 150, 3) := by decide +kernel
theorem dX12_isLand_6 : decode cX12_isLand 6 = .ok (.ireturn, 1) := by decide +kernel
theorem dX12_isPlace_0 : decode cX12_isPlace 0 = .ok (.iload_n 0, 1) := by decide +kernel
theorem dX12_isPlace_1 : decode cX12_isPlace 1 = .ok (.iconst 0, 1) := by decide +kernel
theorem dX12_isPlace_2 : decode cX12_isPlace 2 = .ok (.bipush 40, 2) := by decide +kernel
theorem dX12_isPlace_4 : decode cX12_isPlace 4 = .ok (.invokestatic 150, 3) := by decide +kernel
theorem dX12_isPlace_7 : decode cX12_isPlace 7 = .ok (.ifCond .eq 17, 3) := by decide +kernel
theorem dX12_isPlace_10 : decode cX12_isPlace 10 = .ok (.iload_n 1, 1) := by decide +kernel
theorem dX12_isPlace_11 : decode cX12_isPlace 11 = .ok (.iconst 0, 1) := by decide +kernel
theorem dX12_isPlace_12 : decode cX12_isPlace 12 = .ok (.bipush 40, 2) := by decide +kernel
theorem dX12_isPlace_14 : decode cX12_isPlace 14 = .ok (.invokestatic 150, 3) := by decide +kernel
theorem dX12_isPlace_17 : decode cX12_isPlace 17 = .ok (.ifCond .eq 7, 3) := by decide +kernel
theorem dX12_isPlace_20 : decode cX12_isPlace 20 = .ok (.iconst 1, 1) := by decide +kernel
theorem dX12_isPlace_21 : decode cX12_isPlace 21 = .ok (.goto 4, 3) := by decide +kernel
theorem dX12_isPlace_24 : decode cX12_isPlace 24 = .ok (.iconst 0, 1) := by decide +kernel
theorem dX12_isPlace_25 : decode cX12_isPlace 25 = .ok (.ireturn, 1) := by decide +kernel
theorem dX12_isYear_0 : decode cX12_isYear 0 = .ok (.iload_n 0, 1) := by decide +kernel
theorem dX12_isYear_1 : decode cX12_isYear 1 = .ok (.iconst 0, 1) := by decide +kernel
theorem dX12_isYear_2 : decode cX12_isYear 2 = .ok (.bipush 99, 2) := by decide +kernel
theorem dX12_isYear_4 : decode cX12_isYear 4 = .ok (.invokestatic 150, 3) := by decide +kernel
theorem dX12_isYear_7 : decode cX12_isYear 7 = .ok (.ireturn, 1) := by decide +kernel
theorem dX12_isTone_0 : decode cX12_isTone 0 = .ok (.iload_n 0, 1) := by decide +kernel
theorem dX12_isTone_1 : decode cX12_isTone 1 = .ok (.iconst 0, 1) := by decide +kernel
theorem dX12_isTone_2 : decode cX12_isTone 2 = .ok (.iconst 2, 1) := by decide +kernel
theorem dX12_isTone_3 : decode cX12_isTone 3 = .ok (.invokestatic 150, 3) := by decide +kernel
theorem dX12_isTone_6 : decode cX12_isTone 6 = .ok (.ireturn, 1) := by decide +kernel
theorem dX12_ofWall_0 : decode cX12_ofWall 0 = .ok (.aload_n 0, 1) := by decide +kernel
theorem dX12_ofWall_1 : decode cX12_ofWall 1 = .ok (.getfield 41, 3) := by decide +kernel
theorem dX12_ofWall_4 : decode cX12_ofWall 4 = .ok (.bipush 8, 2) := by decide +kernel
theorem dX12_ofWall_6 : decode cX12_ofWall 6 = .ok (.iload_n 1, 1) := by decide +kernel
theorem dX12_ofWall_7 : decode cX12_ofWall 7 = .ok (.imul, 1) := by decide +kernel
theorem dX12_ofWall_8 : decode cX12_ofWall 8 = .ok (.iload_n 2, 1) := by decide +kernel
theorem dX12_ofWall_9 : decode cX12_ofWall 9 = .ok (.iadd, 1) := by decide +kernel
theorem dX12_ofWall_10 : decode cX12_ofWall 10 = .ok (.iconst 5, 1) := by decide +kernel
theorem dX12_ofWall_11 : decode cX12_ofWall 11 = .ok (.imul, 1) := by decide +kernel
theorem dX12_ofWall_12 : decode cX12_ofWall 12 = .ok (.iload_n 3, 1) := by decide +kernel
theorem dX12_ofWall_13 : decode cX12_ofWall 13 = .ok (.iadd, 1) := by decide +kernel
theorem dX12_ofWall_14 : decode cX12_ofWall 14 = .ok (.iaload, 1) := by decide +kernel
theorem dX12_ofWall_15 : decode cX12_ofWall 15 = .ok (.ireturn, 1) := by decide +kernel
theorem dX12_ofBarn_0 : decode cX12_ofBarn 0 = .ok (.aload_n 0, 1) := by decide +kernel
theorem dX12_ofBarn_1 : decode cX12_ofBarn 1 = .ok (.getfield 44, 3) := by decide +kernel
theorem dX12_ofBarn_4 : decode cX12_ofBarn 4 = .ok (.bipush 8, 2) := by decide +kernel
theorem dX12_ofBarn_6 : decode cX12_ofBarn 6 = .ok (.iload_n 1, 1) := by decide +kernel
theorem dX12_ofBarn_7 : decode cX12_ofBarn 7 = .ok (.imul, 1) := by decide +kernel
theorem dX12_ofBarn_8 : decode cX12_ofBarn 8 = .ok (.iload_n 2, 1) := by decide +kernel
theorem dX12_ofBarn_9 : decode cX12_ofBarn 9 = .ok (.iadd, 1) := by decide +kernel
theorem dX12_ofBarn_10 : decode cX12_ofBarn 10 = .ok (.iconst 5, 1) := by decide +kernel
theorem dX12_ofBarn_11 : decode cX12_ofBarn 11 = .ok (.imul, 1) := by decide +kernel
theorem dX12_ofBarn_12 : decode cX12_ofBarn 12 = .ok (.iload_n 3, 1) := by decide +kernel
theorem dX12_ofBarn_13 : decode cX12_ofBarn 13 = .ok (.iadd, 1) := by decide +kernel
theorem dX12_ofBarn_14 : decode cX12_ofBarn 14 = .ok (.iaload, 1) := by decide +kernel
theorem dX12_ofBarn_15 : decode cX12_ofBarn 15 = .ok (.ireturn, 1) := by decide +kernel
theorem dX12_ofWood_0 : decode cX12_ofWood 0 = .ok (.aload_n 0, 1) := by decide +kernel
theorem dX12_ofWood_1 : decode cX12_ofWood 1 = .ok (.getfield 46, 3) := by decide +kernel
theorem dX12_ofWood_4 : decode cX12_ofWood 4 = .ok (.iconst 4, 1) := by decide +kernel
theorem dX12_ofWood_5 : decode cX12_ofWood 5 = .ok (.iload_n 1, 1) := by decide +kernel
theorem dX12_ofWood_6 : decode cX12_ofWood 6 = .ok (.imul, 1) := by decide +kernel
theorem dX12_ofWood_7 : decode cX12_ofWood 7 = .ok (.iload_n 2, 1) := by decide +kernel
theorem dX12_ofWood_8 : decode cX12_ofWood 8 = .ok (.iadd, 1) := by decide +kernel
theorem dX12_ofWood_9 : decode cX12_ofWood 9 = .ok (.bipush 7, 2) := by decide +kernel
theorem dX12_ofWood_11 : decode cX12_ofWood 11 = .ok (.imul, 1) := by decide +kernel
theorem dX12_ofWood_12 : decode cX12_ofWood 12 = .ok (.iload_n 3, 1) := by decide +kernel
theorem dX12_ofWood_13 : decode cX12_ofWood 13 = .ok (.iadd, 1) := by decide +kernel
theorem dX12_ofWood_14 : decode cX12_ofWood 14 = .ok (.iaload, 1) := by decide +kernel
theorem dX12_ofWood_15 : decode cX12_ofWood 15 = .ok (.ireturn, 1) := by decide +kernel
theorem dX12_feed_0 : decode cX12_feed 0 = .ok (.aload_n 0, 1) := by decide +kernel
theorem dX12_feed_1 : decode cX12_feed 1 = .ok (.iconst 0, 1) := by decide +kernel
theorem dX12_feed_2 : decode cX12_feed 2 = .ok (.putfield 147, 3) := by decide +kernel
theorem dX12_feed_5 : decode cX12_feed 5 = .ok (.aload_n 0, 1) := by decide +kernel
theorem dX12_feed_6 : decode cX12_feed 6 = .ok (.getfield 154, 3) := by decide +kernel
theorem dX12_feed_9 : decode cX12_feed 9 = .ok (.bipush 20, 2) := by decide +kernel
theorem dX12_feed_11 : decode cX12_feed 11 = .ok (.iadd, 1) := by decide +kernel
theorem dX12_feed_12 : decode cX12_feed 12 = .ok (.sipush 700, 3) := by decide +kernel
theorem dX12_feed_15 : decode cX12_feed 15 = .ok (.if_icmp .le 5, 3) := by decide +kernel
theorem dX12_feed_18 : decode cX12_feed 18 = .ok (.iconst (-1), 1) := by decide +kernel
theorem dX12_feed_19 : decode cX12_feed 19 = .ok (.ireturn, 1) := by decide +kernel
theorem dX12_feed_20 : decode cX12_feed 20 = .ok (.iconst 0, 1) := by decide +kernel
theorem dX12_feed_21 : decode cX12_feed 21 = .ok (.istore 6, 2) := by decide +kernel
theorem dX12_feed_23 : decode cX12_feed 23 = .ok (.iload 6, 2) := by decide +kernel
theorem dX12_feed_25 : decode cX12_feed 25 = .ok (.bipush 20, 2) := by decide +kernel
theorem dX12_feed_27 : decode cX12_feed 27 = .ok (.if_icmp .ge 93, 3) := by decide +kernel
theorem dX12_feed_30 : decode cX12_feed 30 = .ok (.iload 6, 2) := by decide +kernel
theorem dX12_feed_32 : decode cX12_feed 32 = .ok (.iconst 4, 1) := by decide +kernel
theorem dX12_feed_33 : decode cX12_feed 33 = .ok (.if_icmp .ge 7, 3) := by decide +kernel
theorem dX12_feed_36 : decode cX12_feed 36 = .ok (.iload_n 1, 1) := by decide +kernel
theorem dX12_feed_37 : decode cX12_feed 37 = .ok (.goto 39, 3) := by decide +kernel
theorem dX12_feed_40 : decode cX12_feed 40 = .ok (.iload 6, 2) := by decide +kernel
theorem dX12_feed_42 : decode cX12_feed 42 = .ok (.bipush 8, 2) := by decide +kernel
theorem dX12_feed_44 : decode cX12_feed 44 = .ok (.if_icmp .ge 7, 3) := by decide +kernel
theorem dX12_feed_47 : decode cX12_feed 47 = .ok (.iload_n 2, 1) := by decide +kernel
theorem dX12_feed_48 : decode cX12_feed 48 = .ok (.goto 28, 3) := by decide +kernel
theorem dX12_feed_51 : decode cX12_feed 51 = .ok (.iload 6, 2) := by decide +kernel
theorem dX12_feed_53 : decode cX12_feed 53 = .ok (.bipush 12, 2) := by decide +kernel
theorem dX12_feed_55 : decode cX12_feed 55 = .ok (.if_icmp .ge 7, 3) := by decide +kernel
theorem dX12_feed_58 : decode cX12_feed 58 = .ok (.iload_n 3, 1) := by decide +kernel
theorem dX12_feed_59 : decode cX12_feed 59 = .ok (.goto 17, 3) := by decide +kernel
theorem dX12_feed_62 : decode cX12_feed 62 = .ok (.iload 6, 2) := by decide +kernel
theorem dX12_feed_64 : decode cX12_feed 64 = .ok (.bipush 16, 2) := by decide +kernel
theorem dX12_feed_66 : decode cX12_feed 66 = .ok (.if_icmp .ge 8, 3) := by decide +kernel
theorem dX12_feed_69 : decode cX12_feed 69 = .ok (.iload 4, 2) := by decide +kernel
theorem dX12_feed_71 : decode cX12_feed 71 = .ok (.goto 5, 3) := by decide +kernel
theorem dX12_feed_74 : decode cX12_feed 74 = .ok (.iload 5, 2) := by decide +kernel
theorem dX12_feed_76 : decode cX12_feed 76 = .ok (.istore 7, 2) := by decide +kernel
theorem dX12_feed_78 : decode cX12_feed 78 = .ok (.aload_n 0, 1) := by decide +kernel
theorem dX12_feed_79 : decode cX12_feed 79 = .ok (.getfield 51, 3) := by decide +kernel
theorem dX12_feed_82 : decode cX12_feed 82 = .ok (.aload_n 0, 1) := by decide +kernel
theorem dX12_feed_83 : decode cX12_feed 83 = .ok (.getfield 154, 3) := by decide +kernel
theorem dX12_feed_86 : decode cX12_feed 86 = .ok (.iload 7, 2) := by decide +kernel
theorem dX12_feed_88 : decode cX12_feed 88 = .ok (.bipush 24, 2) := by decide +kernel
theorem dX12_feed_90 : decode cX12_feed 90 = .ok (.bipush 8, 2) := by decide +kernel
theorem dX12_feed_92 : decode cX12_feed 92 = .ok (.iload 6, 2) := by decide +kernel
theorem dX12_feed_94 : decode cX12_feed 94 = .ok (.iconst 4, 1) := by decide +kernel
theorem dX12_feed_95 : decode cX12_feed 95 = .ok (.irem, 1) := by decide +kernel
theorem dX12_feed_96 : decode cX12_feed 96 = .ok (.imul, 1) := by decide +kernel
theorem dX12_feed_97 : decode cX12_feed 97 = .ok (.isub, 1) := by decide +kernel
theorem dX12_feed_98 : decode cX12_feed 98 = .ok (.ishr, 1) := by decide +kernel
theorem dX12_feed_99 : decode cX12_feed 99 = .ok (.sipush 255, 3) := by decide +kernel
theorem dX12_feed_102 : decode cX12_feed 102 = .ok (.iand, 1) := by decide +kernel
theorem dX12_feed_103 : decode cX12_feed 103 = .ok (.iastore, 1) := by decide +kernel
theorem dX12_feed_104 : decode cX12_feed 104 = .ok (.aload_n 0, 1) := by decide +kernel
theorem dX12_feed_105 : decode cX12_feed 105 = .ok (.dup, 1) := by decide +kernel
theorem dX12_feed_106 : decode cX12_feed 106 = .ok (.getfield 154, 3) := by decide +kernel
theorem dX12_feed_109 : decode cX12_feed 109 = .ok (.iconst 1, 1) := by decide +kernel
theorem dX12_feed_110 : decode cX12_feed 110 = .ok (.iadd, 1) := by decide +kernel
theorem dX12_feed_111 : decode cX12_feed 111 = .ok (.putfield 154, 3) := by decide +kernel
theorem dX12_feed_114 : decode cX12_feed 114 = .ok (.iinc 6 1, 3) := by decide +kernel
theorem dX12_feed_117 : decode cX12_feed 117 = .ok (.goto (-94), 3) := by decide +kernel
theorem dX12_feed_120 : decode cX12_feed 120 = .ok (.aload_n 0, 1) := by decide +kernel
theorem dX12_feed_121 : decode cX12_feed 121 = .ok (.getfield 154, 3) := by decide +kernel
theorem dX12_feed_124 : decode cX12_feed 124 = .ok (.ireturn, 1) := by decide +kernel
theorem dX12_byteAt_0 : decode cX12_byteAt 0 = .ok (.iload_n 1, 1) := by decide +kernel
theorem dX12_byteAt_1 : decode cX12_byteAt 1 = .ok (.aload_n 0, 1) := by decide +kernel
theorem dX12_byteAt_2 : decode cX12_byteAt 2 = .ok (.getfield 157, 3) := by decide +kernel
theorem dX12_byteAt_5 : decode cX12_byteAt 5 = .ok (.if_icmp .ge 12, 3) := by decide +kernel
theorem dX12_byteAt_8 : decode cX12_byteAt 8 = .ok (.aload_n 0, 1) := by decide +kernel
theorem dX12_byteAt_9 : decode cX12_byteAt 9 = .ok (.getfield 51, 3) := by decide +kernel
theorem dX12_byteAt_12 : decode cX12_byteAt 12 = .ok (.iload_n 1, 1) := by decide +kernel
theorem dX12_byteAt_13 : decode cX12_byteAt 13 = .ok (.iaload, 1) := by decide +kernel
theorem dX12_byteAt_14 : decode cX12_byteAt 14 = .ok (.goto 4, 3) := by decide +kernel
theorem dX12_byteAt_17 : decode cX12_byteAt 17 = .ok (.iconst (-1), 1) := by decide +kernel
theorem dX12_byteAt_18 : decode cX12_byteAt 18 = .ok (.ireturn, 1) := by decide +kernel
theorem dX12_isLetter_0 : decode cX12_isLetter 0 = .ok (.iload_n 0, 1) := by decide +kernel
theorem dX12_isLetter_1 : decode cX12_isLetter 1 = .ok (.bipush 97, 2) := by decide +kernel
theorem dX12_isLetter_3 : decode cX12_isLetter 3 = .ok (.if_icmp .lt 13, 3) := by decide +kernel
theorem dX12_isLetter_6 : decode cX12_isLetter 6 = .ok (.iload_n 0, 1) := by decide +kernel
theorem dX12_isLetter_7 : decode cX12_isLetter 7 = .ok (.bipush 122, 2) := by decide +kernel
theorem dX12_isLetter_9 : decode cX12_isLetter 9 = .ok (.if_icmp .gt 7, 3) := by decide +kernel
theorem dX12_isLetter_12 : decode cX12_isLetter 12 = .ok (.iconst 1, 1) := by decide +kernel
theorem dX12_isLetter_13 : decode cX12_isLetter 13 = .ok (.goto 4, 3) := by decide +kernel
theorem dX12_isLetter_16 : decode cX12_isLetter 16 = .ok (.iconst 0, 1) := by decide +kernel
theorem dX12_isLetter_17 : decode cX12_isLetter 17 = .ok (.ireturn, 1) := by decide +kernel
theorem dX12_isDigit_0 : decode cX12_isDigit 0 = .ok (.iload_n 0, 1) := by decide +kernel
theorem dX12_isDigit_1 : decode cX12_isDigit 1 = .ok (.bipush 48, 2) := by decide +kernel
theorem dX12_isDigit_3 : decode cX12_isDigit 3 = .ok (.if_icmp .lt 13, 3) := by decide +kernel
theorem dX12_isDigit_6 : decode cX12_isDigit 6 = .ok (.iload_n 0, 1) := by decide +kernel
theorem dX12_isDigit_7 : decode cX12_isDigit 7 = .ok (.bipush 57, 2) := by decide +kernel
theorem dX12_isDigit_9 : decode cX12_isDigit 9 = .ok (.if_icmp .gt 7, 3) := by decide +kernel
theorem dX12_isDigit_12 : decode cX12_isDigit 12 = .ok (.iconst 1, 1) := by decide +kernel
theorem dX12_isDigit_13 : decode cX12_isDigit 13 = .ok (.goto 4, 3) := by decide +kernel
theorem dX12_isDigit_16 : decode cX12_isDigit 16 = .ok (.iconst 0, 1) := by decide +kernel
theorem dX12_isDigit_17 : decode cX12_isDigit 17 = .ok (.ireturn, 1) := by decide +kernel
theorem dX12_stepOn_0 : decode cX12_stepOn 0 = .ok (.aload_n 0, 1) := by decide +kernel
theorem dX12_stepOn_1 : decode cX12_stepOn 1 = .ok (.aload_n 0, 1) := by decide +kernel
theorem dX12_stepOn_2 : decode cX12_stepOn 2 = .ok (.getfield 160, 3) := by decide +kernel
theorem dX12_stepOn_5 : decode cX12_stepOn 5 = .ok (.invokevirtual 163, 3) := by decide +kernel
theorem dX12_stepOn_8 : decode cX12_stepOn 8 = .ok (.bipush 32, 2) := by decide +kernel
theorem dX12_stepOn_10 : decode cX12_stepOn 10 = .ok (.if_icmp .eq 16, 3) := by decide +kernel
theorem dX12_stepOn_13 : decode cX12_stepOn 13 = .ok (.aload_n 0, 1) := by decide +kernel
theorem dX12_stepOn_14 : decode cX12_stepOn 14 = .ok (.aload_n 0, 1) := by decide +kernel
theorem dX12_stepOn_15 : decode cX12_stepOn 15 = .ok (.getfield 160, 3) := by decide +kernel
theorem dX12_stepOn_18 : decode cX12_stepOn 18 = .ok (.invokevirtual 163, 3) := by decide +kernel
theorem dX12_stepOn_21 : decode cX12_stepOn 21 = .ok (.bipush 10, 2) := by decide +kernel
theorem dX12_stepOn_23 : decode cX12_stepOn 23 = .ok (.if_icmp .ne 16, 3) := by decide +kernel
theorem dX12_stepOn_26 : decode cX12_stepOn 26 = .ok (.aload_n 0, 1) := by decide +kernel
theorem dX12_stepOn_27 : decode cX12_stepOn 27 = .ok (.dup, 1) := by decide +kernel
theorem dX12_stepOn_28 : decode cX12_stepOn 28 = .ok (.getfield 160, 3) := by decide +kernel
theorem dX12_stepOn_31 : decode cX12_stepOn 31 = .ok (.iconst 1, 1) := by decide +kernel
theorem dX12_stepOn_32 : decode cX12_stepOn 32 = .ok (.iadd, 1) := by decide +kernel
theorem dX12_stepOn_33 : decode cX12_stepOn 33 = .ok (.putfield 160, 3) := by decide +kernel
theorem dX12_stepOn_36 : decode cX12_stepOn 36 = .ok (.goto (-36), 3) := by decide +kernel
theorem dX12_stepOn_39 : decode cX12_stepOn 39 = .ok (.aload_n 0, 1) := by decide +kernel
theorem dX12_stepOn_40 : decode cX12_stepOn 40 = .ok (.aload_n 0, 1) := by decide +kernel
theorem dX12_stepOn_41 : decode cX12_stepOn 41 = .ok (.getfield 160, 3) := by decide +kernel
theorem dX12_stepOn_44 : decode cX12_stepOn 44 = .ok (.putfield 167, 3) := by decide +kernel
theorem dX12_stepOn_47 : decode cX12_stepOn 47 = .ok (.aload_n 0, 1) := by decide +kernel
theorem dX12_stepOn_48 : decode cX12_stepOn 48 = .ok (.aload_n 0, 1) := by decide +kernel
theorem dX12_stepOn_49 : decode cX12_stepOn 49 = .ok (.getfield 160, 3) := by decide +kernel
theorem dX12_stepOn_52 : decode cX12_stepOn 52 = .ok (.invokevirtual 163, 3) := by decide +kernel
theorem dX12_stepOn_55 : decode cX12_stepOn 55 = .ok (.istore_n 1, 1) := by decide +kernel
theorem dX12_stepOn_56 : decode cX12_stepOn 56 = .ok (.iload_n 1, 1) := by decide +kernel
theorem dX12_stepOn_57 : decode cX12_stepOn 57 = .ok (.iconst (-1), 1) := by decide +kernel
theorem dX12_stepOn_58 : decode cX12_stepOn 58 = .ok (.if_icmp .ne 11, 3) := by decide +kernel
theorem dX12_stepOn_61 : decode cX12_stepOn 61 = .ok (.aload_n 0, 1) := by decide +kernel
theorem dX12_stepOn_62 : decode cX12_stepOn 62 = .ok (.iconst 0, 1) := by decide +kernel
theorem dX12_stepOn_63 : decode cX12_stepOn 63 = .ok (.putfield 170, 3) := by decide +kernel
theorem dX12_stepOn_66 : decode cX12_stepOn 66 = .ok (.goto 145, 3) := by decide +kernel
theorem dX12_stepOn_69 : decode cX12_stepOn 69 = .ok (.iload_n 1, 1) := by decide +kernel
theorem dX12_stepOn_70 : decode cX12_stepOn 70 = .ok (.invokestatic 173, 3) := by decide +kernel
theorem dX12_stepOn_73 : decode cX12_stepOn 73 = .ok (.ifCond .eq 38, 3) := by decide +kernel
theorem dX12_stepOn_76 : decode cX12_stepOn 76 = .ok (.aload_n 0, 1) := by decide +kernel
theorem dX12_stepOn_77 : decode cX12_stepOn 77 = .ok (.aload_n 0, 1) := by decide +kernel
theorem dX12_stepOn_78 : decode cX12_stepOn 78 = .ok (.getfield 160, 3) := by decide +kernel
theorem dX12_stepOn_81 : decode cX12_stepOn 81 = .ok (.invokevirtual 163, 3) := by decide +kernel
theorem dX12_stepOn_84 : decode cX12_stepOn 84 = .ok (.invokestatic 173, 3) := by decide +kernel
theorem dX12_stepOn_87 : decode cX12_stepOn 87 = .ok (.ifCond .eq 16, 3) := by decide +kernel
theorem dX12_stepOn_90 : decode cX12_stepOn 90 = .ok (.aload_n 0, 1) := by decide +kernel
theorem dX12_stepOn_91 : decode cX12_stepOn 91 = .ok (.dup, 1) := by decide +kernel
theorem dX12_stepOn_92 : decode cX12_stepOn 92 = .ok (.getfield 160, 3) := by decide +kernel
theorem dX12_stepOn_95 : decode cX12_stepOn 95 = .ok (.iconst 1, 1) := by decide +kernel
theorem dX12_stepOn_96 : decode cX12_stepOn 96 = .ok (.iadd, 1) := by decide +kernel
theorem dX12_stepOn_97 : decode cX12_stepOn 97 = .ok (.putfield 160, 3) := by decide +kernel
theorem dX12_stepOn_100 : decode cX12_stepOn 100 = .ok (.goto (-24), 3) := by decide +kernel
theorem dX12_stepOn_103 : decode cX12_stepOn 103 = .ok (.aload_n 0, 1) := by decide +kernel
theorem dX12_stepOn_104 : decode cX12_stepOn 104 = .ok (.iconst 1, 1) := by decide +kernel
theorem dX12_stepOn_105 : decode cX12_stepOn 105 = .ok (.putfield 170, 3) := by decide +kernel
theorem dX12_stepOn_108 : decode cX12_stepOn 108 = .ok (.goto 103, 3) := by decide +kernel
theorem dX12_stepOn_111 : decode cX12_stepOn 111 = .ok (.iload_n 1, 1) := by decide +kernel
theorem dX12_stepOn_112 : decode cX12_stepOn 112 = .ok (.invokestatic 177, 3) := by decide +kernel
theorem dX12_stepOn_115 : decode cX12_stepOn 115 = .ok (.ifCond .eq 71, 3) := by decide +kernel
theorem dX12_stepOn_118 : decode cX12_stepOn 118 = .ok (.aload_n 0, 1) := by decide +kernel
theorem dX12_stepOn_119 : decode cX12_stepOn 119 = .ok (.iconst 0, 1) := by decide +kernel
theorem dX12_stepOn_120 : decode cX12_stepOn 120 = .ok (.putfield 180, 3) := by decide +kernel
theorem dX12_stepOn_123 : decode cX12_stepOn 123 = .ok (.aload_n 0, 1) := by decide +kernel
theorem dX12_stepOn_124 : decode cX12_stepOn 124 = .ok (.aload_n 0, 1) := by decide +kernel
theorem dX12_stepOn_125 : decode cX12_stepOn 125 = .ok (.getfield 160, 3) := by decide +kernel
theorem dX12_stepOn_128 : decode cX12_stepOn 128 = .ok (.invokevirtual 163, 3) := by decide +kernel
theorem dX12_stepOn_131 : decode cX12_stepOn 131 = .ok (.invokestatic 177, 3) := by decide +kernel
theorem dX12_stepOn_134 : decode cX12_stepOn 134 = .ok (.ifCond .eq 44, 3) := by decide +kernel
theorem dX12_stepOn_137 : decode cX12_stepOn 137 = .ok (.aload_n 0, 1) := by decide +kernel
theorem dX12_stepOn_138 : decode cX12_stepOn 138 = .ok (.ldc 103, 2) := by decide +kernel
theorem dX12_stepOn_140 : decode cX12_stepOn 140 = .ok (.bipush 10, 2) := by decide +kernel
theorem dX12_stepOn_142 : decode cX12_stepOn 142 = .ok (.aload_n 0, 1) := by decide +kernel
theorem dX12_stepOn_143 : decode cX12_stepOn 143 = .ok (.getfield 180, 3) := by decide +kernel
theorem dX12_stepOn_146 : decode cX12_stepOn 146 = .ok (.imul, 1) := by decide +kernel
theorem dX12_stepOn_147 : decode cX12_stepOn 147 = .ok (.aload_n 0, 1) := by decide +kernel
theorem dX12_stepOn_148 : decode cX12_stepOn 148 = .ok (.aload_n 0, 1) := by decide +kernel
theorem dX12_stepOn_149 : decode cX12_stepOn 149 = .ok (.getfield 160, 3) := by decide +kernel
theorem dX12_stepOn_152 : decode cX12_stepOn 152 = .ok (.invokevirtual 163, 3) := by decide +kernel
theorem dX12_stepOn_155 : decode cX12_stepOn 155 = .ok (.iadd, 1) := by decide +kernel
theorem dX12_stepOn_156 : decode cX12_stepOn 156 = .ok (.bipush 48, 2) := by decide +kernel
theorem dX12_stepOn_158 : decode cX12_stepOn 158 = .ok (.isub, 1) := by decide +kernel
theorem dX12_stepOn_159 : decode cX12_stepOn 159 = .ok (.invokestatic 183, 3) := by decide +kernel
theorem dX12_stepOn_162 : decode cX12_stepOn 162 = .ok (.putfield 180, 3) := by decide +kernel
theorem dX12_stepOn_165 : decode cX12_stepOn 165 = .ok (.aload_n 0, 1) := by decide +kernel
theorem dX12_stepOn_166 : decode cX12_stepOn 166 = .ok (.dup, 1) := by decide +kernel
theorem dX12_stepOn_167 : decode cX12_stepOn 167 = .ok (.getfield 160, 3) := by decide +kernel
theorem dX12_stepOn_170 : decode cX12_stepOn 170 = .ok (.iconst 1, 1) := by decide +kernel
theorem dX12_stepOn_171 : decode cX12_stepOn 171 = .ok (.iadd, 1) := by decide +kernel
theorem dX12_stepOn_172 : decode cX12_stepOn 172 = .ok (.putfield 160, 3) := by decide +kernel
theorem dX12_stepOn_175 : decode cX12_stepOn 175 = .ok (.goto (-52), 3) := by decide +kernel
theorem dX12_stepOn_178 : decode cX12_stepOn 178 = .ok (.aload_n 0, 1) := by decide +kernel
theorem dX12_stepOn_179 : decode cX12_stepOn 179 = .ok (.iconst 2, 1) := by decide +kernel
theorem dX12_stepOn_180 : decode cX12_stepOn 180 = .ok (.putfield 170, 3) := by decide +kernel
theorem dX12_stepOn_183 : decode cX12_stepOn 183 = .ok (.goto 28, 3) := by decide +kernel
theorem dX12_stepOn_186 : decode cX12_stepOn 186 = .ok (.aload_n 0, 1) := by decide +kernel
theorem dX12_stepOn_187 : decode cX12_stepOn 187 = .ok (.dup, 1) := by decide +kernel
theorem dX12_stepOn_188 : decode cX12_stepOn 188 = .ok (.getfield 160, 3) := by decide +kernel
theorem dX12_stepOn_191 : decode cX12_stepOn 191 = .ok (.iconst 1, 1) := by decide +kernel
theorem dX12_stepOn_192 : decode cX12_stepOn 192 = .ok (.iadd, 1) := by decide +kernel
theorem dX12_stepOn_193 : decode cX12_stepOn 193 = .ok (.putfield 160, 3) := by decide +kernel
theorem dX12_stepOn_196 : decode cX12_stepOn 196 = .ok (.aload_n 0, 1) := by decide +kernel
theorem dX12_stepOn_197 : decode cX12_stepOn 197 = .ok (.iload_n 1, 1) := by decide +kernel
theorem dX12_stepOn_198 : decode cX12_stepOn 198 = .ok (.bipush 59, 2) := by decide +kernel
theorem dX12_stepOn_200 : decode cX12_stepOn 200 = .ok (.if_icmp .ne 7, 3) := by decide +kernel
theorem dX12_stepOn_203 : decode cX12_stepOn 203 = .ok (.iconst 3, 1) := by decide +kernel
theorem dX12_stepOn_204 : decode cX12_stepOn 204 = .ok (.goto 4, 3) := by decide +kernel
theorem dX12_stepOn_207 : decode cX12_stepOn 207 = .ok (.iconst 4, 1) := by decide +kernel
theorem dX12_stepOn_208 : decode cX12_stepOn 208 = .ok (.putfield 170, 3) := by decide +kernel
theorem dX12_stepOn_211 : decode cX12_stepOn 211 = .ok (.aload_n 0, 1) := by decide +kernel
theorem dX12_stepOn_212 : decode cX12_stepOn 212 = .ok (.aload_n 0, 1) := by decide +kernel
theorem dX12_stepOn_213 : decode cX12_stepOn 213 = .ok (.getfield 160, 3) := by decide +kernel
theorem dX12_stepOn_216 : decode cX12_stepOn 216 = .ok (.putfield 189, 3) := by decide +kernel
theorem dX12_stepOn_219 : decode cX12_stepOn 219 = .ok (.return_, 1) := by decide +kernel
theorem dX12_wrong_0 : decode cX12_wrong 0 = .ok (.aload_n 0, 1) := by decide +kernel
theorem dX12_wrong_1 : decode cX12_wrong 1 = .ok (.getfield 192, 3) := by decide +kernel
theorem dX12_wrong_4 : decode cX12_wrong 4 = .ok (.ifCond .eq 4, 3) := by decide +kernel
theorem dX12_wrong_7 : decode cX12_wrong 7 = .ok (.return_, 1) := by decide +kernel
theorem dX12_wrong_8 : decode cX12_wrong 8 = .ok (.aload_n 0, 1) := by decide +kernel
theorem dX12_wrong_9 : decode cX12_wrong 9 = .ok (.iload_n 1, 1) := by decide +kernel
theorem dX12_wrong_10 : decode cX12_wrong 10 = .ok (.putfield 192, 3) := by decide +kernel
theorem dX12_wrong_13 : decode cX12_wrong 13 = .ok (.aload_n 0, 1) := by decide +kernel
theorem dX12_wrong_14 : decode cX12_wrong 14 = .ok (.aload_n 0, 1) := by decide +kernel
theorem dX12_wrong_15 : decode cX12_wrong 15 = .ok (.getfield 167, 3) := by decide +kernel
theorem dX12_wrong_18 : decode cX12_wrong 18 = .ok (.putfield 195, 3) := by decide +kernel
theorem dX12_wrong_21 : decode cX12_wrong 21 = .ok (.return_, 1) := by decide +kernel
theorem dX12_is_0 : decode cX12_is 0 = .ok (.aload_n 0, 1) := by decide +kernel
theorem dX12_is_1 : decode cX12_is 1 = .ok (.getfield 192, 3) := by decide +kernel
theorem dX12_is_4 : decode cX12_is 4 = .ok (.ifCond .ne 31, 3) := by decide +kernel
theorem dX12_is_7 : decode cX12_is 7 = .ok (.aload_n 0, 1) := by decide +kernel
theorem dX12_is_8 : decode cX12_is 8 = .ok (.getfield 170, 3) := by decide +kernel
theorem dX12_is_11 : decode cX12_is 11 = .ok (.iconst 1, 1) := by decide +kernel
theorem dX12_is_12 : decode cX12_is 12 = .ok (.if_icmp .ne 23, 3) := by decide +kernel
theorem dX12_is_15 : decode cX12_is 15 = .ok (.aload_n 1, 1) := by decide +kernel
theorem dX12_is_16 : decode cX12_is 16 = .ok (.invokevirtual 198, 3) := by decide +kernel
theorem dX12_is_19 : decode cX12_is 19 = .ok (.aload_n 0, 1) := by decide +kernel
theorem dX12_is_20 : decode cX12_is 20 = .ok (.getfield 189, 3) := by decide +kernel
theorem dX12_is_23 : decode cX12_is 23 = .ok (.aload_n 0, 1) := by decide +kernel
theorem dX12_is_24 : decode cX12_is 24 = .ok (.getfield 167, 3) := by decide +kernel
theorem dX12_is_27 : decode cX12_is 27 = .ok (.isub, 1) := by decide +kernel
theorem dX12_is_28 : decode cX12_is 28 = .ok (.if_icmp .ne 7, 3) := by decide +kernel
theorem dX12_is_31 : decode cX12_is 31 = .ok (.iconst 1, 1) := by decide +kernel
theorem dX12_is_32 : decode cX12_is 32 = .ok (.goto 4, 3) := by decide +kernel
theorem dX12_is_35 : decode cX12_is 35 = .ok (.iconst 0, 1) := by decide +kernel
theorem dX12_is_36 : decode cX12_is 36 = .ok (.istore_n 2, 1) := by decide +kernel
theorem dX12_is_37 : decode cX12_is 37 = .ok (.iconst 0, 1) := by decide +kernel
theorem dX12_is_38 : decode cX12_is 38 = .ok (.istore_n 3, 1) := by decide +kernel
theorem dX12_is_39 : decode cX12_is 39 = .ok (.iload_n 2, 1) := by decide +kernel
theorem dX12_is_40 : decode cX12_is 40 = .ok (.ifCond .eq 42, 3) := by decide +kernel
theorem dX12_is_43 : decode cX12_is 43 = .ok (.iload_n 3, 1) := by decide +kernel
theorem dX12_is_44 : decode cX12_is 44 = .ok (.aload_n 1, 1) := by decide +kernel
theorem dX12_is_45 : decode cX12_is 45 = .ok (.invokevirtual 198, 3) := by decide +kernel
theorem dX12_is_48 : decode cX12_is 48 = .ok (.if_icmp .ge 34, 3) := by decide +kernel
theorem dX12_is_51 : decode cX12_is 51 = .ok (.aload_n 1, 1) := by decide +kernel
theorem dX12_is_52 : decode cX12_is 52 = .ok (.iload_n 3, 1) := by decide +kernel
theorem dX12_is_53 : decode cX12_is 53 = .ok (.invokevirtual 202, 3) := by decide +kernel
theorem dX12_is_56 : decode cX12_is 56 = .ok (.aload_n 0, 1) := by decide +kernel
theorem dX12_is_57 : decode cX12_is 57 = .ok (.getfield 51, 3) := by decide +kernel
theorem dX12_is_60 : decode cX12_is 60 = .ok (.aload_n 0, 1) := by decide +kernel
theorem dX12_is_61 : decode cX12_is 61 = .ok (.getfield 167, 3) := by decide +kernel
theorem dX12_is_64 : decode cX12_is 64 = .ok (.iload_n 3, 1) := by decide +kernel
theorem dX12_is_65 : decode cX12_is 65 = .ok (.iadd, 1) := by decide +kernel
theorem dX12_is_66 : decode cX12_is 66 = .ok (.iaload, 1) := by decide +kernel
theorem dX12_is_67 : decode cX12_is 67 = .ok (.if_icmp .ne 7, 3) := by decide +kernel
theorem dX12_is_70 : decode cX12_is 70 = .ok (.iconst 1, 1) := by decide +kernel
theorem dX12_is_71 : decode cX12_is 71 = .ok (.goto 4, 3) := by decide +kernel
theorem dX12_is_74 : decode cX12_is 74 = .ok (.iconst 0, 1) := by decide +kernel
theorem dX12_is_75 : decode cX12_is 75 = .ok (.istore_n 2, 1) := by decide +kernel
theorem dX12_is_76 : decode cX12_is 76 = .ok (.iinc 3 1, 3) := by decide +kernel
theorem dX12_is_79 : decode cX12_is 79 = .ok (.goto (-40), 3) := by decide +kernel
theorem dX12_is_82 : decode cX12_is 82 = .ok (.iload_n 2, 1) := by decide +kernel
theorem dX12_is_83 : decode cX12_is 83 = .ok (.ireturn, 1) := by decide +kernel
theorem dX12_which_0 : decode cX12_which 0 = .ok (.iconst 0, 1) := by decide +kernel
theorem dX12_which_1 : decode cX12_which 1 = .ok (.istore_n 1, 1) := by decide +kernel
theorem dX12_which_2 : decode cX12_which 2 = .ok (.iload_n 1, 1) := by decide +kernel
theorem dX12_which_3 : decode cX12_which 3 = .ok (.aload_n 0, 1) := by decide +kernel
theorem dX12_which_4 : decode cX12_which 4 = .ok (.getfield 21, 3) := by decide +kernel
theorem dX12_which_7 : decode cX12_which 7 = .ok (.arraylength, 1) := by decide +kernel
theorem dX12_which_8 : decode cX12_which 8 = .ok (.if_icmp .ge 24, 3) := by decide +kernel
theorem dX12_which_11 : decode cX12_which 11 = .ok (.aload_n 0, 1) := by decide +kernel
theorem dX12_which_12 : decode cX12_which 12 = .ok (.aload_n 0, 1) := by decide +kernel
theorem dX12_which_13 : decode cX12_which 13 = .ok (.getfield 21, 3) := by decide +kernel
theorem dX12_which_16 : decode cX12_which 16 = .ok (.iload_n 1, 1) := by decide +kernel
theorem dX12_which_17 : decode cX12_which 17 = .ok (.aaload, 1) := by decide +kernel
theorem dX12_which_18 : decode cX12_which 18 = .ok (.invokevirtual 206, 3) := by decide +kernel
theorem dX12_which_21 : decode cX12_which 21 = .ok (.ifCond .eq 5, 3) := by decide +kernel
theorem dX12_which_24 : decode cX12_which 24 = .ok (.iload_n 1, 1) := by decide +kernel
theorem dX12_which_25 : decode cX12_which 25 = .ok (.ireturn, 1) := by decide +kernel
theorem dX12_which_26 : decode cX12_which 26 = .ok (.iinc 1 1, 3) := by decide +kernel
theorem dX12_which_29 : decode cX12_which 29 = .ok (.goto (-27), 3) := by decide +kernel
theorem dX12_which_32 : decode cX12_which 32 = .ok (.iconst (-1), 1) := by decide +kernel
theorem dX12_which_33 : decode cX12_which 33 = .ok (.ireturn, 1) := by decide +kernel
theorem dX12_passes_0 : decode cX12_passes 0 = .ok (.aload_n 0, 1) := by decide +kernel
theorem dX12_passes_1 : decode cX12_passes 1 = .ok (.aload_n 1, 1) := by decide +kernel
theorem dX12_passes_2 : decode cX12_passes 2 = .ok (.invokevirtual 206, 3) := by decide +kernel
theorem dX12_passes_5 : decode cX12_passes 5 = .ok (.istore_n 2, 1) := by decide +kernel
theorem dX12_passes_6 : decode cX12_passes 6 = .ok (.iload_n 2, 1) := by decide +kernel
theorem dX12_passes_7 : decode cX12_passes 7 = .ok (.ifCond .eq 7, 3) := by decide +kernel
theorem dX12_passes_10 : decode cX12_passes 10 = .ok (.aload_n 0, 1) := by decide +kernel
theorem dX12_passes_11 : decode cX12_passes 11 = .ok (.invokevirtual 210, 3) := by decide +kernel
theorem dX12_passes_14 : decode cX12_passes 14 = .ok (.iload_n 2, 1) := by decide +kernel
theorem dX12_passes_15 : decode cX12_passes 15 = .ok (.ireturn, 1) := by decide +kernel
theorem dX12_readNumber_0 : decode cX12_readNumber 0 = .ok (.aload_n 0, 1) := by decide +kernel
theorem dX12_readNumber_1 : decode cX12_readNumber 1 = .ok (.getfield 192, 3) := by decide +kernel
theorem dX12_readNumber_4 : decode cX12_readNumber 4 = .ok (.ifCond .eq 5, 3) := by decide +kernel
theorem dX12_readNumber_7 : decode cX12_readNumber 7 = .ok (.iconst 0, 1) := by decide +kernel
theorem dX12_readNumber_8 : decode cX12_readNumber 8 = .ok (.ireturn, 1) := by decide +kernel
theorem dX12_readNumber_9 : decode cX12_readNumber 9 = .ok (.aload_n 0, 1) := by decide +kernel
theorem dX12_readNumber_10 : decode cX12_readNumber 10 = .ok (.getfield 170, 3) := by decide +kernel
theorem dX12_readNumber_13 : decode cX12_readNumber 13 = .ok (.iconst 2, 1) := by decide +kernel
theorem dX12_readNumber_14 : decode cX12_readNumber 14 = .ok (.if_icmp .eq 11, 3) := by decide +kernel
theorem dX12_readNumber_17 : decode cX12_readNumber 17 = .ok (.aload_n 0, 1) := by decide +kernel
theorem dX12_readNumber_18 : decode cX12_readNumber 18 = .ok (.iconst 1, 1) := by decide +kernel
theorem dX12_readNumber_19 : decode cX12_readNumber 19 = .ok (.invokevirtual 213, 3) := by decide +kernel
theorem dX12_readNumber_22 : decode cX12_readNumber 22 = .ok (.goto 53, 3) := by decide +kernel
theorem dX12_readNumber_25 : decode cX12_readNumber 25 = .ok (.aload_n 0, 1) := by decide +kernel
theorem dX12_readNumber_26 : decode cX12_readNumber 26 = .ok (.getfield 189, 3) := by decide +kernel
theorem dX12_readNumber_29 : decode cX12_readNumber 29 = .ok (.aload_n 0, 1) := by decide +kernel
theorem dX12_readNumber_30 : decode cX12_readNumber 30 = .ok (.getfield 167, 3) := by decide +kernel
theorem dX12_readNumber_33 : decode cX12_readNumber 33 = .ok (.isub, 1) := by decide +kernel
theorem dX12_readNumber_34 : decode cX12_readNumber 34 = .ok (.iconst 4, 1) := by decide +kernel
theorem dX12_readNumber_35 : decode cX12_readNumber 35 = .ok (.if_icmp .gt 19, 3) := by decide +kernel
theorem dX12_readNumber_38 : decode cX12_readNumber 38 = .ok (.aload_n 0, 1) := by decide +kernel
theorem dX12_readNumber_39 : decode cX12_readNumber 39 = .ok (.getfield 180, 3) := by decide +kernel
theorem dX12_readNumber_42 : decode cX12_readNumber 42 = .ok (.iload_n 1, 1) := by decide +kernel
theorem dX12_readNumber_43 : decode cX12_readNumber 43 = .ok (.if_icmp .lt 11, 3) := by decide +kernel
theorem dX12_readNumber_46 : decode cX12_readNumber 46 = .ok (.aload_n 0, 1) := by decide +kernel
theorem dX12_readNumber_47 : decode cX12_readNumber 47 = .ok (.getfield 180, 3) := by decide +kernel
theorem dX12_readNumber_50 : decode cX12_readNumber 50 = .ok (.iload_n 2, 1) := by decide +kernel
theorem dX12_readNumber_51 : decode cX12_readNumber 51 = .ok (.if_icmp .le 11, 3) := by decide +kernel
theorem dX12_readNumber_54 : decode cX12_readNumber 54 = .ok (.aload_n 0, 1) := by decide +kernel
theorem dX12_readNumber_55 : decode cX12_readNumber 55 = .ok (.iconst 2, 1) := by decide +kernel
theorem dX12_readNumber_56 : decode cX12_readNumber 56 = .ok (.invokevirtual 213, 3) := by decide +kernel
theorem dX12_readNumber_59 : decode cX12_readNumber 59 = .ok (.goto 16, 3) := by decide +kernel
theorem dX12_readNumber_62 : decode cX12_readNumber 62 = .ok (.aload_n 0, 1) := by decide +kernel
theorem dX12_readNumber_63 : decode cX12_readNumber 63 = .ok (.getfield 180, 3) := by decide +kernel
theorem dX12_readNumber_66 : decode cX12_readNumber 66 = .ok (.iload_n 3, 1) := by decide +kernel
theorem dX12_readNumber_67 : decode cX12_readNumber 67 = .ok (.if_icmp .ge 8, 3) := by decide +kernel
theorem dX12_readNumber_70 : decode cX12_readNumber 70 = .ok (.aload_n 0, 1) := by decide +kernel
theorem dX12_readNumber_71 : decode cX12_readNumber 71 = .ok (.iconst 3, 1) := by decide +kernel
theorem dX12_readNumber_72 : decode cX12_readNumber 72 = .ok (.invokevirtual 213, 3) := by decide +kernel
theorem dX12_readNumber_75 : decode cX12_readNumber 75 = .ok (.aload_n 0, 1) := by decide +kernel
theorem dX12_readNumber_76 : decode cX12_readNumber 76 = .ok (.getfield 180, 3) := by decide +kernel
theorem dX12_readNumber_79 : decode cX12_readNumber 79 = .ok (.istore 4, 2) := by decide +kernel
theorem dX12_readNumber_81 : decode cX12_readNumber 81 = .ok (.aload_n 0, 1) := by decide +kernel
theorem dX12_readNumber_82 : decode cX12_readNumber 82 = .ok (.getfield 192, 3) := by decide +kernel
theorem dX12_readNumber_85 : decode cX12_readNumber 85 = .ok (.ifCond .ne 7, 3) := by decide +kernel
theorem dX12_readNumber_88 : decode cX12_readNumber 88 = .ok (.aload_n 0, 1) := by decide +kernel
theorem dX12_readNumber_89 : decode cX12_readNumber 89 = .ok (.invokevirtual 210, 3) := by decide +kernel
theorem dX12_readNumber_92 : decode cX12_readNumber 92 = .ok (.iload 4, 2) := by decide +kernel
theorem dX12_readNumber_94 : decode cX12_readNumber 94 = .ok (.ireturn, 1) := by decide +kernel
theorem dX12_perhaps_0 : decode cX12_perhaps 0 = .ok (.aload_n 0, 1) := by decide +kernel
theorem dX12_perhaps_1 : decode cX12_perhaps 1 = .ok (.aload_n 1, 1) := by decide +kernel
theorem dX12_perhaps_2 : decode cX12_perhaps 2 = .ok (.invokevirtual 216, 3) := by decide +kernel
theorem dX12_perhaps_5 : decode cX12_perhaps 5 = .ok (.ifCond .eq 13, 3) := by decide +kernel
theorem dX12_perhaps_8 : decode cX12_perhaps 8 = .ok (.aload_n 0, 1) := by decide +kernel
theorem dX12_perhaps_9 : decode cX12_perhaps 9 = .ok (.iconst 0, 1) := by decide +kernel
theorem dX12_perhaps_10 : decode cX12_perhaps 10 = .ok (.iload_n 2, 1) := by decide +kernel
theorem dX12_perhaps_11 : decode cX12_perhaps 11 = .ok (.iconst (-1), 1) := by decide +kernel
theorem dX12_perhaps_12 : decode cX12_perhaps 12 = .ok (.invokevirtual 219, 3) := by decide +kernel
theorem dX12_perhaps_15 : decode cX12_perhaps 15 = .ok (.goto 4, 3) := by decide +kernel
theorem dX12_perhaps_18 : decode cX12_perhaps 18 = .ok (.iconst 0, 1) := by decide +kernel
theorem dX12_perhaps_19 : decode cX12_perhaps 19 = .ok (.ireturn, 1) := by decide +kernel
theorem dX12_semi_0 : decode cX12_semi 0 = .ok (.aload_n 0, 1) := by decide +kernel
theorem dX12_semi_1 : decode cX12_semi 1 = .ok (.getfield 192, 3) := by decide +kernel
theorem dX12_semi_4 : decode cX12_semi 4 = .ok (.ifCond .ne 16, 3) := by decide +kernel
theorem dX12_semi_7 : decode cX12_semi 7 = .ok (.aload_n 0, 1) := by decide +kernel
theorem dX12_semi_8 : decode cX12_semi 8 = .ok (.getfield 170, 3) := by decide +kernel
theorem dX12_semi_11 : decode cX12_semi 11 = .ok (.iconst 3, 1) := by decide +kernel
theorem dX12_semi_12 : decode cX12_semi 12 = .ok (.if_icmp .eq 8, 3) := by decide +kernel
theorem dX12_semi_15 : decode cX12_semi 15 = .ok (.aload_n 0, 1) := by decide +kernel
theorem dX12_semi_16 : decode cX12_semi 16 = .ok (.iconst 1, 1) := by decide +kernel
theorem dX12_semi_17 : decode cX12_semi 17 = .ok (.invokevirtual 213, 3) := by decide +kernel
theorem dX12_semi_20 : decode cX12_semi 20 = .ok (.aload_n 0, 1) := by decide +kernel
theorem dX12_semi_21 : decode cX12_semi 21 = .ok (.getfield 192, 3) := by decide +kernel
theorem dX12_semi_24 : decode cX12_semi 24 = .ok (.ifCond .ne 7, 3) := by decide +kernel
theorem dX12_semi_27 : decode cX12_semi 27 = .ok (.aload_n 0, 1) := by decide +kernel
theorem dX12_semi_28 : decode cX12_semi 28 = .ok (.invokevirtual 210, 3) := by decide +kernel
theorem dX12_semi_31 : decode cX12_semi 31 = .ok (.return_, 1) := by decide +kernel
theorem dX12_readWall_0 : decode cX12_readWall 0 = .ok (.bipush 48, 2) := by decide +kernel
theorem dX12_readWall_2 : decode cX12_readWall 2 = .ok (.aload_n 0, 1) := by decide +kernel
theorem dX12_readWall_3 : decode cX12_readWall 3 = .ok (.getfield 27, 3) := by decide +kernel
theorem dX12_readWall_6 : decode cX12_readWall 6 = .ok (.bipush 6, 2) := by decide +kernel
theorem dX12_readWall_8 : decode cX12_readWall 8 = .ok (.iaload, 1) := by decide +kernel
theorem dX12_readWall_9 : decode cX12_readWall 9 = .ok (.iadd, 1) := by decide +kernel
theorem dX12_readWall_10 : decode cX12_readWall 10 = .ok (.iconst 5, 1) := by decide +kernel
theorem dX12_readWall_11 : decode cX12_readWall 11 = .ok (.imul, 1) := by decide +kernel
theorem dX12_readWall_12 : decode cX12_readWall 12 = .ok (.istore_n 2, 1) := by decide +kernel
theorem dX12_readWall_13 : decode cX12_readWall 13 = .ok (.aload_n 0, 1) := by decide +kernel
theorem dX12_readWall_14 : decode cX12_readWall 14 = .ok (.getfield 41, 3) := by decide +kernel
theorem dX12_readWall_17 : decode cX12_readWall 17 = .ok (.iload_n 2, 1) := by decide +kernel
theorem dX12_readWall_18 : decode cX12_readWall 18 = .ok (.iload_n 1, 1) := by decide +kernel
theorem dX12_readWall_19 : decode cX12_readWall 19 = .ok (.iastore, 1) := by decide +kernel
theorem dX12_readWall_20 : decode cX12_readWall 20 = .ok (.aload_n 0, 1) := by decide +kernel
theorem dX12_readWall_21 : decode cX12_readWall 21 = .ok (.getfield 41, 3) := by decide +kernel
theorem dX12_readWall_24 : decode cX12_readWall 24 = .ok (.iload_n 2, 1) := by decide +kernel
theorem dX12_readWall_25 : decode cX12_readWall 25 = .ok (.iconst 1, 1) := by decide +kernel
theorem dX12_readWall_26 : decode cX12_readWall 26 = .ok (.iadd, 1) := by decide +kernel
theorem dX12_readWall_27 : decode cX12_readWall 27 = .ok (.aload_n 0, 1) := by decide +kernel
theorem dX12_readWall_28 : decode cX12_readWall 28 = .ok (.iconst 0, 1) := by decide +kernel
theorem dX12_readWall_29 : decode cX12_readWall 29 = .ok (.bipush 40, 2) := by decide +kernel
theorem dX12_readWall_31 : decode cX12_readWall 31 = .ok (.iconst (-1), 1) := by decide +kernel
theorem dX12_readWall_32 : decode cX12_readWall 32 = .ok (.invokevirtual 219, 3) := by decide +kernel
theorem dX12_readWall_35 : decode cX12_readWall 35 = .ok (.iastore, 1) := by decide +kernel
theorem dX12_readWall_36 : decode cX12_readWall 36 = .ok (.aload_n 0, 1) := by decide +kernel
theorem dX12_readWall_37 : decode cX12_readWall 37 = .ok (.getfield 41, 3) := by decide +kernel
theorem dX12_readWall_40 : decode cX12_readWall 40 = .ok (.iload_n 2, 1) := by decide +kernel
theorem dX12_readWall_41 : decode cX12_readWall 41 = .ok (.iconst 2, 1) := by decide +kernel
theorem dX12_readWall_42 : decode cX12_readWall 42 = .ok (.iadd, 1) := by decide +kernel
theorem dX12_readWall_43 : decode cX12_readWall 43 = .ok (.aload_n 0, 1) := by decide +kernel
theorem dX12_readWall_44 : decode cX12_readWall 44 = .ok (.iconst 0, 1) := by decide +kernel
theorem dX12_readWall_45 : decode cX12_readWall 45 = .ok (.bipush 40, 2) := by decide +kernel
theorem dX12_readWall_47 : decode cX12_readWall 47 = .ok (.iconst (-1), 1) := by decide +kernel
theorem dX12_readWall_48 : decode cX12_readWall 48 = .ok (.invokevirtual 219, 3) := by decide +kernel
theorem dX12_readWall_51 : decode cX12_readWall 51 = .ok (.iastore, 1) := by decide +kernel
theorem dX12_readWall_52 : decode cX12_readWall 52 = .ok (.aload_n 0, 1) := by decide +kernel
theorem dX12_readWall_53 : decode cX12_readWall 53 = .ok (.getfield 41, 3) := by decide +kernel
theorem dX12_readWall_56 : decode cX12_readWall 56 = .ok (.iload_n 2, 1) := by decide +kernel
theorem dX12_readWall_57 : decode cX12_readWall 57 = .ok (.iconst 3, 1) := by decide +kernel
theorem dX12_readWall_58 : decode cX12_readWall 58 = .ok (.iadd, 1) := by decide +kernel
theorem dX12_readWall_59 : decode cX12_readWall 59 = .ok (.aload_n 0, 1) := by decide +kernel
theorem dX12_readWall_60 : decode cX12_readWall 60 = .ok (.iconst 0, 1) := by decide +kernel
theorem dX12_readWall_61 : decode cX12_readWall 61 = .ok (.bipush 40, 2) := by decide +kernel
theorem dX12_readWall_63 : decode cX12_readWall 63 = .ok (.aload_n 0, 1) := by decide +kernel
theorem dX12_readWall_64 : decode cX12_readWall 64 = .ok (.getfield 41, 3) := by decide +kernel
theorem dX12_readWall_67 : decode cX12_readWall 67 = .ok (.iload_n 2, 1) := by decide +kernel
theorem dX12_readWall_68 : decode cX12_readWall 68 = .ok (.iconst 2, 1) := by decide +kernel
theorem dX12_readWall_69 : decode cX12_readWall 69 = .ok (.iadd, 1) := by decide +kernel
theorem dX12_readWall_70 : decode cX12_readWall 70 = .ok (.iaload, 1) := by decide +kernel
theorem dX12_readWall_71 : decode cX12_readWall 71 = .ok (.iconst 1, 1) := by decide +kernel
theorem dX12_readWall_72 : decode cX12_readWall 72 = .ok (.iadd, 1) := by decide +kernel
theorem dX12_readWall_73 : decode cX12_readWall 73 = .ok (.invokevirtual 219, 3) := by decide +kernel
theorem dX12_readWall_76 : decode cX12_readWall 76 = .ok (.iastore, 1) := by decide +kernel
theorem dX12_readWall_77 : decode cX12_readWall 77 = .ok (.aload_n 0, 1) := by decide +kernel
theorem dX12_readWall_78 : decode cX12_readWall 78 = .ok (.getfield 41, 3) := by decide +kernel
theorem dX12_readWall_81 : decode cX12_readWall 81 = .ok (.iload_n 2, 1) := by decide +kernel
theorem dX12_readWall_82 : decode cX12_readWall 82 = .ok (.iconst 4, 1) := by decide +kernel
theorem dX12_readWall_83 : decode cX12_readWall 83 = .ok (.iadd, 1) := by decide +kernel
theorem dX12_readWall_84 : decode cX12_readWall 84 = .ok (.aload_n 0, 1) := by decide +kernel
theorem dX12_readWall_85 : decode cX12_readWall 85 = .ok (.ldc 223, 2) := by decide +kernel
theorem dX12_readWall_87 : decode cX12_readWall 87 = .ok (.bipush 100, 2) := by decide +kernel
theorem dX12_readWall_89 : decode cX12_readWall 89 = .ok (.invokevirtual 225, 3) := by decide +kernel
theorem dX12_readWall_92 : decode cX12_readWall 92 = .ok (.iastore, 1) := by decide +kernel
theorem dX12_readWall_93 : decode cX12_readWall 93 = .ok (.aload_n 0, 1) := by decide +kernel
theorem dX12_readWall_94 : decode cX12_readWall 94 = .ok (.getfield 27, 3) := by decide +kernel
theorem dX12_readWall_97 : decode cX12_readWall 97 = .ok (.bipush 6, 2) := by decide +kernel
theorem dX12_readWall_99 : decode cX12_readWall 99 = .ok (.dup2, 1) := by decide +kernel
theorem dX12_readWall_100 : decode cX12_readWall 100 = .ok (.iaload, 1) := by decide +kernel
theorem dX12_readWall_101 : decode cX12_readWall 101 = .ok (.iconst 1, 1) := by decide +kernel
theorem dX12_readWall_102 : decode cX12_readWall 102 = .ok (.iadd, 1) := by decide +kernel
theorem dX12_readWall_103 : decode cX12_readWall 103 = .ok (.iastore, 1) := by decide +kernel
theorem dX12_readWall_104 : decode cX12_readWall 104 = .ok (.return_, 1) := by decide +kernel
theorem dX12_readBarn_0 : decode cX12_readBarn 0 = .ok (.bipush 48, 2) := by decide +kernel
theorem dX12_readBarn_2 : decode cX12_readBarn 2 = .ok (.aload_n 0, 1) := by decide +kernel
theorem dX12_readBarn_3 : decode cX12_readBarn 3 = .ok (.getfield 31, 3) := by decide +kernel
theorem dX12_readBarn_6 : decode cX12_readBarn 6 = .ok (.bipush 6, 2) := by decide +kernel
theorem dX12_readBarn_8 : decode cX12_readBarn 8 = .ok (.iaload, 1) := by decide +kernel
theorem dX12_readBarn_9 : decode cX12_readBarn 9 = .ok (.iadd, 1) := by decide +kernel
theorem dX12_readBarn_10 : decode cX12_readBarn 10 = .ok (.iconst 5, 1) := by decide +kernel
theorem dX12_readBarn_11 : decode cX12_readBarn 11 = .ok (.imul, 1) := by decide +kernel
theorem dX12_readBarn_12 : decode cX12_readBarn 12 = .ok (.istore_n 1, 1) := by decide +kernel
theorem dX12_readBarn_13 : decode cX12_readBarn 13 = .ok (.aload_n 0, 1) := by decide +kernel
theorem dX12_readBarn_14 : decode cX12_readBarn 14 = .ok (.getfield 44, 3) := by decide +kernel
theorem dX12_readBarn_17 : decode cX12_readBarn 17 = .ok (.iload_n 1, 1) := by decide +kernel
theorem dX12_readBarn_18 : decode cX12_readBarn 18 = .ok (.aload_n 0, 1) := by decide +kernel
theorem dX12_readBarn_19 : decode cX12_readBarn 19 = .ok (.iconst 0, 1) := by decide +kernel
theorem dX12_readBarn_20 : decode cX12_readBarn 20 = .ok (.bipush 40, 2) := by decide +kernel
theorem dX12_readBarn_22 : decode cX12_readBarn 22 = .ok (.iconst (-1), 1) := by decide +kernel
theorem dX12_readBarn_23 : decode cX12_readBarn 23 = .ok (.invokevirtual 219, 3) := by decide +kernel
theorem dX12_readBarn_26 : decode cX12_readBarn 26 = .ok (.iastore, 1) := by decide +kernel
theorem dX12_readBarn_27 : decode cX12_readBarn 27 = .ok (.aload_n 0, 1) := by decide +kernel
theorem dX12_readBarn_28 : decode cX12_readBarn 28 = .ok (.getfield 44, 3) := by decide +kernel
theorem dX12_readBarn_31 : decode cX12_readBarn 31 = .ok (.iload_n 1, 1) := by decide +kernel
theorem dX12_readBarn_32 : decode cX12_readBarn 32 = .ok (.iconst 1, 1) := by decide +kernel
theorem dX12_readBarn_33 : decode cX12_readBarn 33 = .ok (.iadd, 1) := by decide +kernel
theorem dX12_readBarn_34 : decode cX12_readBarn 34 = .ok (.aload_n 0, 1) := by decide +kernel
theorem dX12_readBarn_35 : decode cX12_readBarn 35 = .ok (.iconst 0, 1) := by decide +kernel
theorem dX12_readBarn_36 : decode cX12_readBarn 36 = .ok (.bipush 40, 2) := by decide +kernel
theorem dX12_readBarn_38 : decode cX12_readBarn 38 = .ok (.iconst (-1), 1) := by decide +kernel
theorem dX12_readBarn_39 : decode cX12_readBarn 39 = .ok (.invokevirtual 219, 3) := by decide +kernel
theorem dX12_readBarn_42 : decode cX12_readBarn 42 = .ok (.iastore, 1) := by decide +kernel
theorem dX12_readBarn_43 : decode cX12_readBarn 43 = .ok (.aload_n 0, 1) := by decide +kernel
theorem dX12_readBarn_44 : decode cX12_readBarn 44 = .ok (.getfield 44, 3) := by decide +kernel
theorem dX12_readBarn_47 : decode cX12_readBarn 47 = .ok (.iload_n 1, 1) := by decide +kernel
theorem dX12_readBarn_48 : decode cX12_readBarn 48 = .ok (.iconst 2, 1) := by decide +kernel
theorem dX12_readBarn_49 : decode cX12_readBarn 49 = .ok (.iadd, 1) := by decide +kernel
theorem dX12_readBarn_50 : decode cX12_readBarn 50 = .ok (.aload_n 0, 1) := by decide +kernel
theorem dX12_readBarn_51 : decode cX12_readBarn 51 = .ok (.ldc 223, 2) := by decide +kernel
theorem dX12_readBarn_53 : decode cX12_readBarn 53 = .ok (.bipush 100, 2) := by decide +kernel
theorem dX12_readBarn_55 : decode cX12_readBarn 55 = .ok (.invokevirtual 225, 3) := by decide +kernel
theorem dX12_readBarn_58 : decode cX12_readBarn 58 = .ok (.iastore, 1) := by decide +kernel
theorem dX12_readBarn_59 : decode cX12_readBarn 59 = .ok (.aload_n 0, 1) := by decide +kernel
theorem dX12_readBarn_60 : decode cX12_readBarn 60 = .ok (.getfield 44, 3) := by decide +kernel
theorem dX12_readBarn_63 : decode cX12_readBarn 63 = .ok (.iload_n 1, 1) := by decide +kernel
theorem dX12_readBarn_64 : decode cX12_readBarn 64 = .ok (.iconst 3, 1) := by decide +kernel
theorem dX12_readBarn_65 : decode cX12_readBarn 65 = .ok (.iadd, 1) := by decide +kernel
theorem dX12_readBarn_66 : decode cX12_readBarn 66 = .ok (.iconst 0, 1) := by decide +kernel
theorem dX12_readBarn_67 : decode cX12_readBarn 67 = .ok (.iastore, 1) := by decide +kernel
theorem dX12_readBarn_68 : decode cX12_readBarn 68 = .ok (.aload_n 0, 1) := by decide +kernel
theorem dX12_readBarn_69 : decode cX12_readBarn 69 = .ok (.getfield 44, 3) := by decide +kernel
theorem dX12_readBarn_72 : decode cX12_readBarn 72 = .ok (.iload_n 1, 1) := by decide +kernel
theorem dX12_readBarn_73 : decode cX12_readBarn 73 = .ok (.iconst 4, 1) := by decide +kernel
theorem dX12_readBarn_74 : decode cX12_readBarn 74 = .ok (.iadd, 1) := by decide +kernel
theorem dX12_readBarn_75 : decode cX12_readBarn 75 = .ok (.bipush 99, 2) := by decide +kernel
theorem dX12_readBarn_77 : decode cX12_readBarn 77 = .ok (.iastore, 1) := by decide +kernel
theorem dX12_readBarn_78 : decode cX12_readBarn 78 = .ok (.aload_n 0, 1) := by decide +kernel
theorem dX12_readBarn_79 : decode cX12_readBarn 79 = .ok (.ldc 229, 2) := by decide +kernel
theorem dX12_readBarn_81 : decode cX12_readBarn 81 = .ok (.invokevirtual 216, 3) := by decide +kernel
theorem dX12_readBarn_84 : decode cX12_readBarn 84 = .ok (.ifCond .eq 42, 3) := by decide +kernel
theorem dX12_readBarn_87 : decode cX12_readBarn 87 = .ok (.aload_n 0, 1) := by decide +kernel
theorem dX12_readBarn_88 : decode cX12_readBarn 88 = .ok (.getfield 44, 3) := by decide +kernel
theorem dX12_readBarn_91 : decode cX12_readBarn 91 = .ok (.iload_n 1, 1) := by decide +kernel
theorem dX12_readBarn_92 : decode cX12_readBarn 92 = .ok (.iconst 3, 1) := by decide +kernel
theorem dX12_readBarn_93 : decode cX12_readBarn 93 = .ok (.iadd, 1) := by decide +kernel
theorem dX12_readBarn_94 : decode cX12_readBarn 94 = .ok (.aload_n 0, 1) := by decide +kernel
theorem dX12_readBarn_95 : decode cX12_readBarn 95 = .ok (.iconst 0, 1) := by decide +kernel
theorem dX12_readBarn_96 : decode cX12_readBarn 96 = .ok (.bipush 99, 2) := by decide +kernel
theorem dX12_readBarn_98 : decode cX12_readBarn 98 = .ok (.iconst (-1), 1) := by decide +kernel
theorem dX12_readBarn_99 : decode cX12_readBarn 99 = .ok (.invokevirtual 219, 3) := by decide +kernel
theorem dX12_readBarn_102 : decode cX12_readBarn 102 = .ok (.iastore, 1) := by decide +kernel
theorem dX12_readBarn_103 : decode cX12_readBarn 103 = .ok (.aload_n 0, 1) := by decide +kernel
theorem dX12_readBarn_104 : decode cX12_readBarn 104 = .ok (.getfield 44, 3) := by decide +kernel
theorem dX12_readBarn_107 : decode cX12_readBarn 107 = .ok (.iload_n 1, 1) := by decide +kernel
theorem dX12_readBarn_108 : decode cX12_readBarn 108 = .ok (.iconst 4, 1) := by decide +kernel
theorem dX12_readBarn_109 : decode cX12_readBarn 109 = .ok (.iadd, 1) := by decide +kernel
theorem dX12_readBarn_110 : decode cX12_readBarn 110 = .ok (.aload_n 0, 1) := by decide +kernel
theorem dX12_readBarn_111 : decode cX12_readBarn 111 = .ok (.iconst 0, 1) := by decide +kernel
theorem dX12_readBarn_112 : decode cX12_readBarn 112 = .ok (.bipush 99, 2) := by decide +kernel
theorem dX12_readBarn_114 : decode cX12_readBarn 114 = .ok (.aload_n 0, 1) := by decide +kernel
theorem dX12_readBarn_115 : decode cX12_readBarn 115 = .ok (.getfield 44, 3) := by decide +kernel
theorem dX12_readBarn_118 : decode cX12_readBarn 118 = .ok (.iload_n 1, 1) := by decide +kernel
theorem dX12_readBarn_119 : decode cX12_readBarn 119 = .ok (.iconst 3, 1) := by decide +kernel
theorem dX12_readBarn_120 : decode cX12_readBarn 120 = .ok (.iadd, 1) := by decide +kernel
theorem dX12_readBarn_121 : decode cX12_readBarn 121 = .ok (.iaload, 1) := by decide +kernel
theorem dX12_readBarn_122 : decode cX12_readBarn 122 = .ok (.invokevirtual 219, 3) := by decide +kernel
theorem dX12_readBarn_125 : decode cX12_readBarn 125 = .ok (.iastore, 1) := by decide +kernel
theorem dX12_readBarn_126 : decode cX12_readBarn 126 = .ok (.aload_n 0, 1) := by decide +kernel
theorem dX12_readBarn_127 : decode cX12_readBarn 127 = .ok (.getfield 31, 3) := by decide +kernel
theorem dX12_readBarn_130 : decode cX12_readBarn 130 = .ok (.bipush 6, 2) := by decide +kernel
theorem dX12_readBarn_132 : decode cX12_readBarn 132 = .ok (.dup2, 1) := by decide +kernel
theorem dX12_readBarn_133 : decode cX12_readBarn 133 = .ok (.iaload, 1) := by decide +kernel
theorem dX12_readBarn_134 : decode cX12_readBarn 134 = .ok (.iconst 1, 1) := by decide +kernel
theorem dX12_readBarn_135 : decode cX12_readBarn 135 = .ok (.iadd, 1) := by decide +kernel
theorem dX12_readBarn_136 : decode cX12_readBarn 136 = .ok (.iastore, 1) := by decide +kernel
theorem dX12_readBarn_137 : decode cX12_readBarn 137 = .ok (.return_, 1) := by decide +kernel
theorem dX12_readWood_0 : decode cX12_readWood 0 = .ok (.bipush 24, 2) := by decide +kernel
theorem dX12_readWood_2 : decode cX12_readWood 2 = .ok (.aload_n 0, 1) := by decide +kernel
theorem dX12_readWood_3 : decode cX12_readWood 3 = .ok (.getfield 34, 3) := by decide +kernel
theorem dX12_readWood_6 : decode cX12_readWood 6 = .ok (.bipush 6, 2) := by decide +kernel
theorem dX12_readWood_8 : decode cX12_readWood 8 = .ok (.iaload, 1) := by decide +kernel
theorem dX12_readWood_9 : decode cX12_readWood 9 = .ok (.iadd, 1) := by decide +kernel
theorem dX12_readWood_10 : decode cX12_readWood 10 = .ok (.bipush 7, 2) := by decide +kernel
theorem dX12_readWood_12 : decode cX12_readWood 12 = .ok (.imul, 1) := by decide +kernel
theorem dX12_readWood_13 : decode cX12_readWood 13 = .ok (.istore_n 1, 1) := by decide +kernel
theorem dX12_readWood_14 : decode cX12_readWood 14 = .ok (.aload_n 0, 1) := by decide +kernel
theorem dX12_readWood_15 : decode cX12_readWood 15 = .ok (.getfield 46, 3) := by decide +kernel
theorem dX12_readWood_18 : decode cX12_readWood 18 = .ok (.iload_n 1, 1) := by decide +kernel
theorem dX12_readWood_19 : decode cX12_readWood 19 = .ok (.aload_n 0, 1) := by decide +kernel
theorem dX12_readWood_20 : decode cX12_readWood 20 = .ok (.iconst 0, 1) := by decide +kernel
theorem dX12_readWood_21 : decode cX12_readWood 21 = .ok (.bipush 40, 2) := by decide +kernel
theorem dX12_readWood_23 : decode cX12_readWood 23 = .ok (.iconst (-1), 1) := by decide +kernel
theorem dX12_readWood_24 : decode cX12_readWood 24 = .ok (.invokevirtual 219, 3) := by decide +kernel
theorem dX12_readWood_27 : decode cX12_readWood 27 = .ok (.iastore, 1) := by decide +kernel
theorem dX12_readWood_28 : decode cX12_readWood 28 = .ok (.aload_n 0, 1) := by decide +kernel
theorem dX12_readWood_29 : decode cX12_readWood 29 = .ok (.getfield 46, 3) := by decide +kernel
theorem dX12_readWood_32 : decode cX12_readWood 32 = .ok (.iload_n 1, 1) := by decide +kernel
theorem dX12_readWood_33 : decode cX12_readWood 33 = .ok (.iconst 1, 1) := by decide +kernel
theorem dX12_readWood_34 : decode cX12_readWood 34 = .ok (.iadd, 1) := by decide +kernel
theorem dX12_readWood_35 : decode cX12_readWood 35 = .ok (.aload_n 0, 1) := by decide +kernel
theorem dX12_readWood_36 : decode cX12_readWood 36 = .ok (.iconst 0, 1) := by decide +kernel
theorem dX12_readWood_37 : decode cX12_readWood 37 = .ok (.bipush 40, 2) := by decide +kernel
theorem dX12_readWood_39 : decode cX12_readWood 39 = .ok (.iconst (-1), 1) := by decide +kernel
theorem dX12_readWood_40 : decode cX12_readWood 40 = .ok (.invokevirtual 219, 3) := by decide +kernel
theorem dX12_readWood_43 : decode cX12_readWood 43 = .ok (.iastore, 1) := by decide +kernel
theorem dX12_readWood_44 : decode cX12_readWood 44 = .ok (.aload_n 0, 1) := by decide +kernel
theorem dX12_readWood_45 : decode cX12_readWood 45 = .ok (.getfield 46, 3) := by decide +kernel
theorem dX12_readWood_48 : decode cX12_readWood 48 = .ok (.iload_n 1, 1) := by decide +kernel
theorem dX12_readWood_49 : decode cX12_readWood 49 = .ok (.iconst 2, 1) := by decide +kernel
theorem dX12_readWood_50 : decode cX12_readWood 50 = .ok (.iadd, 1) := by decide +kernel
theorem dX12_readWood_51 : decode cX12_readWood 51 = .ok (.aload_n 0, 1) := by decide +kernel
theorem dX12_readWood_52 : decode cX12_readWood 52 = .ok (.iconst 0, 1) := by decide +kernel
theorem dX12_readWood_53 : decode cX12_readWood 53 = .ok (.bipush 40, 2) := by decide +kernel
theorem dX12_readWood_55 : decode cX12_readWood 55 = .ok (.aload_n 0, 1) := by decide +kernel
theorem dX12_readWood_56 : decode cX12_readWood 56 = .ok (.getfield 46, 3) := by decide +kernel
theorem dX12_readWood_59 : decode cX12_readWood 59 = .ok (.iload_n 1, 1) := by decide +kernel
theorem dX12_readWood_60 : decode cX12_readWood 60 = .ok (.iaload, 1) := by decide +kernel
theorem dX12_readWood_61 : decode cX12_readWood 61 = .ok (.invokevirtual 219, 3) := by decide +kernel
theorem dX12_readWood_64 : decode cX12_readWood 64 = .ok (.iastore, 1) := by decide +kernel
theorem dX12_readWood_65 : decode cX12_readWood 65 = .ok (.aload_n 0, 1) := by decide +kernel
theorem dX12_readWood_66 : decode cX12_readWood 66 = .ok (.getfield 46, 3) := by decide +kernel
theorem dX12_readWood_69 : decode cX12_readWood 69 = .ok (.iload_n 1, 1) := by decide +kernel
theorem dX12_readWood_70 : decode cX12_readWood 70 = .ok (.iconst 3, 1) := by decide +kernel
theorem dX12_readWood_71 : decode cX12_readWood 71 = .ok (.iadd, 1) := by decide +kernel
theorem dX12_readWood_72 : decode cX12_readWood 72 = .ok (.aload_n 0, 1) := by decide +kernel
theorem dX12_readWood_73 : decode cX12_readWood 73 = .ok (.iconst 0, 1) := by decide +kernel
theorem dX12_readWood_74 : decode cX12_readWood 74 = .ok (.bipush 40, 2) := by decide +kernel
theorem dX12_readWood_76 : decode cX12_readWood 76 = .ok (.aload_n 0, 1) := by decide +kernel
theorem dX12_readWood_77 : decode cX12_readWood 77 = .ok (.getfield 46, 3) := by decide +kernel
theorem dX12_readWood_80 : decode cX12_readWood 80 = .ok (.iload_n 1, 1) := by decide +kernel
theorem dX12_readWood_81 : decode cX12_readWood 81 = .ok (.iconst 1, 1) := by decide +kernel
theorem dX12_readWood_82 : decode cX12_readWood 82 = .ok (.iadd, 1) := by decide +kernel
theorem dX12_readWood_83 : decode cX12_readWood 83 = .ok (.iaload, 1) := by decide +kernel
theorem dX12_readWood_84 : decode cX12_readWood 84 = .ok (.invokevirtual 219, 3) := by decide +kernel
theorem dX12_readWood_87 : decode cX12_readWood 87 = .ok (.iastore, 1) := by decide +kernel
theorem dX12_readWood_88 : decode cX12_readWood 88 = .ok (.iconst 4, 1) := by decide +kernel
theorem dX12_readWood_89 : decode cX12_readWood 89 = .ok (.istore_n 2, 1) := by decide +kernel
theorem dX12_readWood_90 : decode cX12_readWood 90 = .ok (.iload_n 2, 1) := by decide +kernel
theorem dX12_readWood_91 : decode cX12_readWood 91 = .ok (.bipush 7, 2) := by decide +kernel
theorem dX12_readWood_93 : decode cX12_readWood 93 = .ok (.if_icmp .ge 25, 3) := by decide +kernel
theorem dX12_readWood_96 : decode cX12_readWood 96 = .ok (.aload_n 0, 1) := by decide +kernel
theorem dX12_readWood_97 : decode cX12_readWood 97 = .ok (.getfield 46, 3) := by decide +kernel
theorem dX12_readWood_100 : decode cX12_readWood 100 = .ok (.iload_n 1, 1) := by decide +kernel
theorem dX12_readWood_101 : decode cX12_readWood 101 = .ok (.iload_n 2, 1) := by decide +kernel
theorem dX12_readWood_102 : decode cX12_readWood 102 = .ok (.iadd, 1) := by decide +kernel
theorem dX12_readWood_103 : decode cX12_readWood 103 = .ok (.aload_n 0, 1) := by decide +kernel
theorem dX12_readWood_104 : decode cX12_readWood 104 = .ok (.iconst 0, 1) := by decide +kernel
theorem dX12_readWood_105 : decode cX12_readWood 105 = .ok (.bipush 100, 2) := by decide +kernel
theorem dX12_readWood_107 : decode cX12_readWood 107 = .ok (.iconst (-1), 1) := by decide +kernel
theorem dX12_readWood_108 : decode cX12_readWood 108 = .ok (.invokevirtual 219, 3) := by decide +kernel
theorem dX12_readWood_111 : decode cX12_readWood 111 = .ok (.iastore, 1) := by decide +kernel
theorem dX12_readWood_112 : decode cX12_readWood 112 = .ok (.iinc 2 1, 3) := by decide +kernel
theorem dX12_readWood_115 : decode cX12_readWood 115 = .ok (.goto (-25), 3) := by decide +kernel
theorem dX12_readWood_118 : decode cX12_readWood 118 = .ok (.aload_n 0, 1) := by decide +kernel
theorem dX12_readWood_119 : decode cX12_readWood 119 = .ok (.getfield 34, 3) := by decide +kernel
theorem dX12_readWood_122 : decode cX12_readWood 122 = .ok (.bipush 6, 2) := by decide +kernel
theorem dX12_readWood_124 : decode cX12_readWood 124 = .ok (.dup2, 1) := by decide +kernel
theorem dX12_readWood_125 : decode cX12_readWood 125 = .ok (.iaload, 1) := by decide +kernel
theorem dX12_readWood_126 : decode cX12_readWood 126 = .ok (.iconst 1, 1) := by decide +kernel
theorem dX12_readWood_127 : decode cX12_readWood 127 = .ok (.iadd, 1) := by decide +kernel
theorem dX12_readWood_128 : decode cX12_readWood 128 = .ok (.iastore, 1) := by decide +kernel
theorem dX12_readWood_129 : decode cX12_readWood 129 = .ok (.return_, 1) := by decide +kernel
theorem dX12_readLine_0 : decode cX12_readLine 0 = .ok (.aload_n 0, 1) := by decide +kernel
theorem dX12_readLine_1 : decode cX12_readLine 1 = .ok (.invokevirtual 231, 3) := by decide +kernel
theorem dX12_readLine_4 : decode cX12_readLine 4 = .ok (.istore_n 2, 1) := by decide +kernel
theorem dX12_readLine_5 : decode cX12_readLine 5 = .ok (.iload_n 2, 1) := by decide +kernel
theorem dX12_readLine_6 : decode cX12_readLine 6 = .ok (.iconst (-1), 1) := by decide +kernel
theorem dX12_readLine_7 : decode cX12_readLine 7 = .ok (.if_icmp .ne 11, 3) := by decide +kernel
theorem dX12_readLine_10 : decode cX12_readLine 10 = .ok (.aload_n 0, 1) := by decide +kernel
theorem dX12_readLine_11 : decode cX12_readLine 11 = .ok (.iconst 1, 1) := by decide +kernel
theorem dX12_readLine_12 : decode cX12_readLine 12 = .ok (.invokevirtual 213, 3) := by decide +kernel
theorem dX12_readLine_15 : decode cX12_readLine 15 = .ok (.goto 80, 3) := by decide +kernel
theorem dX12_readLine_18 : decode cX12_readLine 18 = .ok (.iload_n 2, 1) := by decide +kernel
theorem dX12_readLine_19 : decode cX12_readLine 19 = .ok (.iconst 2, 1) := by decide +kernel
theorem dX12_readLine_20 : decode cX12_readLine 20 = .ok (.if_icmp .ge 15, 3) := by decide +kernel
theorem dX12_readLine_23 : decode cX12_readLine 23 = .ok (.aload_n 0, 1) := by decide +kernel
theorem dX12_readLine_24 : decode cX12_readLine 24 = .ok (.getfield 27, 3) := by decide +kernel
theorem dX12_readLine_27 : decode cX12_readLine 27 = .ok (.bipush 6, 2) := by decide +kernel
theorem dX12_readLine_29 : decode cX12_readLine 29 = .ok (.iaload, 1) := by decide +kernel
theorem dX12_readLine_30 : decode cX12_readLine 30 = .ok (.bipush 6, 2) := by decide +kernel
theorem dX12_readLine_32 : decode cX12_readLine 32 = .ok (.if_icmp .eq 36, 3) := by decide +kernel
theorem dX12_readLine_35 : decode cX12_readLine 35 = .ok (.iload_n 2, 1) := by decide +kernel
theorem dX12_readLine_36 : decode cX12_readLine 36 = .ok (.iconst 2, 1) := by decide +kernel
theorem dX12_readLine_37 : decode cX12_readLine 37 = .ok (.if_icmp .ne 15, 3) := by decide +kernel
theorem dX12_readLine_40 : decode cX12_readLine 40 = .ok (.aload_n 0, 1) := by decide +kernel
theorem dX12_readLine_41 : decode cX12_readLine 41 = .ok (.getfield 31, 3) := by decide +kernel
theorem dX12_readLine_44 : decode cX12_readLine 44 = .ok (.bipush 6, 2) := by decide +kernel
theorem dX12_readLine_46 : decode cX12_readLine 46 = .ok (.iaload, 1) := by decide +kernel
theorem dX12_readLine_47 : decode cX12_readLine 47 = .ok (.bipush 6, 2) := by decide +kernel
theorem dX12_readLine_49 : decode cX12_readLine 49 = .ok (.if_icmp .eq 19, 3) := by decide +kernel
theorem dX12_readLine_52 : decode cX12_readLine 52 = .ok (.iload_n 2, 1) := by decide +kernel
theorem dX12_readLine_53 : decode cX12_readLine 53 = .ok (.iconst 3, 1) := by decide +kernel
theorem dX12_readLine_54 : decode cX12_readLine 54 = .ok (.if_icmp .ne 22, 3) := by decide +kernel
