theorem dX0_init_0 : decode cX0_init 0 = .ok (.aload_n 0, 1) := by decide +kernel
theorem dX0_init_1 : decode cX0_init 1 = .ok (.invokespecial 1, 3) := by decide +kernel
theorem dX0_init_4 : decode cX0_init 4 = .ok (.return_, 1) := by decide +kernel
theorem dX1_init_0 : decode cX1_init 0 = .ok (.aload_n 0, 1) := by decide +kernel
theorem dX1_init_1 : decode cX1_init 1 = .ok (.invokespecial 3, 3) := by decide +kernel
theorem dX1_init_4 : decode cX1_init 4 = .ok (.aload_n 0, 1) := by decide +kernel
theorem dX1_init_5 : decode cX1_init 5 = .ok (.bipush 8, 2) := by decide +kernel
theorem dX1_init_7 : decode cX1_init 7 = .ok (.newarray .int, 2) := by decide +kernel
theorem dX1_init_9 : decode cX1_init 9 = .ok (.putfield 9, 3) := by decide +kernel
theorem dX1_init_12 : decode cX1_init 12 = .ok (.aload_n 0, 1) := by decide +kernel
theorem dX1_init_13 : decode cX1_init 13 = .ok (.bipush 8, 2) := by decide +kernel
theorem dX1_init_15 : decode cX1_init 15 = .ok (.newarray .int, 2) := by decide +kernel
theorem dX1_init_17 : decode cX1_init 17 = .ok (.putfield 15, 3) := by decide +kernel
theorem dX1_init_20 : decode cX1_init 20 = .ok (.aload_n 0, 1) := by decide +kernel
theorem dX1_init_21 : decode cX1_init 21 = .ok (.iconst 4, 1) := by decide +kernel
theorem dX1_init_22 : decode cX1_init 22 = .ok (.newarray .int, 2) := by decide +kernel
theorem dX1_init_24 : decode cX1_init 24 = .ok (.putfield 18, 3) := by decide +kernel
theorem dX1_init_27 : decode cX1_init 27 = .ok (.aload_n 0, 1) := by decide +kernel
theorem dX1_init_28 : decode cX1_init 28 = .ok (.bipush 20, 2) := by decide +kernel
theorem dX1_init_30 : decode cX1_init 30 = .ok (.anewarray 21, 3) := by decide +kernel
theorem dX1_init_33 : decode cX1_init 33 = .ok (.putfield 23, 3) := by decide +kernel
theorem dX1_init_36 : decode cX1_init 36 = .ok (.aload_n 0, 1) := by decide +kernel
theorem dX1_init_37 : decode cX1_init 37 = .ok (.bipush 20, 2) := by decide +kernel
theorem dX1_init_39 : decode cX1_init 39 = .ok (.anewarray 21, 3) := by decide +kernel
theorem dX1_init_42 : decode cX1_init 42 = .ok (.putfield 27, 3) := by decide +kernel
theorem dX1_init_45 : decode cX1_init 45 = .ok (.iconst 0, 1) := by decide +kernel
theorem dX1_init_46 : decode cX1_init 46 = .ok (.istore_n 1, 1) := by decide +kernel
theorem dX1_init_47 : decode cX1_init 47 = .ok (.iload_n 1, 1) := by decide +kernel
theorem dX1_init_48 : decode cX1_init 48 = .ok (.bipush 20, 2) := by decide +kernel
theorem dX1_init_50 : decode cX1_init 50 = .ok (.if_icmp .ge 34, 3) := by decide +kernel
theorem dX1_init_53 : decode cX1_init 53 = .ok (.aload_n 0, 1) := by decide +kernel
theorem dX1_init_54 : decode cX1_init 54 = .ok (.getfield 23, 3) := by decide +kernel
theorem dX1_init_57 : decode cX1_init 57 = .ok (.iload_n 1, 1) := by decide +kernel
theorem dX1_init_58 : decode cX1_init 58 = .ok (.new 21, 3) := by decide +kernel
theorem dX1_init_61 : decode cX1_init 61 = .ok (.dup, 1) := by decide +kernel
theorem dX1_init_62 : decode cX1_init 62 = .ok (.invokespecial 30, 3) := by decide +kernel
theorem dX1_init_65 : decode cX1_init 65 = .ok (.aastore, 1) := by decide +kernel
theorem dX1_init_66 : decode cX1_init 66 = .ok (.aload_n 0, 1) := by decide +kernel
theorem dX1_init_67 : decode cX1_init 67 = .ok (.getfield 27, 3) := by decide +kernel
theorem dX1_init_70 : decode cX1_init 70 = .ok (.iload_n 1, 1) := by decide +kernel
theorem dX1_init_71 : decode cX1_init 71 = .ok (.aload_n 0, 1) := by decide +kernel
theorem dX1_init_72 : decode cX1_init 72 = .ok (.getfield 23, 3) := by decide +kernel
theorem dX1_init_75 : decode cX1_init 75 = .ok (.iload_n 1, 1) := by decide +kernel
theorem dX1_init_76 : decode cX1_init 76 = .ok (.aaload, 1) := by decide +kernel
theorem dX1_init_77 : decode cX1_init 77 = .ok (.aastore, 1) := by decide +kernel
theorem dX1_init_78 : decode cX1_init 78 = .ok (.iinc 1 1, 3) := by decide +kernel
theorem dX1_init_81 : decode cX1_init 81 = .ok (.goto (-34), 3) := by decide +kernel
theorem dX1_init_84 : decode cX1_init 84 = .ok (.return_, 1) := by decide +kernel
theorem dX1_empty_0 : decode cX1_empty 0 = .ok (.aload_n 0, 1) := by decide +kernel
theorem dX1_empty_1 : decode cX1_empty 1 = .ok (.iconst 0, 1) := by decide +kernel
theorem dX1_empty_2 : decode cX1_empty 2 = .ok (.putfield 31, 3) := by decide +kernel
theorem dX1_empty_5 : decode cX1_empty 5 = .ok (.aload_n 0, 1) := by decide +kernel
theorem dX1_empty_6 : decode cX1_empty 6 = .ok (.iconst 0, 1) := by decide +kernel
theorem dX1_empty_7 : decode cX1_empty 7 = .ok (.putfield 35, 3) := by decide +kernel
theorem dX1_empty_10 : decode cX1_empty 10 = .ok (.return_, 1) := by decide +kernel
theorem dX1_pickNamed_0 : decode cX1_pickNamed 0 = .ok (.aload_n 0, 1) := by decide +kernel
theorem dX1_pickNamed_1 : decode cX1_pickNamed 1 = .ok (.iconst 0, 1) := by decide +kernel
theorem dX1_pickNamed_2 : decode cX1_pickNamed 2 = .ok (.putfield 38, 3) := by decide +kernel
theorem dX1_pickNamed_5 : decode cX1_pickNamed 5 = .ok (.iconst 0, 1) := by decide +kernel
theorem dX1_pickNamed_6 : decode cX1_pickNamed 6 = .ok (.istore_n 2, 1) := by decide +kernel
theorem dX1_pickNamed_7 : decode cX1_pickNamed 7 = .ok (.iload_n 2, 1) := by decide +kernel
theorem dX1_pickNamed_8 : decode cX1_pickNamed 8 = .ok (.aload_n 0, 1) := by decide +kernel
theorem dX1_pickNamed_9 : decode cX1_pickNamed 9 = .ok (.getfield 31, 3) := by decide +kernel
theorem dX1_pickNamed_12 : decode cX1_pickNamed 12 = .ok (.if_icmp .ge 59, 3) := by decide +kernel
theorem dX1_pickNamed_15 : decode cX1_pickNamed 15 = .ok (.aload_n 0, 1) := by decide +kernel
theorem dX1_pickNamed_16 : decode cX1_pickNamed 16 = .ok (.getfield 23, 3) := by decide +kernel
theorem dX1_pickNamed_19 : decode cX1_pickNamed 19 = .ok (.iload_n 2, 1) := by decide +kernel
theorem dX1_pickNamed_20 : decode cX1_pickNamed 20 = .ok (.aaload, 1) := by decide +kernel
theorem dX1_pickNamed_21 : decode cX1_pickNamed 21 = .ok (.invokevirtual 41, 3) := by decide +kernel
theorem dX1_pickNamed_24 : decode cX1_pickNamed 24 = .ok (.ifCond .eq 41, 3) := by decide +kernel
theorem dX1_pickNamed_27 : decode cX1_pickNamed 27 = .ok (.aload_n 0, 1) := by decide +kernel
theorem dX1_pickNamed_28 : decode cX1_pickNamed 28 = .ok (.getfield 23, 3) := by decide +kernel
theorem dX1_pickNamed_31 : decode cX1_pickNamed 31 = .ok (.iload_n 2, 1) := by decide +kernel
theorem dX1_pickNamed_32 : decode cX1_pickNamed 32 = .ok (.aaload, 1) := by decide +kernel
theorem dX1_pickNamed_33 : decode cX1_pickNamed 33 = .ok (.getfield 45, 3) := by decide +kernel
theorem dX1_pickNamed_36 : decode cX1_pickNamed 36 = .ok (.iload_n 1, 1) := by decide +kernel
theorem dX1_pickNamed_37 : decode cX1_pickNamed 37 = .ok (.if_icmp .ne 28, 3) := by decide +kernel
theorem dX1_pickNamed_40 : decode cX1_pickNamed 40 = .ok (.aload_n 0, 1) := by decide +kernel
theorem dX1_pickNamed_41 : decode cX1_pickNamed 41 = .ok (.getfield 27, 3) := by decide +kernel
theorem dX1_pickNamed_44 : decode cX1_pickNamed 44 = .ok (.aload_n 0, 1) := by decide +kernel
theorem dX1_pickNamed_45 : decode cX1_pickNamed 45 = .ok (.getfield 38, 3) := by decide +kernel
theorem dX1_pickNamed_48 : decode cX1_pickNamed 48 = .ok (.aload_n 0, 1) := by decide +kernel
theorem dX1_pickNamed_49 : decode cX1_pickNamed 49 = .ok (.getfield 23, 3) := by decide +kernel
theorem dX1_pickNamed_52 : decode cX1_pickNamed 52 = .ok (.iload_n 2, 1) := by decide +kernel
theorem dX1_pickNamed_53 : decode cX1_pickNamed 53 = .ok (.aaload, 1) := by decide +kernel
theorem dX1_pickNamed_54 : decode cX1_pickNamed 54 = .ok (.aastore, 1) := by decide +kernel
theorem dX1_pickNamed_55 : decode cX1_pickNamed 55 = .ok (.aload_n 0, 1) := by decide +kernel
theorem dX1_pickNamed_56 : decode cX1_pickNamed 56 = .ok (.dup, 1) := by decide +kernel
theorem dX1_pickNamed_57 : decode cX1_pickNamed 57 = .ok (.getfield 38, 3) := by decide +kernel
theorem dX1_pickNamed_60 : decode cX1_pickNamed 60 = .ok (.iconst 1, 1) := by decide +kernel
theorem dX1_pickNamed_61 : decode cX1_pickNamed 61 = .ok (.iadd, 1) := by decide +kernel
theorem dX1_pickNamed_62 : decode cX1_pickNamed 62 = .ok (.putfield 38, 3) := by decide +kernel
theorem dX1_pickNamed_65 : decode cX1_pickNamed 65 = .ok (.iinc 2 1, 3) := by decide +kernel
theorem dX1_pickNamed_68 : decode cX1_pickNamed 68 = .ok (.goto (-61), 3) := by decide +kernel
theorem dX1_pickNamed_71 : decode cX1_pickNamed 71 = .ok (.aload_n 0, 1) := by decide +kernel
theorem dX1_pickNamed_72 : decode cX1_pickNamed 72 = .ok (.getfield 38, 3) := by decide +kernel
theorem dX1_pickNamed_75 : decode cX1_pickNamed 75 = .ok (.ireturn, 1) := by decide +kernel
theorem dX1_copyFrom_0 : decode cX1_copyFrom 0 = .ok (.aload_n 0, 1) := by decide +kernel
theorem dX1_copyFrom_1 : decode cX1_copyFrom 1 = .ok (.aload_n 1, 1) := by decide +kernel
theorem dX1_copyFrom_2 : decode cX1_copyFrom 2 = .ok (.getfield 31, 3) := by decide +kernel
theorem dX1_copyFrom_5 : decode cX1_copyFrom 5 = .ok (.putfield 31, 3) := by decide +kernel
theorem dX1_copyFrom_8 : decode cX1_copyFrom 8 = .ok (.iconst 0, 1) := by decide +kernel
theorem dX1_copyFrom_9 : decode cX1_copyFrom 9 = .ok (.istore_n 2, 1) := by decide +kernel
theorem dX1_copyFrom_10 : decode cX1_copyFrom 10 = .ok (.iload_n 2, 1) := by decide +kernel
theorem dX1_copyFrom_11 : decode cX1_copyFrom 11 = .ok (.aload_n 0, 1) := by decide +kernel
theorem dX1_copyFrom_12 : decode cX1_copyFrom 12 = .ok (.getfield 31, 3) := by decide +kernel
theorem dX1_copyFrom_15 : decode cX1_copyFrom 15 = .ok (.if_icmp .ge 24, 3) := by decide +kernel
theorem dX1_copyFrom_18 : decode cX1_copyFrom 18 = .ok (.aload_n 0, 1) := by decide +kernel
theorem dX1_copyFrom_19 : decode cX1_copyFrom 19 = .ok (.getfield 23, 3) := by decide +kernel
theorem dX1_copyFrom_22 : decode cX1_copyFrom 22 = .ok (.iload_n 2, 1) := by decide +kernel
theorem dX1_copyFrom_23 : decode cX1_copyFrom 23 = .ok (.aaload, 1) := by decide +kernel
theorem dX1_copyFrom_24 : decode cX1_copyFrom 24 = .ok (.aload_n 1, 1) := by decide +kernel
theorem dX1_copyFrom_25 : decode cX1_copyFrom 25 = .ok (.getfield 23, 3) := by decide +kernel
theorem dX1_copyFrom_28 : decode cX1_copyFrom 28 = .ok (.iload_n 2, 1) := by decide +kernel
theorem dX1_copyFrom_29 : decode cX1_copyFrom 29 = .ok (.aaload, 1) := by decide +kernel
theorem dX1_copyFrom_30 : decode cX1_copyFrom 30 = .ok (.invokevirtual 48, 3) := by decide +kernel
theorem dX1_copyFrom_33 : decode cX1_copyFrom 33 = .ok (.iinc 2 1, 3) := by decide +kernel
theorem dX1_copyFrom_36 : decode cX1_copyFrom 36 = .ok (.goto (-26), 3) := by decide +kernel
theorem dX1_copyFrom_39 : decode cX1_copyFrom 39 = .ok (.aload_n 0, 1) := by decide +kernel
theorem dX1_copyFrom_40 : decode cX1_copyFrom 40 = .ok (.aload_n 1, 1) := by decide +kernel
theorem dX1_copyFrom_41 : decode cX1_copyFrom 41 = .ok (.getfield 35, 3) := by decide +kernel
theorem dX1_copyFrom_44 : decode cX1_copyFrom 44 = .ok (.putfield 35, 3) := by decide +kernel
theorem dX1_copyFrom_47 : decode cX1_copyFrom 47 = .ok (.aload_n 1, 1) := by decide +kernel
theorem dX1_copyFrom_48 : decode cX1_copyFrom 48 = .ok (.getfield 9, 3) := by decide +kernel
theorem dX1_copyFrom_51 : decode cX1_copyFrom 51 = .ok (.iconst 0, 1) := by decide +kernel
theorem dX1_copyFrom_52 : decode cX1_copyFrom 52 = .ok (.aload_n 0, 1) := by decide +kernel
theorem dX1_copyFrom_53 : decode cX1_copyFrom 53 = .ok (.getfield 9, 3) := by decide +kernel
theorem dX1_copyFrom_56 : decode cX1_copyFrom 56 = .ok (.iconst 0, 1) := by decide +kernel
theorem dX1_copyFrom_57 : decode cX1_copyFrom 57 = .ok (.bipush 8, 2) := by decide +kernel
theorem dX1_copyFrom_59 : decode cX1_copyFrom 59 = .ok (.invokestatic 52, 3) := by decide +kernel
theorem dX1_copyFrom_62 : decode cX1_copyFrom 62 = .ok (.aload_n 1, 1) := by decide +kernel
theorem dX1_copyFrom_63 : decode cX1_copyFrom 63 = .ok (.getfield 15, 3) := by decide +kernel
theorem dX1_copyFrom_66 : decode cX1_copyFrom 66 = .ok (.iconst 0, 1) := by decide +kernel
theorem dX1_copyFrom_67 : decode cX1_copyFrom 67 = .ok (.aload_n 0, 1) := by decide +kernel
theorem dX1_copyFrom_68 : decode cX1_copyFrom 68 = .ok (.getfield 15, 3) := by decide +kernel
theorem dX1_copyFrom_71 : decode cX1_copyFrom 71 = .ok (.iconst 0, 1) := by decide +kernel
theorem dX1_copyFrom_72 : decode cX1_copyFrom 72 = .ok (.bipush 8, 2) := by decide +kernel
theorem dX1_copyFrom_74 : decode cX1_copyFrom 74 = .ok (.invokestatic 52, 3) := by decide +kernel
theorem dX1_copyFrom_77 : decode cX1_copyFrom 77 = .ok (.aload_n 1, 1) := by decide +kernel
theorem dX1_copyFrom_78 : decode cX1_copyFrom 78 = .ok (.getfield 18, 3) := by decide +kernel
theorem dX1_copyFrom_81 : decode cX1_copyFrom 81 = .ok (.iconst 0, 1) := by decide +kernel
theorem dX1_copyFrom_82 : decode cX1_copyFrom 82 = .ok (.aload_n 0, 1) := by decide +kernel
theorem dX1_copyFrom_83 : decode cX1_copyFrom 83 = .ok (.getfield 18, 3) := by decide +kernel
theorem dX1_copyFrom_86 : decode cX1_copyFrom 86 = .ok (.iconst 0, 1) := by decide +kernel
theorem dX1_copyFrom_87 : decode cX1_copyFrom 87 = .ok (.iconst 4, 1) := by decide +kernel
theorem dX1_copyFrom_88 : decode cX1_copyFrom 88 = .ok (.invokestatic 52, 3) := by decide +kernel
theorem dX1_copyFrom_91 : decode cX1_copyFrom 91 = .ok (.return_, 1) := by decide +kernel
theorem dX2_init_0 : decode cX2_init 0 = .ok (.aload_n 0, 1) := by decide +kernel
theorem dX2_init_1 : decode cX2_init 1 = .ok (.invokespecial 3, 3) := by decide +kernel
theorem dX2_init_4 : decode cX2_init 4 = .ok (.aload_n 0, 1) := by decide +kernel
theorem dX2_init_5 : decode cX2_init 5 = .ok (.bipush 6, 2) := by decide +kernel
theorem dX2_init_7 : decode cX2_init 7 = .ok (.bipush 16, 2) := by decide +kernel
theorem dX2_init_9 : decode cX2_init 9 = .ok (.multianewarray 9 2, 4) := by decide +kernel
theorem dX2_init_13 : decode cX2_init 13 = .ok (.putfield 11, 3) := by decide +kernel
theorem dX2_init_16 : decode cX2_init 16 = .ok (.aload_n 0, 1) := by decide +kernel
theorem dX2_init_17 : decode cX2_init 17 = .ok (.bipush 6, 2) := by decide +kernel
theorem dX2_init_19 : decode cX2_init 19 = .ok (.newarray .int, 2) := by decide +kernel
theorem dX2_init_21 : decode cX2_init 21 = .ok (.putfield 16, 3) := by decide +kernel
theorem dX2_init_24 : decode cX2_init 24 = .ok (.aload_n 0, 1) := by decide +kernel
theorem dX2_init_25 : decode cX2_init 25 = .ok (.bipush 48, 2) := by decide +kernel
theorem dX2_init_27 : decode cX2_init 27 = .ok (.newarray .int, 2) := by decide +kernel
theorem dX2_init_29 : decode cX2_init 29 = .ok (.putfield 20, 3) := by decide +kernel
theorem dX2_init_32 : decode cX2_init 32 = .ok (.aload_n 0, 1) := by decide +kernel
theorem dX2_init_33 : decode cX2_init 33 = .ok (.bipush 64, 2) := by decide +kernel
theorem dX2_init_35 : decode cX2_init 35 = .ok (.newarray .int, 2) := by decide +kernel
theorem dX2_init_37 : decode cX2_init 37 = .ok (.putfield 23, 3) := by decide +kernel
theorem dX2_init_40 : decode cX2_init 40 = .ok (.aload_n 0, 1) := by decide +kernel
theorem dX2_init_41 : decode cX2_init 41 = .ok (.bipush 64, 2) := by decide +kernel
theorem dX2_init_43 : decode cX2_init 43 = .ok (.newarray .int, 2) := by decide +kernel
theorem dX2_init_45 : decode cX2_init 45 = .ok (.putfield 26, 3) := by decide +kernel
theorem dX2_init_48 : decode cX2_init 48 = .ok (.return_, 1) := by decide +kernel
theorem dX2_keepRow_0 : decode cX2_keepRow 0 = .ok (.aload_n 0, 1) := by decide +kernel
theorem dX2_keepRow_1 : decode cX2_keepRow 1 = .ok (.getfield 16, 3) := by decide +kernel
theorem dX2_keepRow_4 : decode cX2_keepRow 4 = .ok (.iload_n 1, 1) := by decide +kernel
theorem dX2_keepRow_5 : decode cX2_keepRow 5 = .ok (.aload_n 2, 1) := by decide +kernel
theorem dX2_keepRow_6 : decode cX2_keepRow 6 = .ok (.aload_n 3, 1) := by decide +kernel
theorem dX2_keepRow_7 : decode cX2_keepRow 7 = .ok (.getfield 29, 3) := by decide +kernel
theorem dX2_keepRow_10 : decode cX2_keepRow 10 = .ok (.invokevirtual 35, 3) := by decide +kernel
theorem dX2_keepRow_13 : decode cX2_keepRow 13 = .ok (.iastore, 1) := by decide +kernel
theorem dX2_keepRow_14 : decode cX2_keepRow 14 = .ok (.iconst 0, 1) := by decide +kernel
theorem dX2_keepRow_15 : decode cX2_keepRow 15 = .ok (.istore 4, 2) := by decide +kernel
theorem dX2_keepRow_17 : decode cX2_keepRow 17 = .ok (.iload 4, 2) := by decide +kernel
theorem dX2_keepRow_19 : decode cX2_keepRow 19 = .ok (.aload_n 0, 1) := by decide +kernel
theorem dX2_keepRow_20 : decode cX2_keepRow 20 = .ok (.getfield 16, 3) := by decide +kernel
theorem dX2_keepRow_23 : decode cX2_keepRow 23 = .ok (.iload_n 1, 1) := by decide +kernel
theorem dX2_keepRow_24 : decode cX2_keepRow 24 = .ok (.iaload, 1) := by decide +kernel
theorem dX2_keepRow_25 : decode cX2_keepRow 25 = .ok (.if_icmp .ge 32, 3) := by decide +kernel
theorem dX2_keepRow_28 : decode cX2_keepRow 28 = .ok (.aload_n 0, 1) := by decide +kernel
theorem dX2_keepRow_29 : decode cX2_keepRow 29 = .ok (.getfield 11, 3) := by decide +kernel
theorem dX2_keepRow_32 : decode cX2_keepRow 32 = .ok (.iload_n 1, 1) := by decide +kernel
theorem dX2_keepRow_33 : decode cX2_keepRow 33 = .ok (.aaload, 1) := by decide +kernel
theorem dX2_keepRow_34 : decode cX2_keepRow 34 = .ok (.iload 4, 2) := by decide +kernel
theorem dX2_keepRow_36 : decode cX2_keepRow 36 = .ok (.aload_n 2, 1) := by decide +kernel
theorem dX2_keepRow_37 : decode cX2_keepRow 37 = .ok (.getfield 41, 3) := by decide +kernel
theorem dX2_keepRow_40 : decode cX2_keepRow 40 = .ok (.iload 4, 2) := by decide +kernel
theorem dX2_keepRow_42 : decode cX2_keepRow 42 = .ok (.iaload, 1) := by decide +kernel
theorem dX2_keepRow_43 : decode cX2_keepRow 43 = .ok (.aload_n 3, 1) := by decide +kernel
theorem dX2_keepRow_44 : decode cX2_keepRow 44 = .ok (.getfield 44, 3) := by decide +kernel
theorem dX2_keepRow_47 : decode cX2_keepRow 47 = .ok (.invokestatic 47, 3) := by decide +kernel
theorem dX2_keepRow_50 : decode cX2_keepRow 50 = .ok (.iastore, 1) := by decide +kernel
theorem dX2_keepRow_51 : decode cX2_keepRow 51 = .ok (.iinc 4 1, 3) := by decide +kernel
theorem dX2_keepRow_54 : decode cX2_keepRow 54 = .ok (.goto (-37), 3) := by decide +kernel
theorem dX2_keepRow_57 : decode cX2_keepRow 57 = .ok (.return_, 1) := by decide +kernel
theorem dX2_compareRows_0 : decode cX2_compareRows 0 = .ok (.iconst 0, 1) := by decide +kernel
theorem dX2_compareRows_1 : decode cX2_compareRows 1 = .ok (.istore_n 2, 1) := by decide +kernel
theorem dX2_compareRows_2 : decode cX2_compareRows 2 = .ok (.iload_n 2, 1) := by decide +kernel
theorem dX2_compareRows_3 : decode cX2_compareRows 3 = .ok (.bipush 6, 2) := by decide +kernel
theorem dX2_compareRows_5 : decode cX2_compareRows 5 = .ok (.if_icmp .ge 87, 3) := by decide +kernel
theorem dX2_compareRows_8 : decode cX2_compareRows 8 = .ok (.iconst 0, 1) := by decide +kernel
theorem dX2_compareRows_9 : decode cX2_compareRows 9 = .ok (.istore_n 3, 1) := by decide +kernel
theorem dX2_compareRows_10 : decode cX2_compareRows 10 = .ok (.iconst 0, 1) := by decide +kernel
theorem dX2_compareRows_11 : decode cX2_compareRows 11 = .ok (.istore 4, 2) := by decide +kernel
theorem dX2_compareRows_13 : decode cX2_compareRows 13 = .ok (.iload 4, 2) := by decide +kernel
theorem dX2_compareRows_15 : decode cX2_compareRows 15 = .ok (.bipush 6, 2) := by decide +kernel
theorem dX2_compareRows_17 : decode cX2_compareRows 17 = .ok (.if_icmp .ge 57, 3) := by decide +kernel
theorem dX2_compareRows_20 : decode cX2_compareRows 20 = .ok (.aload_n 0, 1) := by decide +kernel
theorem dX2_compareRows_21 : decode cX2_compareRows 21 = .ok (.getfield 16, 3) := by decide +kernel
theorem dX2_compareRows_24 : decode cX2_compareRows 24 = .ok (.iload_n 2, 1) := by decide +kernel
theorem dX2_compareRows_25 : decode cX2_compareRows 25 = .ok (.iaload, 1) := by decide +kernel
theorem dX2_compareRows_26 : decode cX2_compareRows 26 = .ok (.aload_n 0, 1) := by decide +kernel
theorem dX2_compareRows_27 : decode cX2_compareRows 27 = .ok (.getfield 16, 3) := by decide +kernel
theorem dX2_compareRows_30 : decode cX2_compareRows 30 = .ok (.iload 4, 2) := by decide +kernel
theorem dX2_compareRows_32 : decode cX2_compareRows 32 = .ok (.iaload, 1) := by decide +kernel
theorem dX2_compareRows_33 : decode cX2_compareRows 33 = .ok (.if_icmp .ne 35, 3) := by decide +kernel
theorem dX2_compareRows_36 : decode cX2_compareRows 36 = .ok (.aload_n 0, 1) := by decide +kernel
theorem dX2_compareRows_37 : decode cX2_compareRows 37 = .ok (.getfield 11, 3) := by decide +kernel
theorem dX2_compareRows_40 : decode cX2_compareRows 40 = .ok (.iload_n 2, 1) := by decide +kernel
theorem dX2_compareRows_41 : decode cX2_compareRows 41 = .ok (.aaload, 1) := by decide +kernel
theorem dX2_compareRows_42 : decode cX2_compareRows 42 = .ok (.aload_n 0, 1) := by decide +kernel
theorem dX2_compareRows_43 : decode cX2_compareRows 43 = .ok (.getfield 11, 3) := by decide +kernel
theorem dX2_compareRows_46 : decode cX2_compareRows 46 = .ok (.iload 4, 2) := by decide +kernel
theorem dX2_compareRows_48 : decode cX2_compareRows 48 = .ok (.aaload, 1) := by decide +kernel
theorem dX2_compareRows_49 : decode cX2_compareRows 49 = .ok (.aload_n 0, 1) := by decide +kernel
theorem dX2_compareRows_50 : decode cX2_compareRows 50 = .ok (.getfield 16, 3) := by decide +kernel
theorem dX2_compareRows_53 : decode cX2_compareRows 53 = .ok (.iload_n 2, 1) := by decide +kernel
theorem dX2_compareRows_54 : decode cX2_compareRows 54 = .ok (.iaload, 1) := by decide +kernel
theorem dX2_compareRows_55 : decode cX2_compareRows 55 = .ok (.invokestatic 51, 3) := by decide +kernel
theorem dX2_compareRows_58 : decode cX2_compareRows 58 = .ok (.ifCond .eq 10, 3) := by decide +kernel
theorem dX2_compareRows_61 : decode cX2_compareRows 61 = .ok (.iload_n 3, 1) := by decide +kernel
theorem dX2_compareRows_62 : decode cX2_compareRows 62 = .ok (.iconst 1, 1) := by decide +kernel
theorem dX2_compareRows_63 : decode cX2_compareRows 63 = .ok (.iload 4, 2) := by decide +kernel
theorem dX2_compareRows_65 : decode cX2_compareRows 65 = .ok (.ishl, 1) := by decide +kernel
theorem dX2_compareRows_66 : decode cX2_compareRows 66 = .ok (.ior, 1) := by decide +kernel
theorem dX2_compareRows_67 : decode cX2_compareRows 67 = .ok (.istore_n 3, 1) := by decide +kernel
theorem dX2_compareRows_68 : decode cX2_compareRows 68 = .ok (.iinc 4 1, 3) := by decide +kernel
theorem dX2_compareRows_71 : decode cX2_compareRows 71 = .ok (.goto (-58), 3) := by decide +kernel
theorem dX2_compareRows_74 : decode cX2_compareRows 74 = .ok (.aload_n 0, 1) := by decide +kernel
theorem dX2_compareRows_75 : decode cX2_compareRows 75 = .ok (.getfield 20, 3) := by decide +kernel
theorem dX2_compareRows_78 : decode cX2_compareRows 78 = .ok (.iload_n 1, 1) := by decide +kernel
theorem dX2_compareRows_79 : decode cX2_compareRows 79 = .ok (.bipush 6, 2) := by decide +kernel
theorem dX2_compareRows_81 : decode cX2_compareRows 81 = .ok (.imul, 1) := by decide +kernel
theorem dX2_compareRows_82 : decode cX2_compareRows 82 = .ok (.iload_n 2, 1) := by decide +kernel
theorem dX2_compareRows_83 : decode cX2_compareRows 83 = .ok (.iadd, 1) := by decide +kernel
theorem dX2_compareRows_84 : decode cX2_compareRows 84 = .ok (.iload_n 3, 1) := by decide +kernel
theorem dX2_compareRows_85 : decode cX2_compareRows 85 = .ok (.iastore, 1) := by decide +kernel
theorem dX2_compareRows_86 : decode cX2_compareRows 86 = .ok (.iinc 2 1, 3) := by decide +kernel
theorem dX2_compareRows_89 : decode cX2_compareRows 89 = .ok (.goto (-87), 3) := by decide +kernel
theorem dX2_compareRows_92 : decode cX2_compareRows 92 = .ok (.return_, 1) := by decide +kernel
theorem dX2_choose_0 : decode cX2_choose 0 = .ok (.iconst 0, 1) := by decide +kernel
theorem dX2_choose_1 : decode cX2_choose 1 = .ok (.istore_n 3, 1) := by decide +kernel
theorem dX2_choose_2 : decode cX2_choose 2 = .ok (.iload_n 3, 1) := by decide +kernel
theorem dX2_choose_3 : decode cX2_choose 3 = .ok (.iload_n 2, 1) := by decide +kernel
theorem dX2_choose_4 : decode cX2_choose 4 = .ok (.if_icmp .gt 117, 3) := by decide +kernel
theorem dX2_choose_7 : decode cX2_choose 7 = .ok (.iload_n 3, 1) := by decide +kernel
theorem dX2_choose_8 : decode cX2_choose 8 = .ok (.bipush 64, 2) := by decide +kernel
theorem dX2_choose_10 : decode cX2_choose 10 = .ok (.if_icmp .ge 111, 3) := by decide +kernel
theorem dX2_choose_13 : decode cX2_choose 13 = .ok (.aload_n 0, 1) := by decide +kernel
theorem dX2_choose_14 : decode cX2_choose 14 = .ok (.getfield 23, 3) := by decide +kernel
theorem dX2_choose_17 : decode cX2_choose 17 = .ok (.iload_n 3, 1) := by decide +kernel
theorem dX2_choose_18 : decode cX2_choose 18 = .ok (.iload_n 3, 1) := by decide +kernel
theorem dX2_choose_19 : decode cX2_choose 19 = .ok (.invokestatic 55, 3) := by decide +kernel
theorem dX2_choose_22 : decode cX2_choose 22 = .ok (.iconst 2, 1) := by decide +kernel
theorem dX2_choose_23 : decode cX2_choose 23 = .ok (.if_icmp .ge 7, 3) := by decide +kernel
theorem dX2_choose_26 : decode cX2_choose 26 = .ok (.iconst 0, 1) := by decide +kernel
theorem dX2_choose_27 : decode cX2_choose 27 = .ok (.goto 4, 3) := by decide +kernel
theorem dX2_choose_30 : decode cX2_choose 30 = .ok (.iconst (-1), 1) := by decide +kernel
theorem dX2_choose_31 : decode cX2_choose 31 = .ok (.iastore, 1) := by decide +kernel
theorem dX2_choose_32 : decode cX2_choose 32 = .ok (.aload_n 0, 1) := by decide +kernel
theorem dX2_choose_33 : decode cX2_choose 33 = .ok (.getfield 26, 3) := by decide +kernel
theorem dX2_choose_36 : decode cX2_choose 36 = .ok (.iload_n 3, 1) := by decide +kernel
theorem dX2_choose_37 : decode cX2_choose 37 = .ok (.iconst (-1), 1) := by decide +kernel
theorem dX2_choose_38 : decode cX2_choose 38 = .ok (.iastore, 1) := by decide +kernel
theorem dX2_choose_39 : decode cX2_choose 39 = .ok (.iconst 0, 1) := by decide +kernel
theorem dX2_choose_40 : decode cX2_choose 40 = .ok (.istore 4, 2) := by decide +kernel
theorem dX2_choose_42 : decode cX2_choose 42 = .ok (.iload 4, 2) := by decide +kernel
theorem dX2_choose_44 : decode cX2_choose 44 = .ok (.iload_n 1, 1) := by decide +kernel
theorem dX2_choose_45 : decode cX2_choose 45 = .ok (.if_icmp .ge 70, 3) := by decide +kernel
theorem dX2_choose_48 : decode cX2_choose 48 = .ok (.aload_n 0, 1) := by decide +kernel
theorem dX2_choose_49 : decode cX2_choose 49 = .ok (.getfield 23, 3) := by decide +kernel
theorem dX2_choose_52 : decode cX2_choose 52 = .ok (.iload_n 3, 1) := by decide +kernel
theorem dX2_choose_53 : decode cX2_choose 53 = .ok (.iaload, 1) := by decide +kernel
theorem dX2_choose_54 : decode cX2_choose 54 = .ok (.ifCond .eq 61, 3) := by decide +kernel
theorem dX2_choose_57 : decode cX2_choose 57 = .ok (.aload_n 0, 1) := by decide +kernel
theorem dX2_choose_58 : decode cX2_choose 58 = .ok (.iload 4, 2) := by decide +kernel
theorem dX2_choose_60 : decode cX2_choose 60 = .ok (.iload_n 3, 1) := by decide +kernel
theorem dX2_choose_61 : decode cX2_choose 61 = .ok (.invokevirtual 60, 3) := by decide +kernel
theorem dX2_choose_64 : decode cX2_choose 64 = .ok (.istore 5, 2) := by decide +kernel
theorem dX2_choose_66 : decode cX2_choose 66 = .ok (.iload 5, 2) := by decide +kernel
theorem dX2_choose_68 : decode cX2_choose 68 = .ok (.iconst (-1), 1) := by decide +kernel
theorem dX2_choose_69 : decode cX2_choose 69 = .ok (.if_icmp .eq 40, 3) := by decide +kernel
theorem dX2_choose_72 : decode cX2_choose 72 = .ok (.aload_n 0, 1) := by decide +kernel
theorem dX2_choose_73 : decode cX2_choose 73 = .ok (.getfield 23, 3) := by decide +kernel
theorem dX2_choose_76 : decode cX2_choose 76 = .ok (.iload_n 3, 1) := by decide +kernel
theorem dX2_choose_77 : decode cX2_choose 77 = .ok (.iaload, 1) := by decide +kernel
theorem dX2_choose_78 : decode cX2_choose 78 = .ok (.iconst (-1), 1) := by decide +kernel
theorem dX2_choose_79 : decode cX2_choose 79 = .ok (.if_icmp .eq 14, 3) := by decide +kernel
theorem dX2_choose_82 : decode cX2_choose 82 = .ok (.iload 5, 2) := by decide +kernel
theorem dX2_choose_84 : decode cX2_choose 84 = .ok (.aload_n 0, 1) := by decide +kernel
theorem dX2_choose_85 : decode cX2_choose 85 = .ok (.getfield 23, 3) := by decide +kernel
theorem dX2_choose_88 : decode cX2_choose 88 = .ok (.iload_n 3, 1) := by decide +kernel
theorem dX2_choose_89 : decode cX2_choose 89 = .ok (.iaload, 1) := by decide +kernel
theorem dX2_choose_90 : decode cX2_choose 90 = .ok (.if_icmp .ge 19, 3) := by decide +kernel
theorem dX2_choose_93 : decode cX2_choose 93 = .ok (.aload_n 0, 1) := by decide +kernel
theorem dX2_choose_94 : decode cX2_choose 94 = .ok (.getfield 23, 3) := by decide +kernel
theorem dX2_choose_97 : decode cX2_choose 97 = .ok (.iload_n 3, 1) := by decide +kernel
theorem dX2_choose_98 : decode cX2_choose 98 = .ok (.iload 5, 2) := by decide +kernel
theorem dX2_choose_100 : decode cX2_choose 100 = .ok (.iastore, 1) := by decide +kernel
theorem dX2_choose_101 : decode cX2_choose 101 = .ok (.aload_n 0, 1) := by decide +kernel
theorem dX2_choose_102 : decode cX2_choose 102 = .ok (.getfield 26, 3) := by decide +kernel
theorem dX2_choose_105 : decode cX2_choose 105 = .ok (.iload_n 3, 1) := by decide +kernel
theorem dX2_choose_106 : decode cX2_choose 106 = .ok (.iload 4, 2) := by decide +kernel
theorem dX2_choose_108 : decode cX2_choose 108 = .ok (.iastore, 1) := by decide +kernel
theorem dX2_choose_109 : decode cX2_choose 109 = .ok (.iinc 4 1, 3) := by decide +kernel
theorem dX2_choose_112 : decode cX2_choose 112 = .ok (.goto (-70), 3) := by decide +kernel
theorem dX2_choose_115 : decode cX2_choose 115 = .ok (.iinc 3 1, 3) := by decide +kernel
theorem dX2_choose_118 : decode cX2_choose 118 = .ok (.goto (-116), 3) := by decide +kernel
theorem dX2_choose_121 : decode cX2_choose 121 = .ok (.return_, 1) := by decide +kernel
theorem dX2_clapsFrom_0 : decode cX2_clapsFrom 0 = .ok (.iconst 0, 1) := by decide +kernel
theorem dX2_clapsFrom_1 : decode cX2_clapsFrom 1 = .ok (.istore_n 3, 1) := by decide +kernel
theorem dX2_clapsFrom_2 : decode cX2_clapsFrom 2 = .ok (.iconst 0, 1) := by decide +kernel
theorem dX2_clapsFrom_3 : decode cX2_clapsFrom 3 = .ok (.istore 4, 2) := by decide +kernel
theorem dX2_clapsFrom_5 : decode cX2_clapsFrom 5 = .ok (.iload 4, 2) := by decide +kernel
theorem dX2_clapsFrom_7 : decode cX2_clapsFrom 7 = .ok (.bipush 6, 2) := by decide +kernel
theorem dX2_clapsFrom_9 : decode cX2_clapsFrom 9 = .ok (.if_icmp .ge 65, 3) := by decide +kernel
theorem dX2_clapsFrom_12 : decode cX2_clapsFrom 12 = .ok (.iload_n 2, 1) := by decide +kernel
theorem dX2_clapsFrom_13 : decode cX2_clapsFrom 13 = .ok (.iload 4, 2) := by decide +kernel
theorem dX2_clapsFrom_15 : decode cX2_clapsFrom 15 = .ok (.iushr, 1) := by decide +kernel
theorem dX2_clapsFrom_16 : decode cX2_clapsFrom 16 = .ok (.iconst 1, 1) := by decide +kernel
theorem dX2_clapsFrom_17 : decode cX2_clapsFrom 17 = .ok (.iand, 1) := by decide +kernel
theorem dX2_clapsFrom_18 : decode cX2_clapsFrom 18 = .ok (.ifCond .eq 50, 3) := by decide +kernel
theorem dX2_clapsFrom_21 : decode cX2_clapsFrom 21 = .ok (.iload_n 2, 1) := by decide +kernel
theorem dX2_clapsFrom_22 : decode cX2_clapsFrom 22 = .ok (.aload_n 0, 1) := by decide +kernel
theorem dX2_clapsFrom_23 : decode cX2_clapsFrom 23 = .ok (.getfield 20, 3) := by decide +kernel
theorem dX2_clapsFrom_26 : decode cX2_clapsFrom 26 = .ok (.iload_n 1, 1) := by decide +kernel
theorem dX2_clapsFrom_27 : decode cX2_clapsFrom 27 = .ok (.bipush 6, 2) := by decide +kernel
theorem dX2_clapsFrom_29 : decode cX2_clapsFrom 29 = .ok (.imul, 1) := by decide +kernel
theorem dX2_clapsFrom_30 : decode cX2_clapsFrom 30 = .ok (.iload 4, 2) := by decide +kernel
theorem dX2_clapsFrom_32 : decode cX2_clapsFrom 32 = .ok (.iadd, 1) := by decide +kernel
theorem dX2_clapsFrom_33 : decode cX2_clapsFrom 33 = .ok (.iaload, 1) := by decide +kernel
theorem dX2_clapsFrom_34 : decode cX2_clapsFrom 34 = .ok (.iand, 1) := by decide +kernel
theorem dX2_clapsFrom_35 : decode cX2_clapsFrom 35 = .ok (.istore 5, 2) := by decide +kernel
theorem dX2_clapsFrom_37 : decode cX2_clapsFrom 37 = .ok (.iload 5, 2) := by decide +kernel
theorem dX2_clapsFrom_39 : decode cX2_clapsFrom 39 = .ok (.iload_n 2, 1) := by decide +kernel
theorem dX2_clapsFrom_40 : decode cX2_clapsFrom 40 = .ok (.if_icmp .eq 14, 3) := by decide +kernel
theorem dX2_clapsFrom_43 : decode cX2_clapsFrom 43 = .ok (.aload_n 0, 1) := by decide +kernel
theorem dX2_clapsFrom_44 : decode cX2_clapsFrom 44 = .ok (.getfield 23, 3) := by decide +kernel
theorem dX2_clapsFrom_47 : decode cX2_clapsFrom 47 = .ok (.iload 5, 2) := by decide +kernel
theorem dX2_clapsFrom_49 : decode cX2_clapsFrom 49 = .ok (.iaload, 1) := by decide +kernel
theorem dX2_clapsFrom_50 : decode cX2_clapsFrom 50 = .ok (.iconst (-1), 1) := by decide +kernel
theorem dX2_clapsFrom_51 : decode cX2_clapsFrom 51 = .ok (.if_icmp .ne 5, 3) := by decide +kernel
theorem dX2_clapsFrom_54 : decode cX2_clapsFrom 54 = .ok (.iconst (-1), 1) := by decide +kernel
theorem dX2_clapsFrom_55 : decode cX2_clapsFrom 55 = .ok (.ireturn, 1) := by decide +kernel
theorem dX2_clapsFrom_56 : decode cX2_clapsFrom 56 = .ok (.iload_n 3, 1) := by decide +kernel
theorem dX2_clapsFrom_57 : decode cX2_clapsFrom 57 = .ok (.aload_n 0, 1) := by decide +kernel
theorem dX2_clapsFrom_58 : decode cX2_clapsFrom 58 = .ok (.getfield 23, 3) := by decide +kernel
theorem dX2_clapsFrom_61 : decode cX2_clapsFrom 61 = .ok (.iload 5, 2) := by decide +kernel
theorem dX2_clapsFrom_63 : decode cX2_clapsFrom 63 = .ok (.iaload, 1) := by decide +kernel
theorem dX2_clapsFrom_64 : decode cX2_clapsFrom 64 = .ok (.invokestatic 63, 3) := by decide +kernel
theorem dX2_clapsFrom_67 : decode cX2_clapsFrom 67 = .ok (.istore_n 3, 1) := by decide +kernel
theorem dX2_clapsFrom_68 : decode cX2_clapsFrom 68 = .ok (.iinc 4 1, 3) := by decide +kernel
theorem dX2_clapsFrom_71 : decode cX2_clapsFrom 71 = .ok (.goto (-66), 3) := by decide +kernel
theorem dX2_clapsFrom_74 : decode cX2_clapsFrom 74 = .ok (.iload_n 3, 1) := by decide +kernel
theorem dX2_clapsFrom_75 : decode cX2_clapsFrom 75 = .ok (.iconst 1, 1) := by decide +kernel
theorem dX2_clapsFrom_76 : decode cX2_clapsFrom 76 = .ok (.iadd, 1) := by decide +kernel
theorem dX2_clapsFrom_77 : decode cX2_clapsFrom 77 = .ok (.ireturn, 1) := by decide +kernel
theorem dX3_init_0 : decode cX3_init 0 = .ok (.aload_n 0, 1) := by decide +kernel
theorem dX3_init_1 : decode cX3_init 1 = .ok (.invokespecial 3, 3) := by decide +kernel
theorem dX3_init_4 : decode cX3_init 4 = .ok (.aload_n 0, 1) := by decide +kernel
theorem dX3_init_5 : decode cX3_init 5 = .ok (.bipush 16, 2) := by decide +kernel
theorem dX3_init_7 : decode cX3_init 7 = .ok (.newarray .int, 2) := by decide +kernel
theorem dX3_init_9 : decode cX3_init 9 = .ok (.putfield 9, 3) := by decide +kernel
theorem dX3_init_12 : decode cX3_init 12 = .ok (.aload_n 0, 1) := by decide +kernel
theorem dX3_init_13 : decode cX3_init 13 = .ok (.bipush 16, 2) := by decide +kernel
theorem dX3_init_15 : decode cX3_init 15 = .ok (.newarray .int, 2) := by decide +kernel
theorem dX3_init_17 : decode cX3_init 17 = .ok (.putfield 15, 3) := by decide +kernel
theorem dX3_init_20 : decode cX3_init 20 = .ok (.aload_n 0, 1) := by decide +kernel
theorem dX3_init_21 : decode cX3_init 21 = .ok (.bipush 16, 2) := by decide +kernel
theorem dX3_init_23 : decode cX3_init 23 = .ok (.newarray .int, 2) := by decide +kernel
theorem dX3_init_25 : decode cX3_init 25 = .ok (.putfield 18, 3) := by decide +kernel
theorem dX3_init_28 : decode cX3_init 28 = .ok (.aload_n 0, 1) := by decide +kernel
theorem dX3_init_29 : decode cX3_init 29 = .ok (.iconst 4, 1) := by decide +kernel
theorem dX3_init_30 : decode cX3_init 30 = .ok (.newarray .int, 2) := by decide +kernel
theorem dX3_init_32 : decode cX3_init 32 = .ok (.putfield 23, 3) := by decide +kernel
theorem dX3_init_35 : decode cX3_init 35 = .ok (.aload_n 0, 1) := by decide +kernel
theorem dX3_init_36 : decode cX3_init 36 = .ok (.bipush 16, 2) := by decide +kernel
theorem dX3_init_38 : decode cX3_init 38 = .ok (.newarray .int, 2) := by decide +kernel
theorem dX3_init_40 : decode cX3_init 40 = .ok (.putfield 26, 3) := by decide +kernel
theorem dX3_init_43 : decode cX3_init 43 = .ok (.return_, 1) := by decide +kernel
theorem dX3_gather_0 : decode cX3_gather 0 = .ok (.aload_n 0, 1) := by decide +kernel
theorem dX3_gather_1 : decode cX3_gather 1 = .ok (.iconst 0, 1) := by decide +kernel
theorem dX3_gather_2 : decode cX3_gather 2 = .ok (.putfield 29, 3) := by decide +kernel
theorem dX3_gather_5 : decode cX3_gather 5 = .ok (.iload_n 3, 1) := by decide +kernel
theorem dX3_gather_6 : decode cX3_gather 6 = .ok (.bipush 8, 2) := by decide +kernel
theorem dX3_gather_8 : decode cX3_gather 8 = .ok (.iushr, 1) := by decide +kernel
theorem dX3_gather_9 : decode cX3_gather 9 = .ok (.istore 4, 2) := by decide +kernel
theorem dX3_gather_11 : decode cX3_gather 11 = .ok (.aload_n 0, 1) := by decide +kernel
theorem dX3_gather_12 : decode cX3_gather 12 = .ok (.aload_n 1, 1) := by decide +kernel
theorem dX3_gather_13 : decode cX3_gather 13 = .ok (.aload_n 2, 1) := by decide +kernel
theorem dX3_gather_14 : decode cX3_gather 14 = .ok (.getfield 33, 3) := by decide +kernel
theorem dX3_gather_17 : decode cX3_gather 17 = .ok (.iload 4, 2) := by decide +kernel
theorem dX3_gather_19 : decode cX3_gather 19 = .ok (.invokevirtual 38, 3) := by decide +kernel
theorem dX3_gather_22 : decode cX3_gather 22 = .ok (.iconst 0, 1) := by decide +kernel
theorem dX3_gather_23 : decode cX3_gather 23 = .ok (.istore 5, 2) := by decide +kernel
theorem dX3_gather_25 : decode cX3_gather 25 = .ok (.iload 5, 2) := by decide +kernel
theorem dX3_gather_27 : decode cX3_gather 27 = .ok (.iconst 4, 1) := by decide +kernel
theorem dX3_gather_28 : decode cX3_gather 28 = .ok (.if_icmp .ge 74, 3) := by decide +kernel
theorem dX3_gather_31 : decode cX3_gather 31 = .ok (.aload_n 0, 1) := by decide +kernel
theorem dX3_gather_32 : decode cX3_gather 32 = .ok (.getfield 23, 3) := by decide +kernel
theorem dX3_gather_35 : decode cX3_gather 35 = .ok (.iload 5, 2) := by decide +kernel
theorem dX3_gather_37 : decode cX3_gather 37 = .ok (.iaload, 1) := by decide +kernel
theorem dX3_gather_38 : decode cX3_gather 38 = .ok (.istore 6, 2) := by decide +kernel
theorem dX3_gather_40 : decode cX3_gather 40 = .ok (.iload 6, 2) := by decide +kernel
theorem dX3_gather_42 : decode cX3_gather 42 = .ok (.iconst (-1), 1) := by decide +kernel
theorem dX3_gather_43 : decode cX3_gather 43 = .ok (.if_icmp .eq 53, 3) := by decide +kernel
theorem dX3_gather_46 : decode cX3_gather 46 = .ok (.aload_n 0, 1) := by decide +kernel
theorem dX3_gather_47 : decode cX3_gather 47 = .ok (.iload 6, 2) := by decide +kernel
theorem dX3_gather_49 : decode cX3_gather 49 = .ok (.iconst 2, 1) := by decide +kernel
theorem dX3_gather_50 : decode cX3_gather 50 = .ok (.aload_n 1, 1) := by decide +kernel
theorem dX3_gather_51 : decode cX3_gather 51 = .ok (.getfield 42, 3) := by decide +kernel
theorem dX3_gather_54 : decode cX3_gather 54 = .ok (.iload 6, 2) := by decide +kernel
theorem dX3_gather_56 : decode cX3_gather 56 = .ok (.iaload, 1) := by decide +kernel
theorem dX3_gather_57 : decode cX3_gather 57 = .ok (.imul, 1) := by decide +kernel
theorem dX3_gather_58 : decode cX3_gather 58 = .ok (.invokestatic 45, 3) := by decide +kernel
theorem dX3_gather_61 : decode cX3_gather 61 = .ok (.aload_n 1, 1) := by decide +kernel
theorem dX3_gather_62 : decode cX3_gather 62 = .ok (.aload_n 2, 1) := by decide +kernel
theorem dX3_gather_63 : decode cX3_gather 63 = .ok (.iload 6, 2) := by decide +kernel
theorem dX3_gather_65 : decode cX3_gather 65 = .ok (.invokevirtual 49, 3) := by decide +kernel
theorem dX3_gather_68 : decode cX3_gather 68 = .ok (.invokevirtual 53, 3) := by decide +kernel
theorem dX3_gather_71 : decode cX3_gather 71 = .ok (.iconst 0, 1) := by decide +kernel
theorem dX3_gather_72 : decode cX3_gather 72 = .ok (.istore 7, 2) := by decide +kernel
theorem dX3_gather_74 : decode cX3_gather 74 = .ok (.iload 7, 2) := by decide +kernel
theorem dX3_gather_76 : decode cX3_gather 76 = .ok (.iload 5, 2) := by decide +kernel
theorem dX3_gather_78 : decode cX3_gather 78 = .ok (.if_icmp .ge 18, 3) := by decide +kernel
theorem dX3_gather_81 : decode cX3_gather 81 = .ok (.aload_n 0, 1) := by decide +kernel
theorem dX3_gather_82 : decode cX3_gather 82 = .ok (.aload_n 1, 1) := by decide +kernel
theorem dX3_gather_83 : decode cX3_gather 83 = .ok (.iload 7, 2) := by decide +kernel
theorem dX3_gather_85 : decode cX3_gather 85 = .ok (.iload 5, 2) := by decide +kernel
theorem dX3_gather_87 : decode cX3_gather 87 = .ok (.invokevirtual 57, 3) := by decide +kernel
theorem dX3_gather_90 : decode cX3_gather 90 = .ok (.iinc 7 1, 3) := by decide +kernel
theorem dX3_gather_93 : decode cX3_gather 93 = .ok (.goto (-19), 3) := by decide +kernel
theorem dX3_gather_96 : decode cX3_gather 96 = .ok (.iinc 5 1, 3) := by decide +kernel
theorem dX3_gather_99 : decode cX3_gather 99 = .ok (.goto (-74), 3) := by decide +kernel
theorem dX3_gather_102 : decode cX3_gather 102 = .ok (.iconst 0, 1) := by decide +kernel
theorem dX3_gather_103 : decode cX3_gather 103 = .ok (.istore 5, 2) := by decide +kernel
theorem dX3_gather_105 : decode cX3_gather 105 = .ok (.iload 5, 2) := by decide +kernel
theorem dX3_gather_107 : decode cX3_gather 107 = .ok (.aload_n 2, 1) := by decide +kernel
theorem dX3_gather_108 : decode cX3_gather 108 = .ok (.getfield 60, 3) := by decide +kernel
theorem dX3_gather_111 : decode cX3_gather 111 = .ok (.if_icmp .ge 80, 3) := by decide +kernel
theorem dX3_gather_114 : decode cX3_gather 114 = .ok (.aload_n 1, 1) := by decide +kernel
theorem dX3_gather_115 : decode cX3_gather 115 = .ok (.getfield 63, 3) := by decide +kernel
theorem dX3_gather_118 : decode cX3_gather 118 = .ok (.iload 5, 2) := by decide +kernel
theorem dX3_gather_120 : decode cX3_gather 120 = .ok (.iaload, 1) := by decide +kernel
theorem dX3_gather_121 : decode cX3_gather 121 = .ok (.iload 4, 2) := by decide +kernel
theorem dX3_gather_123 : decode cX3_gather 123 = .ok (.iconst (-1), 1) := by decide +kernel
theorem dX3_gather_124 : decode cX3_gather 124 = .ok (.ixor, 1) := by decide +kernel
theorem dX3_gather_125 : decode cX3_gather 125 = .ok (.iand, 1) := by decide +kernel
theorem dX3_gather_126 : decode cX3_gather 126 = .ok (.ifCond .eq 7, 3) := by decide +kernel
theorem dX3_gather_129 : decode cX3_gather 129 = .ok (.iconst 1, 1) := by decide +kernel
theorem dX3_gather_130 : decode cX3_gather 130 = .ok (.goto 4, 3) := by decide +kernel
theorem dX3_gather_133 : decode cX3_gather 133 = .ok (.iconst 0, 1) := by decide +kernel
theorem dX3_gather_134 : decode cX3_gather 134 = .ok (.istore 6, 2) := by decide +kernel
theorem dX3_gather_136 : decode cX3_gather 136 = .ok (.aload_n 1, 1) := by decide +kernel
theorem dX3_gather_137 : decode cX3_gather 137 = .ok (.getfield 66, 3) := by decide +kernel
theorem dX3_gather_140 : decode cX3_gather 140 = .ok (.iload 5, 2) := by decide +kernel
theorem dX3_gather_142 : decode cX3_gather 142 = .ok (.iaload, 1) := by decide +kernel
theorem dX3_gather_143 : decode cX3_gather 143 = .ok (.ifCond .eq 42, 3) := by decide +kernel
theorem dX3_gather_146 : decode cX3_gather 146 = .ok (.iload_n 3, 1) := by decide +kernel
theorem dX3_gather_147 : decode cX3_gather 147 = .ok (.iload 5, 2) := by decide +kernel
theorem dX3_gather_149 : decode cX3_gather 149 = .ok (.iushr, 1) := by decide +kernel
theorem dX3_gather_150 : decode cX3_gather 150 = .ok (.iconst 1, 1) := by decide +kernel
theorem dX3_gather_151 : decode cX3_gather 151 = .ok (.iand, 1) := by decide +kernel
theorem dX3_gather_152 : decode cX3_gather 152 = .ok (.ifCond .ne 33, 3) := by decide +kernel
theorem dX3_gather_155 : decode cX3_gather 155 = .ok (.iload 6, 2) := by decide +kernel
theorem dX3_gather_157 : decode cX3_gather 157 = .ok (.ifCond .ne 28, 3) := by decide +kernel
theorem dX3_gather_160 : decode cX3_gather 160 = .ok (.aload_n 0, 1) := by decide +kernel
theorem dX3_gather_161 : decode cX3_gather 161 = .ok (.bipush 8, 2) := by decide +kernel
theorem dX3_gather_163 : decode cX3_gather 163 = .ok (.iload 5, 2) := by decide +kernel
theorem dX3_gather_165 : decode cX3_gather 165 = .ok (.iadd, 1) := by decide +kernel
theorem dX3_gather_166 : decode cX3_gather 166 = .ok (.iconst 4, 1) := by decide +kernel
theorem dX3_gather_167 : decode cX3_gather 167 = .ok (.aload_n 1, 1) := by decide +kernel
theorem dX3_gather_168 : decode cX3_gather 168 = .ok (.getfield 66, 3) := by decide +kernel
theorem dX3_gather_171 : decode cX3_gather 171 = .ok (.iload 5, 2) := by decide +kernel
theorem dX3_gather_173 : decode cX3_gather 173 = .ok (.iaload, 1) := by decide +kernel
theorem dX3_gather_174 : decode cX3_gather 174 = .ok (.imul, 1) := by decide +kernel
theorem dX3_gather_175 : decode cX3_gather 175 = .ok (.aload_n 1, 1) := by decide +kernel
theorem dX3_gather_176 : decode cX3_gather 176 = .ok (.aload_n 2, 1) := by decide +kernel
theorem dX3_gather_177 : decode cX3_gather 177 = .ok (.iload 5, 2) := by decide +kernel
theorem dX3_gather_179 : decode cX3_gather 179 = .ok (.invokevirtual 69, 3) := by decide +kernel
theorem dX3_gather_182 : decode cX3_gather 182 = .ok (.invokevirtual 53, 3) := by decide +kernel
theorem dX3_gather_185 : decode cX3_gather 185 = .ok (.iinc 5 1, 3) := by decide +kernel
theorem dX3_gather_188 : decode cX3_gather 188 = .ok (.goto (-83), 3) := by decide +kernel
theorem dX3_gather_191 : decode cX3_gather 191 = .ok (.return_, 1) := by decide +kernel
theorem dX3_findNearest_0 : decode cX3_findNearest 0 = .ok (.iconst 0, 1) := by decide +kernel
theorem dX3_findNearest_1 : decode cX3_findNearest 1 = .ok (.istore 4, 2) := by decide +kernel
theorem dX3_findNearest_3 : decode cX3_findNearest 3 = .ok (.iload 4, 2) := by decide +kernel
theorem dX3_findNearest_5 : decode cX3_findNearest 5 = .ok (.iconst 4, 1) := by decide +kernel
theorem dX3_findNearest_6 : decode cX3_findNearest 6 = .ok (.if_icmp .ge 17, 3) := by decide +kernel
theorem dX3_findNearest_9 : decode cX3_findNearest 9 = .ok (.aload_n 0, 1) := by decide +kernel
theorem dX3_findNearest_10 : decode cX3_findNearest 10 = .ok (.getfield 23, 3) := by decide +kernel
theorem dX3_findNearest_13 : decode cX3_findNearest 13 = .ok (.iload 4, 2) := by decide +kernel
theorem dX3_findNearest_15 : decode cX3_findNearest 15 = .ok (.iconst (-1), 1) := by decide +kernel
theorem dX3_findNearest_16 : decode cX3_findNearest 16 = .ok (.iastore, 1) := by decide +kernel
theorem dX3_findNearest_17 : decode cX3_findNearest 17 = .ok (.iinc 4 1, 3) := by decide +kernel
theorem dX3_findNearest_20 : decode cX3_findNearest 20 = .ok (.goto (-17), 3) := by decide +kernel
theorem dX3_findNearest_23 : decode cX3_findNearest 23 = .ok (.iconst 0, 1) := by decide +kernel
theorem dX3_findNearest_24 : decode cX3_findNearest 24 = .ok (.istore 4, 2) := by decide +kernel
theorem dX3_findNearest_26 : decode cX3_findNearest 26 = .ok (.iload 4, 2) := by decide +kernel
theorem dX3_findNearest_28 : decode cX3_findNearest 28 = .ok (.iload_n 2, 1) := by decide +kernel
theorem dX3_findNearest_29 : decode cX3_findNearest 29 = .ok (.if_icmp .ge 74, 3) := by decide +kernel
theorem dX3_findNearest_32 : decode cX3_findNearest 32 = .ok (.aload_n 1, 1) := by decide +kernel
theorem dX3_findNearest_33 : decode cX3_findNearest 33 = .ok (.getfield 72, 3) := by decide +kernel
theorem dX3_findNearest_36 : decode cX3_findNearest 36 = .ok (.iload 4, 2) := by decide +kernel
theorem dX3_findNearest_38 : decode cX3_findNearest 38 = .ok (.iaload, 1) := by decide +kernel
theorem dX3_findNearest_39 : decode cX3_findNearest 39 = .ok (.istore 5, 2) := by decide +kernel
theorem dX3_findNearest_41 : decode cX3_findNearest 41 = .ok (.iload 5, 2) := by decide +kernel
theorem dX3_findNearest_43 : decode cX3_findNearest 43 = .ok (.iconst (-1), 1) := by decide +kernel
theorem dX3_findNearest_44 : decode cX3_findNearest 44 = .ok (.if_icmp .eq 53, 3) := by decide +kernel
theorem dX3_findNearest_47 : decode cX3_findNearest 47 = .ok (.iload_n 3, 1) := by decide +kernel
theorem dX3_findNearest_48 : decode cX3_findNearest 48 = .ok (.iload 4, 2) := by decide +kernel
theorem dX3_findNearest_50 : decode cX3_findNearest 50 = .ok (.iushr, 1) := by decide +kernel
theorem dX3_findNearest_51 : decode cX3_findNearest 51 = .ok (.iconst 1, 1) := by decide +kernel
theorem dX3_findNearest_52 : decode cX3_findNearest 52 = .ok (.iand, 1) := by decide +kernel
theorem dX3_findNearest_53 : decode cX3_findNearest 53 = .ok (.ifCond .ne 44, 3) := by decide +kernel
theorem dX3_findNearest_56 : decode cX3_findNearest 56 = .ok (.aload_n 0, 1) := by decide +kernel
theorem dX3_findNearest_57 : decode cX3_findNearest 57 = .ok (.getfield 23, 3) := by decide +kernel
theorem dX3_findNearest_60 : decode cX3_findNearest 60 = .ok (.iload 5, 2) := by decide +kernel
theorem dX3_findNearest_62 : decode cX3_findNearest 62 = .ok (.iaload, 1) := by decide +kernel
theorem dX3_findNearest_63 : decode cX3_findNearest 63 = .ok (.istore 6, 2) := by decide +kernel
theorem dX3_findNearest_65 : decode cX3_findNearest 65 = .ok (.iload 6, 2) := by decide +kernel
theorem dX3_findNearest_67 : decode cX3_findNearest 67 = .ok (.iconst (-1), 1) := by decide +kernel
theorem dX3_findNearest_68 : decode cX3_findNearest 68 = .ok (.if_icmp .eq 20, 3) := by decide +kernel
theorem dX3_findNearest_71 : decode cX3_findNearest 71 = .ok (.aload_n 1, 1) := by decide +kernel
theorem dX3_findNearest_72 : decode cX3_findNearest 72 = .ok (.getfield 42, 3) := by decide +kernel
theorem dX3_findNearest_75 : decode cX3_findNearest 75 = .ok (.iload 4, 2) := by decide +kernel
theorem dX3_findNearest_77 : decode cX3_findNearest 77 = .ok (.iaload, 1) := by decide +kernel
theorem dX3_findNearest_78 : decode cX3_findNearest 78 = .ok (.aload_n 1, 1) := by decide +kernel
theorem dX3_findNearest_79 : decode cX3_findNearest 79 = .ok (.getfield 42, 3) := by decide +kernel
theorem dX3_findNearest_82 : decode cX3_findNearest 82 = .ok (.iload 6, 2) := by decide +kernel
theorem dX3_findNearest_84 : decode cX3_findNearest 84 = .ok (.iaload, 1) := by decide +kernel
theorem dX3_findNearest_85 : decode cX3_findNearest 85 = .ok (.if_icmp .ge 12, 3) := by decide +kernel
theorem dX3_findNearest_88 : decode cX3_findNearest 88 = .ok (.aload_n 0, 1) := by decide +kernel
theorem dX3_findNearest_89 : decode cX3_findNearest 89 = .ok (.getfield 23, 3) := by decide +kernel
theorem dX3_findNearest_92 : decode cX3_findNearest 92 = .ok (.iload 5, 2) := by decide +kernel
theorem dX3_findNearest_94 : decode cX3_findNearest 94 = .ok (.iload 4, 2) := by decide +kernel
theorem dX3_findNearest_96 : decode cX3_findNearest 96 = .ok (.iastore, 1) := by decide +kernel
theorem dX3_findNearest_97 : decode cX3_findNearest 97 = .ok (.iinc 4 1, 3) := by decide +kernel
theorem dX3_findNearest_100 : decode cX3_findNearest 100 = .ok (.goto (-74), 3) := by decide +kernel
theorem dX3_findNearest_103 : decode cX3_findNearest 103 = .ok (.return_, 1) := by decide +kernel
theorem dX3_addSecond_0 : decode cX3_addSecond 0 = .ok (.aload_n 0, 1) := by decide +kernel
theorem dX3_addSecond_1 : decode cX3_addSecond 1 = .ok (.getfield 23, 3) := by decide +kernel
theorem dX3_addSecond_4 : decode cX3_addSecond 4 = .ok (.iload_n 2, 1) := by decide +kernel
theorem dX3_addSecond_5 : decode cX3_addSecond 5 = .ok (.iaload, 1) := by decide +kernel
theorem dX3_addSecond_6 : decode cX3_addSecond 6 = .ok (.istore 4, 2) := by decide +kernel
theorem dX3_addSecond_8 : decode cX3_addSecond 8 = .ok (.aload_n 0, 1) := by decide +kernel
theorem dX3_addSecond_9 : decode cX3_addSecond 9 = .ok (.getfield 23, 3) := by decide +kernel
theorem dX3_addSecond_12 : decode cX3_addSecond 12 = .ok (.iload_n 3, 1) := by decide +kernel
theorem dX3_addSecond_13 : decode cX3_addSecond 13 = .ok (.iaload, 1) := by decide +kernel
theorem dX3_addSecond_14 : decode cX3_addSecond 14 = .ok (.istore 5, 2) := by decide +kernel
theorem dX3_addSecond_16 : decode cX3_addSecond 16 = .ok (.iload 4, 2) := by decide +kernel
theorem dX3_addSecond_18 : decode cX3_addSecond 18 = .ok (.iconst (-1), 1) := by decide +kernel
theorem dX3_addSecond_19 : decode cX3_addSecond 19 = .ok (.if_icmp .eq 9, 3) := by decide +kernel
theorem dX3_addSecond_22 : decode cX3_addSecond 22 = .ok (.iload 5, 2) := by decide +kernel
theorem dX3_addSecond_24 : decode cX3_addSecond 24 = .ok (.iconst (-1), 1) := by decide +kernel
theorem dX3_addSecond_25 : decode cX3_addSecond 25 = .ok (.if_icmp .ne 4, 3) := by decide +kernel
theorem dX3_addSecond_28 : decode cX3_addSecond 28 = .ok (.return_, 1) := by decide +kernel
theorem dX3_addSecond_29 : decode cX3_addSecond 29 = .ok (.iconst 2, 1) := by decide +kernel
theorem dX3_addSecond_30 : decode cX3_addSecond 30 = .ok (.aload_n 1, 1) := by decide +kernel
theorem dX3_addSecond_31 : decode cX3_addSecond 31 = .ok (.getfield 42, 3) := by decide +kernel
theorem dX3_addSecond_34 : decode cX3_addSecond 34 = .ok (.iload 4, 2) := by decide +kernel
theorem dX3_addSecond_36 : decode cX3_addSecond 36 = .ok (.iaload, 1) := by decide +kernel
theorem dX3_addSecond_37 : decode cX3_addSecond 37 = .ok (.imul, 1) := by decide +kernel
theorem dX3_addSecond_38 : decode cX3_addSecond 38 = .ok (.istore 6, 2) := by decide +kernel
theorem dX3_addSecond_40 : decode cX3_addSecond 40 = .ok (.iconst 2, 1) := by decide +kernel
theorem dX3_addSecond_41 : decode cX3_addSecond 41 = .ok (.aload_n 1, 1) := by decide +kernel
theorem dX3_addSecond_42 : decode cX3_addSecond 42 = .ok (.getfield 42, 3) := by decide +kernel
theorem dX3_addSecond_45 : decode cX3_addSecond 45 = .ok (.iload 5, 2) := by decide +kernel
theorem dX3_addSecond_47 : decode cX3_addSecond 47 = .ok (.iaload, 1) := by decide +kernel
theorem dX3_addSecond_48 : decode cX3_addSecond 48 = .ok (.imul, 1) := by decide +kernel
theorem dX3_addSecond_49 : decode cX3_addSecond 49 = .ok (.istore 7, 2) := by decide +kernel
theorem dX3_addSecond_51 : decode cX3_addSecond 51 = .ok (.iload_n 3, 1) := by decide +kernel
theorem dX3_addSecond_52 : decode cX3_addSecond 52 = .ok (.iconst 1, 1) := by decide +kernel
theorem dX3_addSecond_53 : decode cX3_addSecond 53 = .ok (.if_icmp .eq 8, 3) := by decide +kernel
theorem dX3_addSecond_56 : decode cX3_addSecond 56 = .ok (.iload_n 2, 1) := by decide +kernel
theorem dX3_addSecond_57 : decode cX3_addSecond 57 = .ok (.iconst 2, 1) := by decide +kernel
theorem dX3_addSecond_58 : decode cX3_addSecond 58 = .ok (.if_icmp .ne 7, 3) := by decide +kernel
theorem dX3_addSecond_61 : decode cX3_addSecond 61 = .ok (.iconst 1, 1) := by decide +kernel
theorem dX3_addSecond_62 : decode cX3_addSecond 62 = .ok (.goto 4, 3) := by decide +kernel
theorem dX3_addSecond_65 : decode cX3_addSecond 65 = .ok (.iconst 0, 1) := by decide +kernel
theorem dX3_addSecond_66 : decode cX3_addSecond 66 = .ok (.istore 8, 2) := by decide +kernel
theorem dX3_addSecond_68 : decode cX3_addSecond 68 = .ok (.iload 8, 2) := by decide +kernel
theorem dX3_addSecond_70 : decode cX3_addSecond 70 = .ok (.ifCond .eq 14, 3) := by decide +kernel
theorem dX3_addSecond_73 : decode cX3_addSecond 73 = .ok (.iload 6, 2) := by decide +kernel
theorem dX3_addSecond_75 : decode cX3_addSecond 75 = .ok (.iload 7, 2) := by decide +kernel
theorem dX3_addSecond_77 : decode cX3_addSecond 77 = .ok (.iadd, 1) := by decide +kernel
theorem dX3_addSecond_78 : decode cX3_addSecond 78 = .ok (.invokestatic 45, 3) := by decide +kernel
theorem dX3_addSecond_81 : decode cX3_addSecond 81 = .ok (.goto 14, 3) := by decide +kernel
theorem dX3_addSecond_84 : decode cX3_addSecond 84 = .ok (.iload 6, 2) := by decide +kernel
theorem dX3_addSecond_86 : decode cX3_addSecond 86 = .ok (.invokestatic 45, 3) := by decide +kernel
theorem dX3_addSecond_89 : decode cX3_addSecond 89 = .ok (.iload 7, 2) := by decide +kernel
theorem dX3_addSecond_91 : decode cX3_addSecond 91 = .ok (.invokestatic 45, 3) := by decide +kernel
theorem dX3_addSecond_94 : decode cX3_addSecond 94 = .ok (.iadd, 1) := by decide +kernel
theorem dX3_addSecond_95 : decode cX3_addSecond 95 = .ok (.istore 9, 2) := by decide +kernel
theorem dX3_addSecond_97 : decode cX3_addSecond 97 = .ok (.bipush 16, 2) := by decide +kernel
theorem dX3_addSecond_99 : decode cX3_addSecond 99 = .ok (.bipush 8, 2) := by decide +kernel
theorem dX3_addSecond_101 : decode cX3_addSecond 101 = .ok (.iload 4, 2) := by decide +kernel
theorem dX3_addSecond_103 : decode cX3_addSecond 103 = .ok (.iload 5, 2) := by decide +kernel
theorem dX3_addSecond_105 : decode cX3_addSecond 105 = .ok (.invokestatic 75, 3) := by decide +kernel
theorem dX3_addSecond_108 : decode cX3_addSecond 108 = .ok (.imul, 1) := by decide +kernel
theorem dX3_addSecond_109 : decode cX3_addSecond 109 = .ok (.iadd, 1) := by decide +kernel
theorem dX3_addSecond_110 : decode cX3_addSecond 110 = .ok (.iload 4, 2) := by decide +kernel
theorem dX3_addSecond_112 : decode cX3_addSecond 112 = .ok (.iload 5, 2) := by decide +kernel
theorem dX3_addSecond_114 : decode cX3_addSecond 114 = .ok (.invokestatic 81, 3) := by decide +kernel
theorem dX3_addSecond_117 : decode cX3_addSecond 117 = .ok (.iadd, 1) := by decide +kernel
theorem dX3_addSecond_118 : decode cX3_addSecond 118 = .ok (.istore 10, 2) := by decide +kernel
theorem dX3_addSecond_120 : decode cX3_addSecond 120 = .ok (.aload_n 0, 1) := by decide +kernel
theorem dX3_addSecond_121 : decode cX3_addSecond 121 = .ok (.iload 10, 2) := by decide +kernel
theorem dX3_addSecond_123 : decode cX3_addSecond 123 = .ok (.iload 9, 2) := by decide +kernel
theorem dX3_addSecond_125 : decode cX3_addSecond 125 = .ok (.aload_n 1, 1) := by decide +kernel
theorem dX3_addSecond_126 : decode cX3_addSecond 126 = .ok (.getfield 84, 3) := by decide +kernel
theorem dX3_addSecond_129 : decode cX3_addSecond 129 = .ok (.iload 4, 2) := by decide +kernel
theorem dX3_addSecond_131 : decode cX3_addSecond 131 = .ok (.iaload, 1) := by decide +kernel
theorem dX3_addSecond_132 : decode cX3_addSecond 132 = .ok (.aload_n 1, 1) := by decide +kernel
theorem dX3_addSecond_133 : decode cX3_addSecond 133 = .ok (.getfield 84, 3) := by decide +kernel
theorem dX3_addSecond_136 : decode cX3_addSecond 136 = .ok (.iload 5, 2) := by decide +kernel
theorem dX3_addSecond_138 : decode cX3_addSecond 138 = .ok (.iaload, 1) := by decide +kernel
theorem dX3_addSecond_139 : decode cX3_addSecond 139 = .ok (.imul, 1) := by decide +kernel
theorem dX3_addSecond_140 : decode cX3_addSecond 140 = .ok (.sipush 1000, 3) := by decide +kernel
theorem dX3_addSecond_143 : decode cX3_addSecond 143 = .ok (.idiv, 1) := by decide +kernel
theorem dX3_addSecond_144 : decode cX3_addSecond 144 = .ok (.invokevirtual 53, 3) := by decide +kernel
theorem dX3_addSecond_147 : decode cX3_addSecond 147 = .ok (.return_, 1) := by decide +kernel
theorem dX3_add_0 : decode cX3_add 0 = .ok (.aload_n 0, 1) := by decide +kernel
theorem dX3_add_1 : decode cX3_add 1 = .ok (.getfield 29, 3) := by decide +kernel
theorem dX3_add_4 : decode cX3_add 4 = .ok (.bipush 16, 2) := by decide +kernel
theorem dX3_add_6 : decode cX3_add 6 = .ok (.if_icmp .lt 4, 3) := by decide +kernel
theorem dX3_add_9 : decode cX3_add 9 = .ok (.return_, 1) := by decide +kernel
theorem dX3_add_10 : decode cX3_add 10 = .ok (.aload_n 0, 1) := by decide +kernel
theorem dX3_add_11 : decode cX3_add 11 = .ok (.getfield 9, 3) := by decide +kernel
theorem dX3_add_14 : decode cX3_add 14 = .ok (.aload_n 0, 1) := by decide +kernel
theorem dX3_add_15 : decode cX3_add 15 = .ok (.getfield 29, 3) := by decide +kernel
theorem dX3_add_18 : decode cX3_add 18 = .ok (.iload_n 1, 1) := by decide +kernel
theorem dX3_add_19 : decode cX3_add 19 = .ok (.iastore, 1) := by decide +kernel
theorem dX3_add_20 : decode cX3_add 20 = .ok (.aload_n 0, 1) := by decide +kernel
theorem dX3_add_21 : decode cX3_add 21 = .ok (.getfield 15, 3) := by decide +kernel
theorem dX3_add_24 : decode cX3_add 24 = .ok (.aload_n 0, 1) := by decide +kernel
theorem dX3_add_25 : decode cX3_add 25 = .ok (.getfield 29, 3) := by decide +kernel
theorem dX3_add_28 : decode cX3_add 28 = .ok (.iload_n 2, 1) := by decide +kernel
theorem dX3_add_29 : decode cX3_add 29 = .ok (.iastore, 1) := by decide +kernel
theorem dX3_add_30 : decode cX3_add 30 = .ok (.aload_n 0, 1) := by decide +kernel
theorem dX3_add_31 : decode cX3_add 31 = .ok (.getfield 18, 3) := by decide +kernel
theorem dX3_add_34 : decode cX3_add 34 = .ok (.aload_n 0, 1) := by decide +kernel
theorem dX3_add_35 : decode cX3_add 35 = .ok (.getfield 29, 3) := by decide +kernel
theorem dX3_add_38 : decode cX3_add 38 = .ok (.iload_n 3, 1) := by decide +kernel
theorem dX3_add_39 : decode cX3_add 39 = .ok (.iastore, 1) := by decide +kernel
theorem dX3_add_40 : decode cX3_add 40 = .ok (.aload_n 0, 1) := by decide +kernel
theorem dX3_add_41 : decode cX3_add 41 = .ok (.dup, 1) := by decide +kernel
theorem dX3_add_42 : decode cX3_add 42 = .ok (.getfield 29, 3) := by decide +kernel
theorem dX3_add_45 : decode cX3_add 45 = .ok (.iconst 1, 1) := by decide +kernel
theorem dX3_add_46 : decode cX3_add 46 = .ok (.iadd, 1) := by decide +kernel
theorem dX3_add_47 : decode cX3_add 47 = .ok (.putfield 29, 3) := by decide +kernel
theorem dX3_add_50 : decode cX3_add 50 = .ok (.return_, 1) := by decide +kernel
theorem dX3_square_0 : decode cX3_square 0 = .ok (.iload_n 0, 1) := by decide +kernel
theorem dX3_square_1 : decode cX3_square 1 = .ok (.iload_n 0, 1) := by decide +kernel
theorem dX3_square_2 : decode cX3_square 2 = .ok (.imul, 1) := by decide +kernel
theorem dX3_square_3 : decode cX3_square 3 = .ok (.ireturn, 1) := by decide +kernel
theorem dX3_strengthOf_0 : decode cX3_strengthOf 0 = .ok (.iconst 0, 1) := by decide +kernel
theorem dX3_strengthOf_1 : decode cX3_strengthOf 1 = .ok (.istore_n 2, 1) := by decide +kernel
theorem dX3_strengthOf_2 : decode cX3_strengthOf 2 = .ok (.iload_n 2, 1) := by decide +kernel
theorem dX3_strengthOf_3 : decode cX3_strengthOf 3 = .ok (.aload_n 0, 1) := by decide +kernel
theorem dX3_strengthOf_4 : decode cX3_strengthOf 4 = .ok (.getfield 29, 3) := by decide +kernel
theorem dX3_strengthOf_7 : decode cX3_strengthOf 7 = .ok (.if_icmp .ge 26, 3) := by decide +kernel
theorem dX3_strengthOf_10 : decode cX3_strengthOf 10 = .ok (.aload_n 0, 1) := by decide +kernel
theorem dX3_strengthOf_11 : decode cX3_strengthOf 11 = .ok (.getfield 9, 3) := by decide +kernel
theorem dX3_strengthOf_14 : decode cX3_strengthOf 14 = .ok (.iload_n 2, 1) := by decide +kernel
theorem dX3_strengthOf_15 : decode cX3_strengthOf 15 = .ok (.iaload, 1) := by decide +kernel
theorem dX3_strengthOf_16 : decode cX3_strengthOf 16 = .ok (.iload_n 1, 1) := by decide +kernel
theorem dX3_strengthOf_17 : decode cX3_strengthOf 17 = .ok (.if_icmp .ne 10, 3) := by decide +kernel
theorem dX3_strengthOf_20 : decode cX3_strengthOf 20 = .ok (.aload_n 0, 1) := by decide +kernel
theorem dX3_strengthOf_21 : decode cX3_strengthOf 21 = .ok (.getfield 18, 3) := by decide +kernel
theorem dX3_strengthOf_24 : decode cX3_strengthOf 24 = .ok (.iload_n 2, 1) := by decide +kernel
theorem dX3_strengthOf_25 : decode cX3_strengthOf 25 = .ok (.iaload, 1) := by decide +kernel
theorem dX3_strengthOf_26 : decode cX3_strengthOf 26 = .ok (.ireturn, 1) := by decide +kernel
theorem dX3_strengthOf_27 : decode cX3_strengthOf 27 = .ok (.iinc 2 1, 3) := by decide +kernel
theorem dX3_strengthOf_30 : decode cX3_strengthOf 30 = .ok (.goto (-28), 3) := by decide +kernel
theorem dX3_strengthOf_33 : decode cX3_strengthOf 33 = .ok (.iconst (-1), 1) := by decide +kernel
theorem dX3_strengthOf_34 : decode cX3_strengthOf 34 = .ok (.ireturn, 1) := by decide +kernel
theorem dX3_countHeard_0 : decode cX3_countHeard 0 = .ok (.iconst 0, 1) := by decide +kernel
theorem dX3_countHeard_1 : decode cX3_countHeard 1 = .ok (.istore_n 2, 1) := by decide +kernel
theorem dX3_countHeard_2 : decode cX3_countHeard 2 = .ok (.iconst 0, 1) := by decide +kernel
theorem dX3_countHeard_3 : decode cX3_countHeard 3 = .ok (.istore_n 3, 1) := by decide +kernel
theorem dX3_countHeard_4 : decode cX3_countHeard 4 = .ok (.iload_n 3, 1) := by decide +kernel
theorem dX3_countHeard_5 : decode cX3_countHeard 5 = .ok (.aload_n 0, 1) := by decide +kernel
theorem dX3_countHeard_6 : decode cX3_countHeard 6 = .ok (.getfield 29, 3) := by decide +kernel
theorem dX3_countHeard_9 : decode cX3_countHeard 9 = .ok (.if_icmp .ge 22, 3) := by decide +kernel
theorem dX3_countHeard_12 : decode cX3_countHeard 12 = .ok (.aload_n 0, 1) := by decide +kernel
theorem dX3_countHeard_13 : decode cX3_countHeard 13 = .ok (.getfield 18, 3) := by decide +kernel
theorem dX3_countHeard_16 : decode cX3_countHeard 16 = .ok (.iload_n 3, 1) := by decide +kernel
theorem dX3_countHeard_17 : decode cX3_countHeard 17 = .ok (.iaload, 1) := by decide +kernel
theorem dX3_countHeard_18 : decode cX3_countHeard 18 = .ok (.iload_n 1, 1) := by decide +kernel
theorem dX3_countHeard_19 : decode cX3_countHeard 19 = .ok (.if_icmp .lt 6, 3) := by decide +kernel
theorem dX3_countHeard_22 : decode cX3_countHeard 22 = .ok (.iinc 2 1, 3) := by decide +kernel
theorem dX3_countHeard_25 : decode cX3_countHeard 25 = .ok (.iinc 3 1, 3) := by decide +kernel
theorem dX3_countHeard_28 : decode cX3_countHeard 28 = .ok (.goto (-24), 3) := by decide +kernel
theorem dX3_countHeard_31 : decode cX3_countHeard 31 = .ok (.iload_n 2, 1) := by decide +kernel
theorem dX3_countHeard_32 : decode cX3_countHeard 32 = .ok (.ireturn, 1) := by decide +kernel
theorem dX3_orderHeard_0 : decode cX3_orderHeard 0 = .ok (.aload_n 0, 1) := by decide +kernel
theorem dX3_orderHeard_1 : decode cX3_orderHeard 1 = .ok (.iconst 0, 1) := by decide +kernel
theorem dX3_orderHeard_2 : decode cX3_orderHeard 2 = .ok (.putfield 87, 3) := by decide +kernel
theorem dX3_orderHeard_5 : decode cX3_orderHeard 5 = .ok (.iconst 0, 1) := by decide +kernel
theorem dX3_orderHeard_6 : decode cX3_orderHeard 6 = .ok (.istore_n 2, 1) := by decide +kernel
theorem dX3_orderHeard_7 : decode cX3_orderHeard 7 = .ok (.iload_n 2, 1) := by decide +kernel
theorem dX3_orderHeard_8 : decode cX3_orderHeard 8 = .ok (.aload_n 0, 1) := by decide +kernel
theorem dX3_orderHeard_9 : decode cX3_orderHeard 9 = .ok (.getfield 29, 3) := by decide +kernel
theorem dX3_orderHeard_12 : decode cX3_orderHeard 12 = .ok (.if_icmp .ge 49, 3) := by decide +kernel
theorem dX3_orderHeard_15 : decode cX3_orderHeard 15 = .ok (.aload_n 0, 1) := by decide +kernel
theorem dX3_orderHeard_16 : decode cX3_orderHeard 16 = .ok (.getfield 18, 3) := by decide +kernel
theorem dX3_orderHeard_19 : decode cX3_orderHeard 19 = .ok (.iload_n 2, 1) := by decide +kernel
theorem dX3_orderHeard_20 : decode cX3_orderHeard 20 = .ok (.iaload, 1) := by decide +kernel
theorem dX3_orderHeard_21 : decode cX3_orderHeard 21 = .ok (.iload_n 1, 1) := by decide +kernel
theorem dX3_orderHeard_22 : decode cX3_orderHeard 22 = .ok (.if_icmp .lt 33, 3) := by decide +kernel
theorem dX3_orderHeard_25 : decode cX3_orderHeard 25 = .ok (.aload_n 0, 1) := by decide +kernel
theorem dX3_orderHeard_26 : decode cX3_orderHeard 26 = .ok (.getfield 26, 3) := by decide +kernel
theorem dX3_orderHeard_29 : decode cX3_orderHeard 29 = .ok (.aload_n 0, 1) := by decide +kernel
theorem dX3_orderHeard_30 : decode cX3_orderHeard 30 = .ok (.getfield 87, 3) := by decide +kernel
theorem dX3_orderHeard_33 : decode cX3_orderHeard 33 = .ok (.aload_n 0, 1) := by decide +kernel
theorem dX3_orderHeard_34 : decode cX3_orderHeard 34 = .ok (.getfield 15, 3) := by decide +kernel
theorem dX3_orderHeard_37 : decode cX3_orderHeard 37 = .ok (.iload_n 2, 1) := by decide +kernel
theorem dX3_orderHeard_38 : decode cX3_orderHeard 38 = .ok (.iaload, 1) := by decide +kernel
theorem dX3_orderHeard_39 : decode cX3_orderHeard 39 = .ok (.invokestatic 90, 3) := by decide +kernel
theorem dX3_orderHeard_42 : decode cX3_orderHeard 42 = .ok (.invokestatic 93, 3) := by decide +kernel
theorem dX3_orderHeard_45 : decode cX3_orderHeard 45 = .ok (.aload_n 0, 1) := by decide +kernel
theorem dX3_orderHeard_46 : decode cX3_orderHeard 46 = .ok (.dup, 1) := by decide +kernel
theorem dX3_orderHeard_47 : decode cX3_orderHeard 47 = .ok (.getfield 87, 3) := by decide +kernel
theorem dX3_orderHeard_50 : decode cX3_orderHeard 50 = .ok (.iconst 1, 1) := by decide +kernel
theorem dX3_orderHeard_51 : decode cX3_orderHeard 51 = .ok (.iadd, 1) := by decide +kernel
theorem dX3_orderHeard_52 : decode cX3_orderHeard 52 = .ok (.putfield 87, 3) := by decide +kernel
theorem dX3_orderHeard_55 : decode cX3_orderHeard 55 = .ok (.iinc 2 1, 3) := by decide +kernel
theorem dX3_orderHeard_58 : decode cX3_orderHeard 58 = .ok (.goto (-51), 3) := by decide +kernel
theorem dX3_orderHeard_61 : decode cX3_orderHeard 61 = .ok (.aload_n 0, 1) := by decide +kernel
theorem dX3_orderHeard_62 : decode cX3_orderHeard 62 = .ok (.getfield 87, 3) := by decide +kernel
theorem dX3_orderHeard_65 : decode cX3_orderHeard 65 = .ok (.ireturn, 1) := by decide +kernel
theorem dX3_rowIs_0 : decode cX3_rowIs 0 = .ok (.iconst 0, 1) := by decide +kernel
theorem dX3_rowIs_1 : decode cX3_rowIs 1 = .ok (.istore_n 3, 1) := by decide +kernel
theorem dX3_rowIs_2 : decode cX3_rowIs 2 = .ok (.iload_n 3, 1) := by decide +kernel
theorem dX3_rowIs_3 : decode cX3_rowIs 3 = .ok (.aload_n 0, 1) := by decide +kernel
theorem dX3_rowIs_4 : decode cX3_rowIs 4 = .ok (.getfield 87, 3) := by decide +kernel
theorem dX3_rowIs_7 : decode cX3_rowIs 7 = .ok (.if_icmp .ge 33, 3) := by decide +kernel
theorem dX3_rowIs_10 : decode cX3_rowIs 10 = .ok (.iload_n 3, 1) := by decide +kernel
theorem dX3_rowIs_11 : decode cX3_rowIs 11 = .ok (.aload_n 1, 1) := by decide +kernel
theorem dX3_rowIs_12 : decode cX3_rowIs 12 = .ok (.arraylength, 1) := by decide +kernel
theorem dX3_rowIs_13 : decode cX3_rowIs 13 = .ok (.if_icmp .ge 27, 3) := by decide +kernel
theorem dX3_rowIs_16 : decode cX3_rowIs 16 = .ok (.aload_n 0, 1) := by decide +kernel
theorem dX3_rowIs_17 : decode cX3_rowIs 17 = .ok (.getfield 26, 3) := by decide +kernel
theorem dX3_rowIs_20 : decode cX3_rowIs 20 = .ok (.iload_n 3, 1) := by decide +kernel
theorem dX3_rowIs_21 : decode cX3_rowIs 21 = .ok (.iaload, 1) := by decide +kernel
theorem dX3_rowIs_22 : decode cX3_rowIs 22 = .ok (.iload_n 2, 1) := by decide +kernel
theorem dX3_rowIs_23 : decode cX3_rowIs 23 = .ok (.invokestatic 97, 3) := by decide +kernel
theorem dX3_rowIs_26 : decode cX3_rowIs 26 = .ok (.aload_n 1, 1) := by decide +kernel
theorem dX3_rowIs_27 : decode cX3_rowIs 27 = .ok (.iload_n 3, 1) := by decide +kernel
theorem dX3_rowIs_28 : decode cX3_rowIs 28 = .ok (.iaload, 1) := by decide +kernel
theorem dX3_rowIs_29 : decode cX3_rowIs 29 = .ok (.if_icmp .eq 5, 3) := by decide +kernel
theorem dX3_rowIs_32 : decode cX3_rowIs 32 = .ok (.iconst 0, 1) := by decide +kernel
theorem dX3_rowIs_33 : decode cX3_rowIs 33 = .ok (.ireturn, 1) := by decide +kernel
theorem dX3_rowIs_34 : decode cX3_rowIs 34 = .ok (.iinc 3 1, 3) := by decide +kernel
theorem dX3_rowIs_37 : decode cX3_rowIs 37 = .ok (.goto (-35), 3) := by decide +kernel
theorem dX3_rowIs_40 : decode cX3_rowIs 40 = .ok (.iconst 1, 1) := by decide +kernel
theorem dX3_rowIs_41 : decode cX3_rowIs 41 = .ok (.ireturn, 1) := by decide +kernel
theorem dX3_fit_0 : decode cX3_fit 0 = .ok (.aload_n 0, 1) := by decide +kernel
theorem dX3_fit_1 : decode cX3_fit 1 = .ok (.aload_n 2, 1) := by decide +kernel
theorem dX3_fit_2 : decode cX3_fit 2 = .ok (.getfield 100, 3) := by decide +kernel
theorem dX3_fit_5 : decode cX3_fit 5 = .ok (.invokevirtual 103, 3) := by decide +kernel
theorem dX3_fit_8 : decode cX3_fit 8 = .ok (.aload_n 1, 1) := by decide +kernel
theorem dX3_fit_9 : decode cX3_fit 9 = .ok (.getfield 106, 3) := by decide +kernel
theorem dX3_fit_12 : decode cX3_fit 12 = .ok (.if_icmp .eq 5, 3) := by decide +kernel
theorem dX3_fit_15 : decode cX3_fit 15 = .ok (.iconst 0, 1) := by decide +kernel
theorem dX3_fit_16 : decode cX3_fit 16 = .ok (.ireturn, 1) := by decide +kernel
theorem dX3_fit_17 : decode cX3_fit 17 = .ok (.aload_n 0, 1) := by decide +kernel
theorem dX3_fit_18 : decode cX3_fit 18 = .ok (.aload_n 2, 1) := by decide +kernel
theorem dX3_fit_19 : decode cX3_fit 19 = .ok (.getfield 100, 3) := by decide +kernel
theorem dX3_fit_22 : decode cX3_fit 22 = .ok (.invokevirtual 111, 3) := by decide +kernel
theorem dX3_fit_25 : decode cX3_fit 25 = .ok (.pop, 1) := by decide +kernel
theorem dX3_fit_26 : decode cX3_fit 26 = .ok (.aload_n 0, 1) := by decide +kernel
theorem dX3_fit_27 : decode cX3_fit 27 = .ok (.aload_n 1, 1) := by decide +kernel
theorem dX3_fit_28 : decode cX3_fit 28 = .ok (.getfield 114, 3) := by decide +kernel
theorem dX3_fit_31 : decode cX3_fit 31 = .ok (.aload_n 2, 1) := by decide +kernel
theorem dX3_fit_32 : decode cX3_fit 32 = .ok (.getfield 117, 3) := by decide +kernel
theorem dX3_fit_35 : decode cX3_fit 35 = .ok (.invokevirtual 120, 3) := by decide +kernel
theorem dX3_fit_38 : decode cX3_fit 38 = .ok (.ireturn, 1) := by decide +kernel
theorem dX3_comesAt_0 : decode cX3_comesAt 0 = .ok (.aload_n 0, 1) := by decide +kernel
theorem dX3_comesAt_1 : decode cX3_comesAt 1 = .ok (.getfield 18, 3) := by decide +kernel
theorem dX3_comesAt_4 : decode cX3_comesAt 4 = .ok (.iload_n 1, 1) := by decide +kernel
theorem dX3_comesAt_5 : decode cX3_comesAt 5 = .ok (.iaload, 1) := by decide +kernel
theorem dX3_comesAt_6 : decode cX3_comesAt 6 = .ok (.aload_n 3, 1) := by decide +kernel
theorem dX3_comesAt_7 : decode cX3_comesAt 7 = .ok (.getfield 100, 3) := by decide +kernel
theorem dX3_comesAt_10 : decode cX3_comesAt 10 = .ok (.if_icmp .lt 27, 3) := by decide +kernel
theorem dX3_comesAt_13 : decode cX3_comesAt 13 = .ok (.aload_n 0, 1) := by decide +kernel
theorem dX3_comesAt_14 : decode cX3_comesAt 14 = .ok (.getfield 15, 3) := by decide +kernel
theorem dX3_comesAt_17 : decode cX3_comesAt 17 = .ok (.iload_n 1, 1) := by decide +kernel
theorem dX3_comesAt_18 : decode cX3_comesAt 18 = .ok (.iaload, 1) := by decide +kernel
theorem dX3_comesAt_19 : decode cX3_comesAt 19 = .ok (.invokestatic 90, 3) := by decide +kernel
theorem dX3_comesAt_22 : decode cX3_comesAt 22 = .ok (.aload_n 3, 1) := by decide +kernel
theorem dX3_comesAt_23 : decode cX3_comesAt 23 = .ok (.getfield 117, 3) := by decide +kernel
theorem dX3_comesAt_26 : decode cX3_comesAt 26 = .ok (.invokestatic 97, 3) := by decide +kernel
theorem dX3_comesAt_29 : decode cX3_comesAt 29 = .ok (.iload_n 2, 1) := by decide +kernel
theorem dX3_comesAt_30 : decode cX3_comesAt 30 = .ok (.if_icmp .ne 7, 3) := by decide +kernel
theorem dX3_comesAt_33 : decode cX3_comesAt 33 = .ok (.iconst 1, 1) := by decide +kernel
theorem dX3_comesAt_34 : decode cX3_comesAt 34 = .ok (.goto 4, 3) := by decide +kernel
theorem dX3_comesAt_37 : decode cX3_comesAt 37 = .ok (.iconst 0, 1) := by decide +kernel
theorem dX3_comesAt_38 : decode cX3_comesAt 38 = .ok (.ireturn, 1) := by decide +kernel
theorem dX3_howManyAt_0 : decode cX3_howManyAt 0 = .ok (.iconst 0, 1) := by decide +kernel
theorem dX3_howManyAt_1 : decode cX3_howManyAt 1 = .ok (.istore_n 3, 1) := by decide +kernel
theorem dX3_howManyAt_2 : decode cX3_howManyAt 2 = .ok (.iconst 0, 1) := by decide +kernel
theorem dX3_howManyAt_3 : decode cX3_howManyAt 3 = .ok (.istore 4, 2) := by decide +kernel
theorem dX3_howManyAt_5 : decode cX3_howManyAt 5 = .ok (.iload 4, 2) := by decide +kernel
theorem dX3_howManyAt_7 : decode cX3_howManyAt 7 = .ok (.aload_n 0, 1) := by decide +kernel
theorem dX3_howManyAt_8 : decode cX3_howManyAt 8 = .ok (.getfield 29, 3) := by decide +kernel
theorem dX3_howManyAt_11 : decode cX3_howManyAt 11 = .ok (.if_icmp .ge 23, 3) := by decide +kernel
theorem dX3_howManyAt_14 : decode cX3_howManyAt 14 = .ok (.aload_n 0, 1) := by decide +kernel
theorem dX3_howManyAt_15 : decode cX3_howManyAt 15 = .ok (.iload 4, 2) := by decide +kernel
theorem dX3_howManyAt_17 : decode cX3_howManyAt 17 = .ok (.iload_n 1, 1) := by decide +kernel
theorem dX3_howManyAt_18 : decode cX3_howManyAt 18 = .ok (.aload_n 2, 1) := by decide +kernel
theorem dX3_howManyAt_19 : decode cX3_howManyAt 19 = .ok (.invokevirtual 124, 3) := by decide +kernel
theorem dX3_howManyAt_22 : decode cX3_howManyAt 22 = .ok (.ifCond .eq 6, 3) := by decide +kernel
theorem dX3_howManyAt_25 : decode cX3_howManyAt 25 = .ok (.iinc 3 1, 3) := by decide +kernel
theorem dX3_howManyAt_28 : decode cX3_howManyAt 28 = .ok (.iinc 4 1, 3) := by decide +kernel
theorem dX3_howManyAt_31 : decode cX3_howManyAt 31 = .ok (.goto (-26), 3) := by decide +kernel
theorem dX3_howManyAt_34 : decode cX3_howManyAt 34 = .ok (.iload_n 3, 1) := by decide +kernel
theorem dX3_howManyAt_35 : decode cX3_howManyAt 35 = .ok (.ireturn, 1) := by decide +kernel
theorem dX3_leastAt_0 : decode cX3_leastAt 0 = .ok (.iconst (-1), 1) := by decide +kernel
theorem dX3_leastAt_1 : decode cX3_leastAt 1 = .ok (.istore_n 3, 1) := by decide +kernel
theorem dX3_leastAt_2 : decode cX3_leastAt 2 = .ok (.iconst 0, 1) := by decide +kernel
theorem dX3_leastAt_3 : decode cX3_leastAt 3 = .ok (.istore 4, 2) := by decide +kernel
theorem dX3_leastAt_5 : decode cX3_leastAt 5 = .ok (.iload 4, 2) := by decide +kernel
theorem dX3_leastAt_7 : decode cX3_leastAt 7 = .ok (.aload_n 0, 1) := by decide +kernel
theorem dX3_leastAt_8 : decode cX3_leastAt 8 = .ok (.getfield 29, 3) := by decide +kernel
theorem dX3_leastAt_11 : decode cX3_leastAt 11 = .ok (.if_icmp .ge 44, 3) := by decide +kernel
theorem dX3_leastAt_14 : decode cX3_leastAt 14 = .ok (.aload_n 0, 1) := by decide +kernel
theorem dX3_leastAt_15 : decode cX3_leastAt 15 = .ok (.iload 4, 2) := by decide +kernel
theorem dX3_leastAt_17 : decode cX3_leastAt 17 = .ok (.iload_n 1, 1) := by decide +kernel
theorem dX3_leastAt_18 : decode cX3_leastAt 18 = .ok (.aload_n 2, 1) := by decide +kernel
theorem dX3_leastAt_19 : decode cX3_leastAt 19 = .ok (.invokevirtual 124, 3) := by decide +kernel
theorem dX3_leastAt_22 : decode cX3_leastAt 22 = .ok (.ifCond .eq 27, 3) := by decide +kernel
theorem dX3_leastAt_25 : decode cX3_leastAt 25 = .ok (.iload_n 3, 1) := by decide +kernel
theorem dX3_leastAt_26 : decode cX3_leastAt 26 = .ok (.iconst (-1), 1) := by decide +kernel
theorem dX3_leastAt_27 : decode cX3_leastAt 27 = .ok (.if_icmp .eq 14, 3) := by decide +kernel
theorem dX3_leastAt_30 : decode cX3_leastAt 30 = .ok (.aload_n 0, 1) := by decide +kernel
theorem dX3_leastAt_31 : decode cX3_leastAt 31 = .ok (.getfield 9, 3) := by decide +kernel
theorem dX3_leastAt_34 : decode cX3_leastAt 34 = .ok (.iload 4, 2) := by decide +kernel
theorem dX3_leastAt_36 : decode cX3_leastAt 36 = .ok (.iaload, 1) := by decide +kernel
theorem dX3_leastAt_37 : decode cX3_leastAt 37 = .ok (.iload_n 3, 1) := by decide +kernel
theorem dX3_leastAt_38 : decode cX3_leastAt 38 = .ok (.if_icmp .ge 11, 3) := by decide +kernel
theorem dX3_leastAt_41 : decode cX3_leastAt 41 = .ok (.aload_n 0, 1) := by decide +kernel
theorem dX3_leastAt_42 : decode cX3_leastAt 42 = .ok (.getfield 9, 3) := by decide +kernel
theorem dX3_leastAt_45 : decode cX3_leastAt 45 = .ok (.iload 4, 2) := by decide +kernel
theorem dX3_leastAt_47 : decode cX3_leastAt 47 = .ok (.iaload, 1) := by decide +kernel
theorem dX3_leastAt_48 : decode cX3_leastAt 48 = .ok (.istore_n 3, 1) := by decide +kernel
theorem dX3_leastAt_49 : decode cX3_leastAt 49 = .ok (.iinc 4 1, 3) := by decide +kernel
theorem dX3_leastAt_52 : decode cX3_leastAt 52 = .ok (.goto (-47), 3) := by decide +kernel
theorem dX3_leastAt_55 : decode cX3_leastAt 55 = .ok (.iload_n 3, 1) := by decide +kernel
theorem dX3_leastAt_56 : decode cX3_leastAt 56 = .ok (.ireturn, 1) := by decide +kernel
theorem dX3_countFirstHeard_0 : decode cX3_countFirstHeard 0 = .ok (.iconst 0, 1) := by decide +kernel
theorem dX3_countFirstHeard_1 : decode cX3_countFirstHeard 1 = .ok (.istore_n 2, 1) := by decide +kernel
theorem dX3_countFirstHeard_2 : decode cX3_countFirstHeard 2 = .ok (.iconst 0, 1) := by decide +kernel
theorem dX3_countFirstHeard_3 : decode cX3_countFirstHeard 3 = .ok (.istore_n 3, 1) := by decide +kernel
theorem dX3_countFirstHeard_4 : decode cX3_countFirstHeard 4 = .ok (.iload_n 3, 1) := by decide +kernel
theorem dX3_countFirstHeard_5 : decode cX3_countFirstHeard 5 = .ok (.aload_n 0, 1) := by decide +kernel
theorem dX3_countFirstHeard_6 : decode cX3_countFirstHeard 6 = .ok (.getfield 29, 3) := by decide +kernel
theorem dX3_countFirstHeard_9 : decode cX3_countFirstHeard 9 = .ok (.if_icmp .ge 33, 3) := by decide +kernel
theorem dX3_countFirstHeard_12 : decode cX3_countFirstHeard 12 = .ok (.aload_n 0, 1) := by decide +kernel
theorem dX3_countFirstHeard_13 : decode cX3_countFirstHeard 13 = .ok (.getfield 9, 3) := by decide +kernel
theorem dX3_countFirstHeard_16 : decode cX3_countFirstHeard 16 = .ok (.iload_n 3, 1) := by decide +kernel
theorem dX3_countFirstHeard_17 : decode cX3_countFirstHeard 17 = .ok (.iaload, 1) := by decide +kernel
theorem dX3_countFirstHeard_18 : decode cX3_countFirstHeard 18 = .ok (.bipush 16, 2) := by decide +kernel
theorem dX3_countFirstHeard_20 : decode cX3_countFirstHeard 20 = .ok (.if_icmp .ge 16, 3) := by decide +kernel
theorem dX3_countFirstHeard_23 : decode cX3_countFirstHeard 23 = .ok (.aload_n 0, 1) := by decide +kernel
theorem dX3_countFirstHeard_24 : decode cX3_countFirstHeard 24 = .ok (.getfield 18, 3) := by decide +kernel
theorem dX3_countFirstHeard_27 : decode cX3_countFirstHeard 27 = .ok (.iload_n 3, 1) := by decide +kernel
theorem dX3_countFirstHeard_28 : decode cX3_countFirstHeard 28 = .ok (.iaload, 1) := by decide +kernel
theorem dX3_countFirstHeard_29 : decode cX3_countFirstHeard 29 = .ok (.iload_n 1, 1) := by decide +kernel
theorem dX3_countFirstHeard_30 : decode cX3_countFirstHeard 30 = .ok (.if_icmp .lt 6, 3) := by decide +kernel
theorem dX3_countFirstHeard_33 : decode cX3_countFirstHeard 33 = .ok (.iinc 2 1, 3) := by decide +kernel
theorem dX3_countFirstHeard_36 : decode cX3_countFirstHeard 36 = .ok (.iinc 3 1, 3) := by decide +kernel
theorem dX3_countFirstHeard_39 : decode cX3_countFirstHeard 39 = .ok (.goto (-35), 3) := by decide +kernel
theorem dX3_countFirstHeard_42 : decode cX3_countFirstHeard 42 = .ok (.iload_n 2, 1) := by decide +kernel
theorem dX3_countFirstHeard_43 : decode cX3_countFirstHeard 43 = .ok (.ireturn, 1) := by decide +kernel
theorem dX3_orderForThief_0 : decode cX3_orderForThief 0 = .ok (.aload_n 1, 1) := by decide +kernel
theorem dX3_orderForThief_1 : decode cX3_orderForThief 1 = .ok (.getfield 128, 3) := by decide +kernel
theorem dX3_orderForThief_4 : decode cX3_orderForThief 4 = .ok (.aload_n 1, 1) := by decide +kernel
theorem dX3_orderForThief_5 : decode cX3_orderForThief 5 = .ok (.getfield 131, 3) := by decide +kernel
theorem dX3_orderForThief_8 : decode cX3_orderForThief 8 = .ok (.iload_n 3, 1) := by decide +kernel
theorem dX3_orderForThief_9 : decode cX3_orderForThief 9 = .ok (.iload 4, 2) := by decide +kernel
theorem dX3_orderForThief_11 : decode cX3_orderForThief 11 = .ok (.invokestatic 134, 3) := by decide +kernel
theorem dX3_orderForThief_14 : decode cX3_orderForThief 14 = .ok (.invokestatic 90, 3) := by decide +kernel
theorem dX3_orderForThief_17 : decode cX3_orderForThief 17 = .ok (.aload_n 2, 1) := by decide +kernel
theorem dX3_orderForThief_18 : decode cX3_orderForThief 18 = .ok (.getfield 117, 3) := by decide +kernel
theorem dX3_orderForThief_21 : decode cX3_orderForThief 21 = .ok (.invokestatic 97, 3) := by decide +kernel
theorem dX3_orderForThief_24 : decode cX3_orderForThief 24 = .ok (.istore 6, 2) := by decide +kernel
theorem dX3_orderForThief_26 : decode cX3_orderForThief 26 = .ok (.iconst 0, 1) := by decide +kernel
theorem dX3_orderForThief_27 : decode cX3_orderForThief 27 = .ok (.istore 7, 2) := by decide +kernel
theorem dX3_orderForThief_29 : decode cX3_orderForThief 29 = .ok (.iconst 0, 1) := by decide +kernel
theorem dX3_orderForThief_30 : decode cX3_orderForThief 30 = .ok (.istore 8, 2) := by decide +kernel
theorem dX3_orderForThief_32 : decode cX3_orderForThief 32 = .ok (.iload 8, 2) := by decide +kernel
theorem dX3_orderForThief_34 : decode cX3_orderForThief 34 = .ok (.aload_n 0, 1) := by decide +kernel
theorem dX3_orderForThief_35 : decode cX3_orderForThief 35 = .ok (.getfield 29, 3) := by decide +kernel
theorem dX3_orderForThief_38 : decode cX3_orderForThief 38 = .ok (.if_icmp .ge 94, 3) := by decide +kernel
theorem dX3_orderForThief_41 : decode cX3_orderForThief 41 = .ok (.aload_n 0, 1) := by decide +kernel
theorem dX3_orderForThief_42 : decode cX3_orderForThief 42 = .ok (.getfield 9, 3) := by decide +kernel
theorem dX3_orderForThief_45 : decode cX3_orderForThief 45 = .ok (.iload 8, 2) := by decide +kernel
theorem dX3_orderForThief_47 : decode cX3_orderForThief 47 = .ok (.iaload, 1) := by decide +kernel
theorem dX3_orderForThief_48 : decode cX3_orderForThief 48 = .ok (.bipush 16, 2) := by decide +kernel
theorem dX3_orderForThief_50 : decode cX3_orderForThief 50 = .ok (.if_icmp .ge 7, 3) := by decide +kernel
theorem dX3_orderForThief_53 : decode cX3_orderForThief 53 = .ok (.iconst 1, 1) := by decide +kernel
theorem dX3_orderForThief_54 : decode cX3_orderForThief 54 = .ok (.goto 4, 3) := by decide +kernel
theorem dX3_orderForThief_57 : decode cX3_orderForThief 57 = .ok (.iconst 0, 1) := by decide +kernel
theorem dX3_orderForThief_58 : decode cX3_orderForThief 58 = .ok (.istore 9, 2) := by decide +kernel
theorem dX3_orderForThief_60 : decode cX3_orderForThief 60 = .ok (.iload 9, 2) := by decide +kernel
theorem dX3_orderForThief_62 : decode cX3_orderForThief 62 = .ok (.ifCond .eq 64, 3) := by decide +kernel
theorem dX3_orderForThief_65 : decode cX3_orderForThief 65 = .ok (.aload_n 0, 1) := by decide +kernel
theorem dX3_orderForThief_66 : decode cX3_orderForThief 66 = .ok (.getfield 18, 3) := by decide +kernel
theorem dX3_orderForThief_69 : decode cX3_orderForThief 69 = .ok (.iload 8, 2) := by decide +kernel
theorem dX3_orderForThief_71 : decode cX3_orderForThief 71 = .ok (.iaload, 1) := by decide +kernel
theorem dX3_orderForThief_72 : decode cX3_orderForThief 72 = .ok (.aload_n 2, 1) := by decide +kernel
theorem dX3_orderForThief_73 : decode cX3_orderForThief 73 = .ok (.getfield 100, 3) := by decide +kernel
theorem dX3_orderForThief_76 : decode cX3_orderForThief 76 = .ok (.if_icmp .lt 50, 3) := by decide +kernel
theorem dX3_orderForThief_79 : decode cX3_orderForThief 79 = .ok (.iload 7, 2) := by decide +kernel
theorem dX3_orderForThief_81 : decode cX3_orderForThief 81 = .ok (.aload 5, 2) := by decide +kernel
theorem dX3_orderForThief_83 : decode cX3_orderForThief 83 = .ok (.arraylength, 1) := by decide +kernel
theorem dX3_orderForThief_84 : decode cX3_orderForThief 84 = .ok (.if_icmp .ge 42, 3) := by decide +kernel
theorem dX3_orderForThief_87 : decode cX3_orderForThief 87 = .ok (.aload_n 1, 1) := by decide +kernel
theorem dX3_orderForThief_88 : decode cX3_orderForThief 88 = .ok (.aload_n 2, 1) := by decide +kernel
theorem dX3_orderForThief_89 : decode cX3_orderForThief 89 = .ok (.aload_n 0, 1) := by decide +kernel
theorem dX3_orderForThief_90 : decode cX3_orderForThief 90 = .ok (.getfield 9, 3) := by decide +kernel
theorem dX3_orderForThief_93 : decode cX3_orderForThief 93 = .ok (.iload 8, 2) := by decide +kernel
theorem dX3_orderForThief_95 : decode cX3_orderForThief 95 = .ok (.iaload, 1) := by decide +kernel
theorem dX3_orderForThief_96 : decode cX3_orderForThief 96 = .ok (.iload_n 3, 1) := by decide +kernel
theorem dX3_orderForThief_97 : decode cX3_orderForThief 97 = .ok (.iload 4, 2) := by decide +kernel
theorem dX3_orderForThief_99 : decode cX3_orderForThief 99 = .ok (.invokestatic 138, 3) := by decide +kernel
theorem dX3_orderForThief_102 : decode cX3_orderForThief 102 = .ok (.istore 10, 2) := by decide +kernel
theorem dX3_orderForThief_104 : decode cX3_orderForThief 104 = .ok (.aload 5, 2) := by decide +kernel
theorem dX3_orderForThief_106 : decode cX3_orderForThief 106 = .ok (.iload 7, 2) := by decide +kernel
theorem dX3_orderForThief_108 : decode cX3_orderForThief 108 = .ok (.iload 10, 2) := by decide +kernel
theorem dX3_orderForThief_110 : decode cX3_orderForThief 110 = .ok (.aload_n 2, 1) := by decide +kernel
theorem dX3_orderForThief_111 : decode cX3_orderForThief 111 = .ok (.getfield 117, 3) := by decide +kernel
theorem dX3_orderForThief_114 : decode cX3_orderForThief 114 = .ok (.invokestatic 97, 3) := by decide +kernel
theorem dX3_orderForThief_117 : decode cX3_orderForThief 117 = .ok (.iload 6, 2) := by decide +kernel
theorem dX3_orderForThief_119 : decode cX3_orderForThief 119 = .ok (.isub, 1) := by decide +kernel
theorem dX3_orderForThief_120 : decode cX3_orderForThief 120 = .ok (.invokestatic 93, 3) := by decide +kernel
theorem dX3_orderForThief_123 : decode cX3_orderForThief 123 = .ok (.iinc 7 1, 3) := by decide +kernel
theorem dX3_orderForThief_126 : decode cX3_orderForThief 126 = .ok (.iinc 8 1, 3) := by decide +kernel
theorem dX3_orderForThief_129 : decode cX3_orderForThief 129 = .ok (.goto (-97), 3) := by decide +kernel
theorem dX3_orderForThief_132 : decode cX3_orderForThief 132 = .ok (.return_, 1) := by decide +kernel
theorem dX3_thiefRoots_0 : decode cX3_thiefRoots 0 = .ok (.iload_n 2, 1) := by decide +kernel
theorem dX3_thiefRoots_1 : decode cX3_thiefRoots 1 = .ok (.bipush 8, 2) := by decide +kernel
theorem dX3_thiefRoots_3 : decode cX3_thiefRoots 3 = .ok (.if_icmp .lt 31, 3) := by decide +kernel
theorem dX3_thiefRoots_6 : decode cX3_thiefRoots 6 = .ok (.aload_n 1, 1) := by decide +kernel
theorem dX3_thiefRoots_7 : decode cX3_thiefRoots 7 = .ok (.getfield 142, 3) := by decide +kernel
theorem dX3_thiefRoots_10 : decode cX3_thiefRoots 10 = .ok (.iload_n 2, 1) := by decide +kernel
theorem dX3_thiefRoots_11 : decode cX3_thiefRoots 11 = .ok (.bipush 8, 2) := by decide +kernel
theorem dX3_thiefRoots_13 : decode cX3_thiefRoots 13 = .ok (.isub, 1) := by decide +kernel
theorem dX3_thiefRoots_14 : decode cX3_thiefRoots 14 = .ok (.aaload, 1) := by decide +kernel
theorem dX3_thiefRoots_15 : decode cX3_thiefRoots 15 = .ok (.astore 7, 2) := by decide +kernel
theorem dX3_thiefRoots_17 : decode cX3_thiefRoots 17 = .ok (.aload 7, 2) := by decide +kernel
theorem dX3_thiefRoots_19 : decode cX3_thiefRoots 19 = .ok (.getfield 146, 3) := by decide +kernel
theorem dX3_thiefRoots_22 : decode cX3_thiefRoots 22 = .ok (.istore 5, 2) := by decide +kernel
theorem dX3_thiefRoots_24 : decode cX3_thiefRoots 24 = .ok (.aload 7, 2) := by decide +kernel
theorem dX3_thiefRoots_26 : decode cX3_thiefRoots 26 = .ok (.getfield 149, 3) := by decide +kernel
theorem dX3_thiefRoots_29 : decode cX3_thiefRoots 29 = .ok (.istore 6, 2) := by decide +kernel
theorem dX3_thiefRoots_31 : decode cX3_thiefRoots 31 = .ok (.goto 33, 3) := by decide +kernel
theorem dX3_thiefRoots_34 : decode cX3_thiefRoots 34 = .ok (.aload_n 1, 1) := by decide +kernel
theorem dX3_thiefRoots_35 : decode cX3_thiefRoots 35 = .ok (.getfield 150, 3) := by decide +kernel
theorem dX3_thiefRoots_38 : decode cX3_thiefRoots 38 = .ok (.iload_n 2, 1) := by decide +kernel
theorem dX3_thiefRoots_39 : decode cX3_thiefRoots 39 = .ok (.aaload, 1) := by decide +kernel
theorem dX3_thiefRoots_40 : decode cX3_thiefRoots 40 = .ok (.astore 7, 2) := by decide +kernel
theorem dX3_thiefRoots_42 : decode cX3_thiefRoots 42 = .ok (.aload 7, 2) := by decide +kernel
theorem dX3_thiefRoots_44 : decode cX3_thiefRoots 44 = .ok (.aload_n 0, 1) := by decide +kernel
theorem dX3_thiefRoots_45 : decode cX3_thiefRoots 45 = .ok (.getfield 128, 3) := by decide +kernel
theorem dX3_thiefRoots_48 : decode cX3_thiefRoots 48 = .ok (.invokevirtual 154, 3) := by decide +kernel
theorem dX3_thiefRoots_51 : decode cX3_thiefRoots 51 = .ok (.istore 5, 2) := by decide +kernel
theorem dX3_thiefRoots_53 : decode cX3_thiefRoots 53 = .ok (.aload 7, 2) := by decide +kernel
theorem dX3_thiefRoots_55 : decode cX3_thiefRoots 55 = .ok (.aload_n 0, 1) := by decide +kernel
theorem dX3_thiefRoots_56 : decode cX3_thiefRoots 56 = .ok (.getfield 131, 3) := by decide +kernel
theorem dX3_thiefRoots_59 : decode cX3_thiefRoots 59 = .ok (.invokevirtual 159, 3) := by decide +kernel
theorem dX3_thiefRoots_62 : decode cX3_thiefRoots 62 = .ok (.istore 6, 2) := by decide +kernel
theorem dX3_thiefRoots_64 : decode cX3_thiefRoots 64 = .ok (.aload_n 0, 1) := by decide +kernel
theorem dX3_thiefRoots_65 : decode cX3_thiefRoots 65 = .ok (.getfield 128, 3) := by decide +kernel
theorem dX3_thiefRoots_68 : decode cX3_thiefRoots 68 = .ok (.aload_n 0, 1) := by decide +kernel
theorem dX3_thiefRoots_69 : decode cX3_thiefRoots 69 = .ok (.getfield 131, 3) := by decide +kernel
theorem dX3_thiefRoots_72 : decode cX3_thiefRoots 72 = .ok (.iload 5, 2) := by decide +kernel
theorem dX3_thiefRoots_74 : decode cX3_thiefRoots 74 = .ok (.iload 6, 2) := by decide +kernel
theorem dX3_thiefRoots_76 : decode cX3_thiefRoots 76 = .ok (.invokestatic 134, 3) := by decide +kernel
theorem dX3_thiefRoots_79 : decode cX3_thiefRoots 79 = .ok (.invokestatic 90, 3) := by decide +kernel
theorem dX3_thiefRoots_82 : decode cX3_thiefRoots 82 = .ok (.iload 5, 2) := by decide +kernel
theorem dX3_thiefRoots_84 : decode cX3_thiefRoots 84 = .ok (.iload 6, 2) := by decide +kernel
theorem dX3_thiefRoots_86 : decode cX3_thiefRoots 86 = .ok (.iload_n 3, 1) := by decide +kernel
theorem dX3_thiefRoots_87 : decode cX3_thiefRoots 87 = .ok (.iload 4, 2) := by decide +kernel
theorem dX3_thiefRoots_89 : decode cX3_thiefRoots 89 = .ok (.invokestatic 134, 3) := by decide +kernel
theorem dX3_thiefRoots_92 : decode cX3_thiefRoots 92 = .ok (.invokestatic 90, 3) := by decide +kernel
theorem dX3_thiefRoots_95 : decode cX3_thiefRoots 95 = .ok (.iadd, 1) := by decide +kernel
theorem dX3_thiefRoots_96 : decode cX3_thiefRoots 96 = .ok (.ireturn, 1) := by decide +kernel
theorem dX4_init_0 : decode cX4_init 0 = .ok (.aload_n 0, 1) := by decide +kernel
theorem dX4_init_1 : decode cX4_init 1 = .ok (.invokespecial 3, 3) := by decide +kernel
theorem dX4_init_4 : decode cX4_init 4 = .ok (.aload_n 0, 1) := by decide +kernel
theorem dX4_init_5 : decode cX4_init 5 = .ok (.bipush 6, 2) := by decide +kernel
theorem dX4_init_7 : decode cX4_init 7 = .ok (.anewarray 9, 3) := by decide +kernel
theorem dX4_init_10 : decode cX4_init 10 = .ok (.putfield 11, 3) := by decide +kernel
theorem dX4_init_13 : decode cX4_init 13 = .ok (.iconst 0, 1) := by decide +kernel
theorem dX4_init_14 : decode cX4_init 14 = .ok (.istore_n 1, 1) := by decide +kernel
theorem dX4_init_15 : decode cX4_init 15 = .ok (.iload_n 1, 1) := by decide +kernel
theorem dX4_init_16 : decode cX4_init 16 = .ok (.bipush 6, 2) := by decide +kernel
theorem dX4_init_18 : decode cX4_init 18 = .ok (.if_icmp .ge 22, 3) := by decide +kernel
theorem dX4_init_21 : decode cX4_init 21 = .ok (.aload_n 0, 1) := by decide +kernel
theorem dX4_init_22 : decode cX4_init 22 = .ok (.getfield 11, 3) := by decide +kernel
theorem dX4_init_25 : decode cX4_init 25 = .ok (.iload_n 1, 1) := by decide +kernel
theorem dX4_init_26 : decode cX4_init 26 = .ok (.new 9, 3) := by decide +kernel
theorem dX4_init_29 : decode cX4_init 29 = .ok (.dup, 1) := by decide +kernel
theorem dX4_init_30 : decode cX4_init 30 = .ok (.invokespecial 17, 3) := by decide +kernel
theorem dX4_init_33 : decode cX4_init 33 = .ok (.aastore, 1) := by decide +kernel
theorem dX4_init_34 : decode cX4_init 34 = .ok (.iinc 1 1, 3) := by decide +kernel
theorem dX4_init_37 : decode cX4_init 37 = .ok (.goto (-22), 3) := by decide +kernel
theorem dX4_init_40 : decode cX4_init 40 = .ok (.aload_n 0, 1) := by decide +kernel
theorem dX4_init_41 : decode cX4_init 41 = .ok (.bipush 6, 2) := by decide +kernel
theorem dX4_init_43 : decode cX4_init 43 = .ok (.anewarray 18, 3) := by decide +kernel
theorem dX4_init_46 : decode cX4_init 46 = .ok (.putfield 20, 3) := by decide +kernel
theorem dX4_init_49 : decode cX4_init 49 = .ok (.iconst 0, 1) := by decide +kernel
theorem dX4_init_50 : decode cX4_init 50 = .ok (.istore_n 1, 1) := by decide +kernel
theorem dX4_init_51 : decode cX4_init 51 = .ok (.iload_n 1, 1) := by decide +kernel
theorem dX4_init_52 : decode cX4_init 52 = .ok (.bipush 6, 2) := by decide +kernel
theorem dX4_init_54 : decode cX4_init 54 = .ok (.if_icmp .ge 22, 3) := by decide +kernel
theorem dX4_init_57 : decode cX4_init 57 = .ok (.aload_n 0, 1) := by decide +kernel
theorem dX4_init_58 : decode cX4_init 58 = .ok (.getfield 20, 3) := by decide +kernel
theorem dX4_init_61 : decode cX4_init 61 = .ok (.iload_n 1, 1) := by decide +kernel
theorem dX4_init_62 : decode cX4_init 62 = .ok (.new 18, 3) := by decide +kernel
theorem dX4_init_65 : decode cX4_init 65 = .ok (.dup, 1) := by decide +kernel
theorem dX4_init_66 : decode cX4_init 66 = .ok (.invokespecial 24, 3) := by decide +kernel
theorem dX4_init_69 : decode cX4_init 69 = .ok (.aastore, 1) := by decide +kernel
theorem dX4_init_70 : decode cX4_init 70 = .ok (.iinc 1 1, 3) := by decide +kernel
theorem dX4_init_73 : decode cX4_init 73 = .ok (.goto (-22), 3) := by decide +kernel
theorem dX4_init_76 : decode cX4_init 76 = .ok (.aload_n 0, 1) := by decide +kernel
theorem dX4_init_77 : decode cX4_init 77 = .ok (.iconst 4, 1) := by decide +kernel
theorem dX4_init_78 : decode cX4_init 78 = .ok (.anewarray 25, 3) := by decide +kernel
theorem dX4_init_81 : decode cX4_init 81 = .ok (.putfield 27, 3) := by decide +kernel
theorem dX4_init_84 : decode cX4_init 84 = .ok (.iconst 0, 1) := by decide +kernel
theorem dX4_init_85 : decode cX4_init 85 = .ok (.istore_n 1, 1) := by decide +kernel
theorem dX4_init_86 : decode cX4_init 86 = .ok (.iload_n 1, 1) := by decide +kernel
theorem dX4_init_87 : decode cX4_init 87 = .ok (.iconst 4, 1) := by decide +kernel
theorem dX4_init_88 : decode cX4_init 88 = .ok (.if_icmp .ge 22, 3) := by decide +kernel
theorem dX4_init_91 : decode cX4_init 91 = .ok (.aload_n 0, 1) := by decide +kernel
theorem dX4_init_92 : decode cX4_init 92 = .ok (.getfield 27, 3) := by decide +kernel
theorem dX4_init_95 : decode cX4_init 95 = .ok (.iload_n 1, 1) := by decide +kernel
theorem dX4_init_96 : decode cX4_init 96 = .ok (.new 25, 3) := by decide +kernel
theorem dX4_init_99 : decode cX4_init 99 = .ok (.dup, 1) := by decide +kernel
theorem dX4_init_100 : decode cX4_init 100 = .ok (.invokespecial 31, 3) := by decide +kernel
theorem dX4_init_103 : decode cX4_init 103 = .ok (.aastore, 1) := by decide +kernel
theorem dX4_init_104 : decode cX4_init 104 = .ok (.iinc 1 1, 3) := by decide +kernel
theorem dX4_init_107 : decode cX4_init 107 = .ok (.goto (-21), 3) := by decide +kernel
theorem dX4_init_110 : decode cX4_init 110 = .ok (.aload_n 0, 1) := by decide +kernel
theorem dX4_init_111 : decode cX4_init 111 = .ok (.invokevirtual 32, 3) := by decide +kernel
theorem dX4_init_114 : decode cX4_init 114 = .ok (.return_, 1) := by decide +kernel
theorem dX4_empty_0 : decode cX4_empty 0 = .ok (.aload_n 0, 1) := by decide +kernel
theorem dX4_empty_1 : decode cX4_empty 1 = .ok (.iconst 0, 1) := by decide +kernel
theorem dX4_empty_2 : decode cX4_empty 2 = .ok (.putfield 35, 3) := by decide +kernel
theorem dX4_empty_5 : decode cX4_empty 5 = .ok (.aload_n 0, 1) := by decide +kernel
theorem dX4_empty_6 : decode cX4_empty 6 = .ok (.iconst 0, 1) := by decide +kernel
theorem dX4_empty_7 : decode cX4_empty 7 = .ok (.putfield 39, 3) := by decide +kernel
theorem dX4_empty_10 : decode cX4_empty 10 = .ok (.aload_n 0, 1) := by decide +kernel
theorem dX4_empty_11 : decode cX4_empty 11 = .ok (.iconst 0, 1) := by decide +kernel
theorem dX4_empty_12 : decode cX4_empty 12 = .ok (.putfield 42, 3) := by decide +kernel
theorem dX4_empty_15 : decode cX4_empty 15 = .ok (.aload_n 0, 1) := by decide +kernel
theorem dX4_empty_16 : decode cX4_empty 16 = .ok (.bipush 100, 2) := by decide +kernel
theorem dX4_empty_18 : decode cX4_empty 18 = .ok (.putfield 45, 3) := by decide +kernel
theorem dX4_empty_21 : decode cX4_empty 21 = .ok (.aload_n 0, 1) := by decide +kernel
theorem dX4_empty_22 : decode cX4_empty 22 = .ok (.bipush 100, 2) := by decide +kernel
theorem dX4_empty_24 : decode cX4_empty 24 = .ok (.putfield 48, 3) := by decide +kernel
theorem dX4_empty_27 : decode cX4_empty 27 = .ok (.return_, 1) := by decide +kernel
theorem dX4_hidersBetween_0 : decode cX4_hidersBetween 0 = .ok (.iconst 0, 1) := by decide +kernel
theorem dX4_hidersBetween_1 : decode cX4_hidersBetween 1 = .ok (.istore 5, 2) := by decide +kernel
theorem dX4_hidersBetween_3 : decode cX4_hidersBetween 3 = .ok (.iconst 0, 1) := by decide +kernel
theorem dX4_hidersBetween_4 : decode cX4_hidersBetween 4 = .ok (.istore 6, 2) := by decide +kernel
theorem dX4_hidersBetween_6 : decode cX4_hidersBetween 6 = .ok (.iload 6, 2) := by decide +kernel
theorem dX4_hidersBetween_8 : decode cX4_hidersBetween 8 = .ok (.aload_n 0, 1) := by decide +kernel
theorem dX4_hidersBetween_9 : decode cX4_hidersBetween 9 = .ok (.getfield 35, 3) := by decide +kernel
theorem dX4_hidersBetween_12 : decode cX4_hidersBetween 12 = .ok (.if_icmp .ge 36, 3) := by decide +kernel
theorem dX4_hidersBetween_15 : decode cX4_hidersBetween 15 = .ok (.aload_n 0, 1) := by decide +kernel
theorem dX4_hidersBetween_16 : decode cX4_hidersBetween 16 = .ok (.getfield 11, 3) := by decide +kernel
theorem dX4_hidersBetween_19 : decode cX4_hidersBetween 19 = .ok (.iload 6, 2) := by decide +kernel
theorem dX4_hidersBetween_21 : decode cX4_hidersBetween 21 = .ok (.aaload, 1) := by decide +kernel
theorem dX4_hidersBetween_22 : decode cX4_hidersBetween 22 = .ok (.iload_n 1, 1) := by decide +kernel
theorem dX4_hidersBetween_23 : decode cX4_hidersBetween 23 = .ok (.iload_n 2, 1) := by decide +kernel
theorem dX4_hidersBetween_24 : decode cX4_hidersBetween 24 = .ok (.iload_n 3, 1) := by decide +kernel
theorem dX4_hidersBetween_25 : decode cX4_hidersBetween 25 = .ok (.iload 4, 2) := by decide +kernel
theorem dX4_hidersBetween_27 : decode cX4_hidersBetween 27 = .ok (.invokevirtual 51, 3) := by decide +kernel
theorem dX4_hidersBetween_30 : decode cX4_hidersBetween 30 = .ok (.ifCond .eq 12, 3) := by decide +kernel
theorem dX4_hidersBetween_33 : decode cX4_hidersBetween 33 = .ok (.iload 5, 2) := by decide +kernel
theorem dX4_hidersBetween_35 : decode cX4_hidersBetween 35 = .ok (.iconst 1, 1) := by decide +kernel
theorem dX4_hidersBetween_36 : decode cX4_hidersBetween 36 = .ok (.iload 6, 2) := by decide +kernel
theorem dX4_hidersBetween_38 : decode cX4_hidersBetween 38 = .ok (.ishl, 1) := by decide +kernel
theorem dX4_hidersBetween_39 : decode cX4_hidersBetween 39 = .ok (.ior, 1) := by decide +kernel
theorem dX4_hidersBetween_40 : decode cX4_hidersBetween 40 = .ok (.istore 5, 2) := by decide +kernel
theorem dX4_hidersBetween_42 : decode cX4_hidersBetween 42 = .ok (.iinc 6 1, 3) := by decide +kernel
theorem dX4_hidersBetween_45 : decode cX4_hidersBetween 45 = .ok (.goto (-39), 3) := by decide +kernel
theorem dX4_hidersBetween_48 : decode cX4_hidersBetween 48 = .ok (.iload 5, 2) := by decide +kernel
theorem dX4_hidersBetween_50 : decode cX4_hidersBetween 50 = .ok (.ireturn, 1) := by decide +kernel
theorem dX4_strengthAlong_0 : decode cX4_strengthAlong 0 = .ok (.sipush 1000, 3) := by decide +kernel
theorem dX4_strengthAlong_3 : decode cX4_strengthAlong 3 = .ok (.bipush 100, 2) := by decide +kernel
theorem dX4_strengthAlong_5 : decode cX4_strengthAlong 5 = .ok (.iload_n 1, 1) := by decide +kernel
theorem dX4_strengthAlong_6 : decode cX4_strengthAlong 6 = .ok (.isub, 1) := by decide +kernel
theorem dX4_strengthAlong_7 : decode cX4_strengthAlong 7 = .ok (.imul, 1) := by decide +kernel
theorem dX4_strengthAlong_8 : decode cX4_strengthAlong 8 = .ok (.bipush 100, 2) := by decide +kernel
theorem dX4_strengthAlong_10 : decode cX4_strengthAlong 10 = .ok (.idiv, 1) := by decide +kernel
theorem dX4_strengthAlong_11 : decode cX4_strengthAlong 11 = .ok (.istore 8, 2) := by decide +kernel
theorem dX4_strengthAlong_13 : decode cX4_strengthAlong 13 = .ok (.iconst 0, 1) := by decide +kernel
theorem dX4_strengthAlong_14 : decode cX4_strengthAlong 14 = .ok (.istore 9, 2) := by decide +kernel
theorem dX4_strengthAlong_16 : decode cX4_strengthAlong 16 = .ok (.iload 9, 2) := by decide +kernel
theorem dX4_strengthAlong_18 : decode cX4_strengthAlong 18 = .ok (.aload_n 0, 1) := by decide +kernel
theorem dX4_strengthAlong_19 : decode cX4_strengthAlong 19 = .ok (.getfield 42, 3) := by decide +kernel
theorem dX4_strengthAlong_22 : decode cX4_strengthAlong 22 = .ok (.if_icmp .ge 68, 3) := by decide +kernel
theorem dX4_strengthAlong_25 : decode cX4_strengthAlong 25 = .ok (.aload_n 0, 1) := by decide +kernel
theorem dX4_strengthAlong_26 : decode cX4_strengthAlong 26 = .ok (.getfield 27, 3) := by decide +kernel
theorem dX4_strengthAlong_29 : decode cX4_strengthAlong 29 = .ok (.iload 9, 2) := by decide +kernel
theorem dX4_strengthAlong_31 : decode cX4_strengthAlong 31 = .ok (.aaload, 1) := by decide +kernel
theorem dX4_strengthAlong_32 : decode cX4_strengthAlong 32 = .ok (.iload_n 2, 1) := by decide +kernel
theorem dX4_strengthAlong_33 : decode cX4_strengthAlong 33 = .ok (.iload_n 3, 1) := by decide +kernel
theorem dX4_strengthAlong_34 : decode cX4_strengthAlong 34 = .ok (.iload 4, 2) := by decide +kernel
theorem dX4_strengthAlong_36 : decode cX4_strengthAlong 36 = .ok (.iload 5, 2) := by decide +kernel
theorem dX4_strengthAlong_38 : decode cX4_strengthAlong 38 = .ok (.invokevirtual 55, 3) := by decide +kernel
theorem dX4_strengthAlong_41 : decode cX4_strengthAlong 41 = .ok (.ifCond .eq 43, 3) := by decide +kernel
theorem dX4_strengthAlong_44 : decode cX4_strengthAlong 44 = .ok (.iconst 0, 1) := by decide +kernel
theorem dX4_strengthAlong_45 : decode cX4_strengthAlong 45 = .ok (.istore 10, 2) := by decide +kernel
theorem dX4_strengthAlong_47 : decode cX4_strengthAlong 47 = .ok (.iload 10, 2) := by decide +kernel
theorem dX4_strengthAlong_49 : decode cX4_strengthAlong 49 = .ok (.iload 7, 2) := by decide +kernel
theorem dX4_strengthAlong_51 : decode cX4_strengthAlong 51 = .ok (.if_icmp .ge 33, 3) := by decide +kernel
theorem dX4_strengthAlong_54 : decode cX4_strengthAlong 54 = .ok (.iload 8, 2) := by decide +kernel
theorem dX4_strengthAlong_56 : decode cX4_strengthAlong 56 = .ok (.bipush 100, 2) := by decide +kernel
theorem dX4_strengthAlong_58 : decode cX4_strengthAlong 58 = .ok (.aload_n 0, 1) := by decide +kernel
theorem dX4_strengthAlong_59 : decode cX4_strengthAlong 59 = .ok (.getfield 27, 3) := by decide +kernel
theorem dX4_strengthAlong_62 : decode cX4_strengthAlong 62 = .ok (.iload 9, 2) := by decide +kernel
theorem dX4_strengthAlong_64 : decode cX4_strengthAlong 64 = .ok (.aaload, 1) := by decide +kernel
theorem dX4_strengthAlong_65 : decode cX4_strengthAlong 65 = .ok (.getfield 58, 3) := by decide +kernel
theorem dX4_strengthAlong_68 : decode cX4_strengthAlong 68 = .ok (.iload 6, 2) := by decide +kernel
theorem dX4_strengthAlong_70 : decode cX4_strengthAlong 70 = .ok (.iaload, 1) := by decide +kernel
theorem dX4_strengthAlong_71 : decode cX4_strengthAlong 71 = .ok (.isub, 1) := by decide +kernel
theorem dX4_strengthAlong_72 : decode cX4_strengthAlong 72 = .ok (.imul, 1) := by decide +kernel
theorem dX4_strengthAlong_73 : decode cX4_strengthAlong 73 = .ok (.bipush 100, 2) := by decide +kernel
theorem dX4_strengthAlong_75 : decode cX4_strengthAlong 75 = .ok (.idiv, 1) := by decide +kernel
theorem dX4_strengthAlong_76 : decode cX4_strengthAlong 76 = .ok (.istore 8, 2) := by decide +kernel
theorem dX4_strengthAlong_78 : decode cX4_strengthAlong 78 = .ok (.iinc 10 1, 3) := by decide +kernel
theorem dX4_strengthAlong_81 : decode cX4_strengthAlong 81 = .ok (.goto (-34), 3) := by decide +kernel
theorem dX4_strengthAlong_84 : decode cX4_strengthAlong 84 = .ok (.iinc 9 1, 3) := by decide +kernel
theorem dX4_strengthAlong_87 : decode cX4_strengthAlong 87 = .ok (.goto (-71), 3) := by decide +kernel
theorem dX4_strengthAlong_90 : decode cX4_strengthAlong 90 = .ok (.iload 8, 2) := by decide +kernel
theorem dX4_strengthAlong_92 : decode cX4_strengthAlong 92 = .ok (.ireturn, 1) := by decide +kernel
theorem dX5_init_0 : decode cX5_init 0 = .ok (.aload_n 0, 1) := by decide +kernel
theorem dX5_init_1 : decode cX5_init 1 = .ok (.invokespecial 5, 3) := by decide +kernel
theorem dX5_init_4 : decode cX5_init 4 = .ok (.aload_n 0, 1) := by decide +kernel
theorem dX5_init_5 : decode cX5_init 5 = .ok (.bipush 82, 2) := by decide +kernel
theorem dX5_init_7 : decode cX5_init 7 = .ok (.newarray .int, 2) := by decide +kernel
theorem dX5_init_9 : decode cX5_init 9 = .ok (.putfield 11, 3) := by decide +kernel
theorem dX5_init_12 : decode cX5_init 12 = .ok (.aload_n 0, 1) := by decide +kernel
theorem dX5_init_13 : decode cX5_init 13 = .ok (.iconst 3, 1) := by decide +kernel
theorem dX5_init_14 : decode cX5_init 14 = .ok (.newarray .int, 2) := by decide +kernel
theorem dX5_init_16 : decode cX5_init 16 = .ok (.putfield 15, 3) := by decide +kernel
theorem dX5_init_19 : decode cX5_init 19 = .ok (.aload_n 0, 1) := by decide +kernel
theorem dX5_init_20 : decode cX5_init 20 = .ok (.iconst 3, 1) := by decide +kernel
theorem dX5_init_21 : decode cX5_init 21 = .ok (.newarray .int, 2) := by decide +kernel
theorem dX5_init_23 : decode cX5_init 23 = .ok (.putfield 18, 3) := by decide +kernel
theorem dX5_init_26 : decode cX5_init 26 = .ok (.return_, 1) := by decide +kernel
theorem dX5_prepare_0 : decode cX5_prepare 0 = .ok (.aload_n 0, 1) := by decide +kernel
theorem dX5_prepare_1 : decode cX5_prepare 1 = .ok (.iload_n 2, 1) := by decide +kernel
theorem dX5_prepare_2 : decode cX5_prepare 2 = .ok (.putfield 21, 3) := by decide +kernel
theorem dX5_prepare_5 : decode cX5_prepare 5 = .ok (.aload_n 0, 1) := by decide +kernel
theorem dX5_prepare_6 : decode cX5_prepare 6 = .ok (.iconst 0, 1) := by decide +kernel
theorem dX5_prepare_7 : decode cX5_prepare 7 = .ok (.putfield 25, 3) := by decide +kernel
theorem dX5_prepare_10 : decode cX5_prepare 10 = .ok (.iconst 0, 1) := by decide +kernel
theorem dX5_prepare_11 : decode cX5_prepare 11 = .ok (.istore_n 3, 1) := by decide +kernel
theorem dX5_prepare_12 : decode cX5_prepare 12 = .ok (.iload_n 3, 1) := by decide +kernel
theorem dX5_prepare_13 : decode cX5_prepare 13 = .ok (.aload_n 1, 1) := by decide +kernel
theorem dX5_prepare_14 : decode cX5_prepare 14 = .ok (.getfield 28, 3) := by decide +kernel
theorem dX5_prepare_17 : decode cX5_prepare 17 = .ok (.if_icmp .ge 23, 3) := by decide +kernel
theorem dX5_prepare_20 : decode cX5_prepare 20 = .ok (.aload_n 1, 1) := by decide +kernel
theorem dX5_prepare_21 : decode cX5_prepare 21 = .ok (.getfield 33, 3) := by decide +kernel
theorem dX5_prepare_24 : decode cX5_prepare 24 = .ok (.iload_n 3, 1) := by decide +kernel
theorem dX5_prepare_25 : decode cX5_prepare 25 = .ok (.aaload, 1) := by decide +kernel
theorem dX5_prepare_26 : decode cX5_prepare 26 = .ok (.getfield 37, 3) := by decide +kernel
theorem dX5_prepare_29 : decode cX5_prepare 29 = .ok (.iconst 3, 1) := by decide +kernel
theorem dX5_prepare_30 : decode cX5_prepare 30 = .ok (.if_icmp .le 4, 3) := by decide +kernel
theorem dX5_prepare_33 : decode cX5_prepare 33 = .ok (.return_, 1) := by decide +kernel
theorem dX5_prepare_34 : decode cX5_prepare 34 = .ok (.iinc 3 1, 3) := by decide +kernel
theorem dX5_prepare_37 : decode cX5_prepare 37 = .ok (.goto (-25), 3) := by decide +kernel
theorem dX5_prepare_40 : decode cX5_prepare 40 = .ok (.iconst 0, 1) := by decide +kernel
theorem dX5_prepare_41 : decode cX5_prepare 41 = .ok (.istore_n 3, 1) := by decide +kernel
theorem dX5_prepare_42 : decode cX5_prepare 42 = .ok (.iload_n 3, 1) := by decide +kernel
theorem dX5_prepare_43 : decode cX5_prepare 43 = .ok (.bipush 82, 2) := by decide +kernel
theorem dX5_prepare_45 : decode cX5_prepare 45 = .ok (.if_icmp .ge 38, 3) := by decide +kernel
theorem dX5_prepare_48 : decode cX5_prepare 48 = .ok (.aload_n 0, 1) := by decide +kernel
theorem dX5_prepare_49 : decode cX5_prepare 49 = .ok (.iload_n 3, 1) := by decide +kernel
theorem dX5_prepare_50 : decode cX5_prepare 50 = .ok (.aload_n 1, 1) := by decide +kernel
theorem dX5_prepare_51 : decode cX5_prepare 51 = .ok (.invokevirtual 42, 3) := by decide +kernel
theorem dX5_prepare_54 : decode cX5_prepare 54 = .ok (.ifCond .eq 23, 3) := by decide +kernel
theorem dX5_prepare_57 : decode cX5_prepare 57 = .ok (.aload_n 0, 1) := by decide +kernel
theorem dX5_prepare_58 : decode cX5_prepare 58 = .ok (.getfield 11, 3) := by decide +kernel
theorem dX5_prepare_61 : decode cX5_prepare 61 = .ok (.aload_n 0, 1) := by decide +kernel
theorem dX5_prepare_62 : decode cX5_prepare 62 = .ok (.getfield 25, 3) := by decide +kernel
theorem dX5_prepare_65 : decode cX5_prepare 65 = .ok (.iload_n 3, 1) := by decide +kernel
theorem dX5_prepare_66 : decode cX5_prepare 66 = .ok (.iastore, 1) := by decide +kernel
theorem dX5_prepare_67 : decode cX5_prepare 67 = .ok (.aload_n 0, 1) := by decide +kernel
theorem dX5_prepare_68 : decode cX5_prepare 68 = .ok (.dup, 1) := by decide +kernel
theorem dX5_prepare_69 : decode cX5_prepare 69 = .ok (.getfield 25, 3) := by decide +kernel
theorem dX5_prepare_72 : decode cX5_prepare 72 = .ok (.iconst 1, 1) := by decide +kernel
theorem dX5_prepare_73 : decode cX5_prepare 73 = .ok (.iadd, 1) := by decide +kernel
theorem dX5_prepare_74 : decode cX5_prepare 74 = .ok (.putfield 25, 3) := by decide +kernel
theorem dX5_prepare_77 : decode cX5_prepare 77 = .ok (.iinc 3 1, 3) := by decide +kernel
theorem dX5_prepare_80 : decode cX5_prepare 80 = .ok (.goto (-38), 3) := by decide +kernel
theorem dX5_prepare_83 : decode cX5_prepare 83 = .ok (.return_, 1) := by decide +kernel
theorem dX5_isAllowed_0 : decode cX5_isAllowed 0 = .ok (.iconst 0, 1) := by decide +kernel
theorem dX5_isAllowed_1 : decode cX5_isAllowed 1 = .ok (.istore_n 3, 1) := by decide +kernel
theorem dX5_isAllowed_2 : decode cX5_isAllowed 2 = .ok (.iload_n 3, 1) := by decide +kernel
theorem dX5_isAllowed_3 : decode cX5_isAllowed 3 = .ok (.aload_n 2, 1) := by decide +kernel
theorem dX5_isAllowed_4 : decode cX5_isAllowed 4 = .ok (.getfield 28, 3) := by decide +kernel
theorem dX5_isAllowed_7 : decode cX5_isAllowed 7 = .ok (.if_icmp .ge 44, 3) := by decide +kernel
theorem dX5_isAllowed_10 : decode cX5_isAllowed 10 = .ok (.aload_n 0, 1) := by decide +kernel
theorem dX5_isAllowed_11 : decode cX5_isAllowed 11 = .ok (.iload_n 1, 1) := by decide +kernel
theorem dX5_isAllowed_12 : decode cX5_isAllowed 12 = .ok (.aload_n 2, 1) := by decide +kernel
theorem dX5_isAllowed_13 : decode cX5_isAllowed 13 = .ok (.getfield 33, 3) := by decide +kernel
theorem dX5_isAllowed_16 : decode cX5_isAllowed 16 = .ok (.iload_n 3, 1) := by decide +kernel
theorem dX5_isAllowed_17 : decode cX5_isAllowed 17 = .ok (.aaload, 1) := by decide +kernel
theorem dX5_isAllowed_18 : decode cX5_isAllowed 18 = .ok (.invokevirtual 46, 3) := by decide +kernel
theorem dX5_isAllowed_21 : decode cX5_isAllowed 21 = .ok (.istore 4, 2) := by decide +kernel
theorem dX5_isAllowed_23 : decode cX5_isAllowed 23 = .ok (.iload 4, 2) := by decide +kernel
theorem dX5_isAllowed_25 : decode cX5_isAllowed 25 = .ok (.iconst (-1), 1) := by decide +kernel
theorem dX5_isAllowed_26 : decode cX5_isAllowed 26 = .ok (.if_icmp .eq 19, 3) := by decide +kernel
theorem dX5_isAllowed_29 : decode cX5_isAllowed 29 = .ok (.iload 4, 2) := by decide +kernel
theorem dX5_isAllowed_31 : decode cX5_isAllowed 31 = .ok (.aload_n 2, 1) := by decide +kernel
theorem dX5_isAllowed_32 : decode cX5_isAllowed 32 = .ok (.getfield 33, 3) := by decide +kernel
theorem dX5_isAllowed_35 : decode cX5_isAllowed 35 = .ok (.iload_n 3, 1) := by decide +kernel
theorem dX5_isAllowed_36 : decode cX5_isAllowed 36 = .ok (.aaload, 1) := by decide +kernel
theorem dX5_isAllowed_37 : decode cX5_isAllowed 37 = .ok (.invokestatic 50, 3) := by decide +kernel
theorem dX5_isAllowed_40 : decode cX5_isAllowed 40 = .ok (.ifCond .ne 5, 3) := by decide +kernel
theorem dX5_isAllowed_43 : decode cX5_isAllowed 43 = .ok (.iconst 0, 1) := by decide +kernel
theorem dX5_isAllowed_44 : decode cX5_isAllowed 44 = .ok (.ireturn, 1) := by decide +kernel
theorem dX5_isAllowed_45 : decode cX5_isAllowed 45 = .ok (.iinc 3 1, 3) := by decide +kernel
theorem dX5_isAllowed_48 : decode cX5_isAllowed 48 = .ok (.goto (-46), 3) := by decide +kernel
theorem dX5_isAllowed_51 : decode cX5_isAllowed 51 = .ok (.iconst 1, 1) := by decide +kernel
theorem dX5_isAllowed_52 : decode cX5_isAllowed 52 = .ok (.ireturn, 1) := by decide +kernel
theorem dX5_isWritten_0 : decode cX5_isWritten 0 = .ok (.iconst 0, 1) := by decide +kernel
theorem dX5_isWritten_1 : decode cX5_isWritten 1 = .ok (.istore_n 2, 1) := by decide +kernel
theorem dX5_isWritten_2 : decode cX5_isWritten 2 = .ok (.iload_n 2, 1) := by decide +kernel
theorem dX5_isWritten_3 : decode cX5_isWritten 3 = .ok (.aload_n 1, 1) := by decide +kernel
theorem dX5_isWritten_4 : decode cX5_isWritten 4 = .ok (.getfield 37, 3) := by decide +kernel
theorem dX5_isWritten_7 : decode cX5_isWritten 7 = .ok (.if_icmp .ge 21, 3) := by decide +kernel
theorem dX5_isWritten_10 : decode cX5_isWritten 10 = .ok (.aload_n 1, 1) := by decide +kernel
theorem dX5_isWritten_11 : decode cX5_isWritten 11 = .ok (.getfield 54, 3) := by decide +kernel
theorem dX5_isWritten_14 : decode cX5_isWritten 14 = .ok (.iload_n 2, 1) := by decide +kernel
theorem dX5_isWritten_15 : decode cX5_isWritten 15 = .ok (.iaload, 1) := by decide +kernel
theorem dX5_isWritten_16 : decode cX5_isWritten 16 = .ok (.iload_n 0, 1) := by decide +kernel
theorem dX5_isWritten_17 : decode cX5_isWritten 17 = .ok (.if_icmp .ne 5, 3) := by decide +kernel
theorem dX5_isWritten_20 : decode cX5_isWritten 20 = .ok (.iconst 1, 1) := by decide +kernel
theorem dX5_isWritten_21 : decode cX5_isWritten 21 = .ok (.ireturn, 1) := by decide +kernel
theorem dX5_isWritten_22 : decode cX5_isWritten 22 = .ok (.iinc 2 1, 3) := by decide +kernel
theorem dX5_isWritten_25 : decode cX5_isWritten 25 = .ok (.goto (-23), 3) := by decide +kernel
theorem dX5_isWritten_28 : decode cX5_isWritten 28 = .ok (.iconst 0, 1) := by decide +kernel
theorem dX5_isWritten_29 : decode cX5_isWritten 29 = .ok (.ireturn, 1) := by decide +kernel
theorem dX5_tickOf_0 : decode cX5_tickOf 0 = .ok (.iload_n 1, 1) := by decide +kernel
theorem dX5_tickOf_1 : decode cX5_tickOf 1 = .ok (.bipush 41, 2) := by decide +kernel
theorem dX5_tickOf_3 : decode cX5_tickOf 3 = .ok (.if_icmp .ge 12, 3) := by decide +kernel
theorem dX5_tickOf_6 : decode cX5_tickOf 6 = .ok (.aload_n 2, 1) := by decide +kernel
theorem dX5_tickOf_7 : decode cX5_tickOf 7 = .ok (.getfield 57, 3) := by decide +kernel
theorem dX5_tickOf_10 : decode cX5_tickOf 10 = .ok (.iload_n 1, 1) := by decide +kernel
theorem dX5_tickOf_11 : decode cX5_tickOf 11 = .ok (.isub, 1) := by decide +kernel
theorem dX5_tickOf_12 : decode cX5_tickOf 12 = .ok (.goto 12, 3) := by decide +kernel
theorem dX5_tickOf_15 : decode cX5_tickOf 15 = .ok (.aload_n 2, 1) := by decide +kernel
theorem dX5_tickOf_16 : decode cX5_tickOf 16 = .ok (.getfield 60, 3) := by decide +kernel
theorem dX5_tickOf_19 : decode cX5_tickOf 19 = .ok (.iload_n 1, 1) := by decide +kernel
theorem dX5_tickOf_20 : decode cX5_tickOf 20 = .ok (.bipush 41, 2) := by decide +kernel
theorem dX5_tickOf_22 : decode cX5_tickOf 22 = .ok (.isub, 1) := by decide +kernel
theorem dX5_tickOf_23 : decode cX5_tickOf 23 = .ok (.isub, 1) := by decide +kernel
theorem dX5_tickOf_24 : decode cX5_tickOf 24 = .ok (.invokestatic 63, 3) := by decide +kernel
theorem dX5_tickOf_27 : decode cX5_tickOf 27 = .ok (.istore_n 3, 1) := by decide +kernel
theorem dX5_tickOf_28 : decode cX5_tickOf 28 = .ok (.iload_n 3, 1) := by decide +kernel
theorem dX5_tickOf_29 : decode cX5_tickOf 29 = .ok (.ifCond .ne 7, 3) := by decide +kernel
theorem dX5_tickOf_32 : decode cX5_tickOf 32 = .ok (.iconst (-1), 1) := by decide +kernel
theorem dX5_tickOf_33 : decode cX5_tickOf 33 = .ok (.goto 18, 3) := by decide +kernel
theorem dX5_tickOf_36 : decode cX5_tickOf 36 = .ok (.iconst 4, 1) := by decide +kernel
theorem dX5_tickOf_37 : decode cX5_tickOf 37 = .ok (.iload_n 3, 1) := by decide +kernel
theorem dX5_tickOf_38 : decode cX5_tickOf 38 = .ok (.imul, 1) := by decide +kernel
theorem dX5_tickOf_39 : decode cX5_tickOf 39 = .ok (.iload_n 3, 1) := by decide +kernel
theorem dX5_tickOf_40 : decode cX5_tickOf 40 = .ok (.imul, 1) := by decide +kernel
theorem dX5_tickOf_41 : decode cX5_tickOf 41 = .ok (.invokestatic 69, 3) := by decide +kernel
theorem dX5_tickOf_44 : decode cX5_tickOf 44 = .ok (.aload_n 0, 1) := by decide +kernel
theorem dX5_tickOf_45 : decode cX5_tickOf 45 = .ok (.getfield 21, 3) := by decide +kernel
theorem dX5_tickOf_48 : decode cX5_tickOf 48 = .ok (.invokestatic 72, 3) := by decide +kernel
theorem dX5_tickOf_51 : decode cX5_tickOf 51 = .ok (.ireturn, 1) := by decide +kernel
theorem dX5_search_0 : decode cX5_search 0 = .ok (.aload_n 0, 1) := by decide +kernel
theorem dX5_search_1 : decode cX5_search 1 = .ok (.iload_n 2, 1) := by decide +kernel
theorem dX5_search_2 : decode cX5_search 2 = .ok (.putfield 76, 3) := by decide +kernel
theorem dX5_search_5 : decode cX5_search 5 = .ok (.aload_n 0, 1) := by decide +kernel
theorem dX5_search_6 : decode cX5_search 6 = .ok (.iconst 0, 1) := by decide +kernel
theorem dX5_search_7 : decode cX5_search 7 = .ok (.putfield 79, 3) := by decide +kernel
theorem dX5_search_10 : decode cX5_search 10 = .ok (.aload_n 0, 1) := by decide +kernel
theorem dX5_search_11 : decode cX5_search 11 = .ok (.iconst (-1), 1) := by decide +kernel
theorem dX5_search_12 : decode cX5_search 12 = .ok (.putfield 82, 3) := by decide +kernel
theorem dX5_search_15 : decode cX5_search 15 = .ok (.aload_n 0, 1) := by decide +kernel
theorem dX5_search_16 : decode cX5_search 16 = .ok (.aload_n 1, 1) := by decide +kernel
theorem dX5_search_17 : decode cX5_search 17 = .ok (.iconst (-1), 1) := by decide +kernel
theorem dX5_search_18 : decode cX5_search 18 = .ok (.iconst (-1), 1) := by decide +kernel
theorem dX5_search_19 : decode cX5_search 19 = .ok (.iconst (-1), 1) := by decide +kernel
theorem dX5_search_20 : decode cX5_search 20 = .ok (.invokevirtual 85, 3) := by decide +kernel
theorem dX5_search_23 : decode cX5_search 23 = .ok (.iconst 0, 1) := by decide +kernel
theorem dX5_search_24 : decode cX5_search 24 = .ok (.istore_n 3, 1) := by decide +kernel
theorem dX5_search_25 : decode cX5_search 25 = .ok (.iload_n 3, 1) := by decide +kernel
theorem dX5_search_26 : decode cX5_search 26 = .ok (.aload_n 0, 1) := by decide +kernel
theorem dX5_search_27 : decode cX5_search 27 = .ok (.getfield 25, 3) := by decide +kernel
theorem dX5_search_30 : decode cX5_search 30 = .ok (.if_icmp .ge 22, 3) := by decide +kernel
theorem dX5_search_33 : decode cX5_search 33 = .ok (.aload_n 0, 1) := by decide +kernel
theorem dX5_search_34 : decode cX5_search 34 = .ok (.aload_n 1, 1) := by decide +kernel
theorem dX5_search_35 : decode cX5_search 35 = .ok (.aload_n 0, 1) := by decide +kernel
theorem dX5_search_36 : decode cX5_search 36 = .ok (.getfield 11, 3) := by decide +kernel
theorem dX5_search_39 : decode cX5_search 39 = .ok (.iload_n 3, 1) := by decide +kernel
theorem dX5_search_40 : decode cX5_search 40 = .ok (.iaload, 1) := by decide +kernel
theorem dX5_search_41 : decode cX5_search 41 = .ok (.iconst (-1), 1) := by decide +kernel
theorem dX5_search_42 : decode cX5_search 42 = .ok (.iconst (-1), 1) := by decide +kernel
theorem dX5_search_43 : decode cX5_search 43 = .ok (.invokevirtual 85, 3) := by decide +kernel
theorem dX5_search_46 : decode cX5_search 46 = .ok (.iinc 3 1, 3) := by decide +kernel
theorem dX5_search_49 : decode cX5_search 49 = .ok (.goto (-24), 3) := by decide +kernel
theorem dX5_search_52 : decode cX5_search 52 = .ok (.iconst 0, 1) := by decide +kernel
theorem dX5_search_53 : decode cX5_search 53 = .ok (.istore_n 3, 1) := by decide +kernel
theorem dX5_search_54 : decode cX5_search 54 = .ok (.iload_n 3, 1) := by decide +kernel
theorem dX5_search_55 : decode cX5_search 55 = .ok (.aload_n 0, 1) := by decide +kernel
theorem dX5_search_56 : decode cX5_search 56 = .ok (.getfield 25, 3) := by decide +kernel
theorem dX5_search_59 : decode cX5_search 59 = .ok (.if_icmp .ge 48, 3) := by decide +kernel
theorem dX5_search_62 : decode cX5_search 62 = .ok (.iload_n 3, 1) := by decide +kernel
theorem dX5_search_63 : decode cX5_search 63 = .ok (.iconst 1, 1) := by decide +kernel
theorem dX5_search_64 : decode cX5_search 64 = .ok (.iadd, 1) := by decide +kernel
theorem dX5_search_65 : decode cX5_search 65 = .ok (.istore 4, 2) := by decide +kernel
theorem dX5_search_67 : decode cX5_search 67 = .ok (.iload 4, 2) := by decide +kernel
theorem dX5_search_69 : decode cX5_search 69 = .ok (.aload_n 0, 1) := by decide +kernel
theorem dX5_search_70 : decode cX5_search 70 = .ok (.getfield 25, 3) := by decide +kernel
theorem dX5_search_73 : decode cX5_search 73 = .ok (.if_icmp .ge 28, 3) := by decide +kernel
theorem dX5_search_76 : decode cX5_search 76 = .ok (.aload_n 0, 1) := by decide +kernel
theorem dX5_search_77 : decode cX5_search 77 = .ok (.aload_n 1, 1) := by decide +kernel
theorem dX5_search_78 : decode cX5_search 78 = .ok (.aload_n 0, 1) := by decide +kernel
theorem dX5_search_79 : decode cX5_search 79 = .ok (.getfield 11, 3) := by decide +kernel
theorem dX5_search_82 : decode cX5_search 82 = .ok (.iload_n 3, 1) := by decide +kernel
theorem dX5_search_83 : decode cX5_search 83 = .ok (.iaload, 1) := by decide +kernel
theorem dX5_search_84 : decode cX5_search 84 = .ok (.aload_n 0, 1) := by decide +kernel
theorem dX5_search_85 : decode cX5_search 85 = .ok (.getfield 11, 3) := by decide +kernel
theorem dX5_search_88 : decode cX5_search 88 = .ok (.iload 4, 2) := by decide +kernel
theorem dX5_search_90 : decode cX5_search 90 = .ok (.iaload, 1) := by decide +kernel
theorem dX5_search_91 : decode cX5_search 91 = .ok (.iconst (-1), 1) := by decide +kernel
theorem dX5_search_92 : decode cX5_search 92 = .ok (.invokevirtual 85, 3) := by decide +kernel
theorem dX5_search_95 : decode cX5_search 95 = .ok (.iinc 4 1, 3) := by decide +kernel
theorem dX5_search_98 : decode cX5_search 98 = .ok (.goto (-31), 3) := by decide +kernel
theorem dX5_search_101 : decode cX5_search 101 = .ok (.iinc 3 1, 3) := by decide +kernel
theorem dX5_search_104 : decode cX5_search 104 = .ok (.goto (-50), 3) := by decide +kernel
theorem dX5_search_107 : decode cX5_search 107 = .ok (.iconst 0, 1) := by decide +kernel
theorem dX5_search_108 : decode cX5_search 108 = .ok (.istore_n 3, 1) := by decide +kernel
theorem dX5_search_109 : decode cX5_search 109 = .ok (.iload_n 3, 1) := by decide +kernel
theorem dX5_search_110 : decode cX5_search 110 = .ok (.aload_n 0, 1) := by decide +kernel
theorem dX5_search_111 : decode cX5_search 111 = .ok (.getfield 25, 3) := by decide +kernel
theorem dX5_search_114 : decode cX5_search 114 = .ok (.if_icmp .ge 75, 3) := by decide +kernel
theorem dX5_search_117 : decode cX5_search 117 = .ok (.iload_n 3, 1) := by decide +kernel
theorem dX5_search_118 : decode cX5_search 118 = .ok (.iconst 1, 1) := by decide +kernel
theorem dX5_search_119 : decode cX5_search 119 = .ok (.iadd, 1) := by decide +kernel
theorem dX5_search_120 : decode cX5_search 120 = .ok (.istore 4, 2) := by decide +kernel
theorem dX5_search_122 : decode cX5_search 122 = .ok (.iload 4, 2) := by decide +kernel
theorem dX5_search_124 : decode cX5_search 124 = .ok (.aload_n 0, 1) := by decide +kernel
theorem dX5_search_125 : decode cX5_search 125 = .ok (.getfield 25, 3) := by decide +kernel
theorem dX5_search_128 : decode cX5_search 128 = .ok (.if_icmp .ge 55, 3) := by decide +kernel
theorem dX5_search_131 : decode cX5_search 131 = .ok (.iload 4, 2) := by decide +kernel
theorem dX5_search_133 : decode cX5_search 133 = .ok (.iconst 1, 1) := by decide +kernel
theorem dX5_search_134 : decode cX5_search 134 = .ok (.iadd, 1) := by decide +kernel
theorem dX5_search_135 : decode cX5_search 135 = .ok (.istore 5, 2) := by decide +kernel
theorem dX5_search_137 : decode cX5_search 137 = .ok (.iload 5, 2) := by decide +kernel
theorem dX5_search_139 : decode cX5_search 139 = .ok (.aload_n 0, 1) := by decide +kernel
theorem dX5_search_140 : decode cX5_search 140 = .ok (.getfield 25, 3) := by decide +kernel
theorem dX5_search_143 : decode cX5_search 143 = .ok (.if_icmp .ge 34, 3) := by decide +kernel
theorem dX5_search_146 : decode cX5_search 146 = .ok (.aload_n 0, 1) := by decide +kernel
theorem dX5_search_147 : decode cX5_search 147 = .ok (.aload_n 1, 1) := by decide +kernel
theorem dX5_search_148 : decode cX5_search 148 = .ok (.aload_n 0, 1) := by decide +kernel
theorem dX5_search_149 : decode cX5_search 149 = .ok (.getfield 11, 3) := by decide +kernel
theorem dX5_search_152 : decode cX5_search 152 = .ok (.iload_n 3, 1) := by decide +kernel
theorem dX5_search_153 : decode cX5_search 153 = .ok (.iaload, 1) := by decide +kernel
theorem dX5_search_154 : decode cX5_search 154 = .ok (.aload_n 0, 1) := by decide +kernel
theorem dX5_search_155 : decode cX5_search 155 = .ok (.getfield 11, 3) := by decide +kernel
theorem dX5_search_158 : decode cX5_search 158 = .ok (.iload 4, 2) := by decide +kernel
theorem dX5_search_160 : decode cX5_search 160 = .ok (.iaload, 1) := by decide +kernel
theorem dX5_search_161 : decode cX5_search 161 = .ok (.aload_n 0, 1) := by decide +kernel
theorem dX5_search_162 : decode cX5_search 162 = .ok (.getfield 11, 3) := by decide +kernel
theorem dX5_search_165 : decode cX5_search 165 = .ok (.iload 5, 2) := by decide +kernel
theorem dX5_search_167 : decode cX5_search 167 = .ok (.iaload, 1) := by decide +kernel
theorem dX5_search_168 : decode cX5_search 168 = .ok (.invokevirtual 85, 3) := by decide +kernel
theorem dX5_search_171 : decode cX5_search 171 = .ok (.iinc 5 1, 3) := by decide +kernel
theorem dX5_search_174 : decode cX5_search 174 = .ok (.goto (-37), 3) := by decide +kernel
theorem dX5_search_177 : decode cX5_search 177 = .ok (.iinc 4 1, 3) := by decide +kernel
theorem dX5_search_180 : decode cX5_search 180 = .ok (.goto (-58), 3) := by decide +kernel
theorem dX5_search_183 : decode cX5_search 183 = .ok (.iinc 3 1, 3) := by decide +kernel
theorem dX5_search_186 : decode cX5_search 186 = .ok (.goto (-77), 3) := by decide +kernel
theorem dX5_search_189 : decode cX5_search 189 = .ok (.aload_n 0, 1) := by decide +kernel
theorem dX5_search_190 : decode cX5_search 190 = .ok (.getfield 76, 3) := by decide +kernel
theorem dX5_search_193 : decode cX5_search 193 = .ok (.iconst (-1), 1) := by decide +kernel
theorem dX5_search_194 : decode cX5_search 194 = .ok (.if_icmp .ne 10, 3) := by decide +kernel
theorem dX5_search_197 : decode cX5_search 197 = .ok (.aload_n 0, 1) := by decide +kernel
theorem dX5_search_198 : decode cX5_search 198 = .ok (.getfield 79, 3) := by decide +kernel
theorem dX5_search_201 : decode cX5_search 201 = .ok (.goto 7, 3) := by decide +kernel
theorem dX5_search_204 : decode cX5_search 204 = .ok (.aload_n 0, 1) := by decide +kernel
theorem dX5_search_205 : decode cX5_search 205 = .ok (.getfield 82, 3) := by decide +kernel
theorem dX5_search_208 : decode cX5_search 208 = .ok (.ireturn, 1) := by decide +kernel
theorem dX5_tryPlan_0 : decode cX5_tryPlan 0 = .ok (.aload_n 0, 1) := by decide +kernel
theorem dX5_tryPlan_1 : decode cX5_tryPlan 1 = .ok (.getfield 15, 3) := by decide +kernel
theorem dX5_tryPlan_4 : decode cX5_tryPlan 4 = .ok (.iconst 0, 1) := by decide +kernel
theorem dX5_tryPlan_5 : decode cX5_tryPlan 5 = .ok (.iload_n 2, 1) := by decide +kernel
theorem dX5_tryPlan_6 : decode cX5_tryPlan 6 = .ok (.iastore, 1) := by decide +kernel
theorem dX5_tryPlan_7 : decode cX5_tryPlan 7 = .ok (.aload_n 0, 1) := by decide +kernel
theorem dX5_tryPlan_8 : decode cX5_tryPlan 8 = .ok (.getfield 15, 3) := by decide +kernel
theorem dX5_tryPlan_11 : decode cX5_tryPlan 11 = .ok (.iconst 1, 1) := by decide +kernel
theorem dX5_tryPlan_12 : decode cX5_tryPlan 12 = .ok (.iload_n 3, 1) := by decide +kernel
theorem dX5_tryPlan_13 : decode cX5_tryPlan 13 = .ok (.iastore, 1) := by decide +kernel
theorem dX5_tryPlan_14 : decode cX5_tryPlan 14 = .ok (.aload_n 0, 1) := by decide +kernel
theorem dX5_tryPlan_15 : decode cX5_tryPlan 15 = .ok (.getfield 15, 3) := by decide +kernel
theorem dX5_tryPlan_18 : decode cX5_tryPlan 18 = .ok (.iconst 2, 1) := by decide +kernel
theorem dX5_tryPlan_19 : decode cX5_tryPlan 19 = .ok (.iload 4, 2) := by decide +kernel
theorem dX5_tryPlan_21 : decode cX5_tryPlan 21 = .ok (.iastore, 1) := by decide +kernel
theorem dX5_tryPlan_22 : decode cX5_tryPlan 22 = .ok (.iconst 0, 1) := by decide +kernel
theorem dX5_tryPlan_23 : decode cX5_tryPlan 23 = .ok (.istore 5, 2) := by decide +kernel
theorem dX5_tryPlan_25 : decode cX5_tryPlan 25 = .ok (.iload 5, 2) := by decide +kernel
theorem dX5_tryPlan_27 : decode cX5_tryPlan 27 = .ok (.aload_n 1, 1) := by decide +kernel
theorem dX5_tryPlan_28 : decode cX5_tryPlan 28 = .ok (.getfield 28, 3) := by decide +kernel
theorem dX5_tryPlan_31 : decode cX5_tryPlan 31 = .ok (.if_icmp .ge 24, 3) := by decide +kernel
theorem dX5_tryPlan_34 : decode cX5_tryPlan 34 = .ok (.aload_n 0, 1) := by decide +kernel
theorem dX5_tryPlan_35 : decode cX5_tryPlan 35 = .ok (.aload_n 1, 1) := by decide +kernel
theorem dX5_tryPlan_36 : decode cX5_tryPlan 36 = .ok (.getfield 33, 3) := by decide +kernel
theorem dX5_tryPlan_39 : decode cX5_tryPlan 39 = .ok (.iload 5, 2) := by decide +kernel
theorem dX5_tryPlan_41 : decode cX5_tryPlan 41 = .ok (.aaload, 1) := by decide +kernel
theorem dX5_tryPlan_42 : decode cX5_tryPlan 42 = .ok (.invokevirtual 89, 3) := by decide +kernel
theorem dX5_tryPlan_45 : decode cX5_tryPlan 45 = .ok (.ifCond .ne 4, 3) := by decide +kernel
theorem dX5_tryPlan_48 : decode cX5_tryPlan 48 = .ok (.return_, 1) := by decide +kernel
theorem dX5_tryPlan_49 : decode cX5_tryPlan 49 = .ok (.iinc 5 1, 3) := by decide +kernel
theorem dX5_tryPlan_52 : decode cX5_tryPlan 52 = .ok (.goto (-27), 3) := by decide +kernel
theorem dX5_tryPlan_55 : decode cX5_tryPlan 55 = .ok (.aload_n 0, 1) := by decide +kernel
theorem dX5_tryPlan_56 : decode cX5_tryPlan 56 = .ok (.getfield 79, 3) := by decide +kernel
theorem dX5_tryPlan_59 : decode cX5_tryPlan 59 = .ok (.aload_n 0, 1) := by decide +kernel
theorem dX5_tryPlan_60 : decode cX5_tryPlan 60 = .ok (.getfield 76, 3) := by decide +kernel
theorem dX5_tryPlan_63 : decode cX5_tryPlan 63 = .ok (.if_icmp .ne 26, 3) := by decide +kernel
theorem dX5_tryPlan_66 : decode cX5_tryPlan 66 = .ok (.aload_n 0, 1) := by decide +kernel
theorem dX5_tryPlan_67 : decode cX5_tryPlan 67 = .ok (.sipush 6889, 3) := by decide +kernel
theorem dX5_tryPlan_70 : decode cX5_tryPlan 70 = .ok (.iload_n 2, 1) := by decide +kernel
theorem dX5_tryPlan_71 : decode cX5_tryPlan 71 = .ok (.iconst 1, 1) := by decide +kernel
theorem dX5_tryPlan_72 : decode cX5_tryPlan 72 = .ok (.iadd, 1) := by decide +kernel
theorem dX5_tryPlan_73 : decode cX5_tryPlan 73 = .ok (.imul, 1) := by decide +kernel
theorem dX5_tryPlan_74 : decode cX5_tryPlan 74 = .ok (.bipush 83, 2) := by decide +kernel
theorem dX5_tryPlan_76 : decode cX5_tryPlan 76 = .ok (.iload_n 3, 1) := by decide +kernel
theorem dX5_tryPlan_77 : decode cX5_tryPlan 77 = .ok (.iconst 1, 1) := by decide +kernel
theorem dX5_tryPlan_78 : decode cX5_tryPlan 78 = .ok (.iadd, 1) := by decide +kernel
theorem dX5_tryPlan_79 : decode cX5_tryPlan 79 = .ok (.imul, 1) := by decide +kernel
theorem dX5_tryPlan_80 : decode cX5_tryPlan 80 = .ok (.iadd, 1) := by decide +kernel
theorem dX5_tryPlan_81 : decode cX5_tryPlan 81 = .ok (.iload 4, 2) := by decide +kernel
theorem dX5_tryPlan_83 : decode cX5_tryPlan 83 = .ok (.iadd, 1) := by decide +kernel
theorem dX5_tryPlan_84 : decode cX5_tryPlan 84 = .ok (.iconst 1, 1) := by decide +kernel
theorem dX5_tryPlan_85 : decode cX5_tryPlan 85 = .ok (.iadd, 1) := by decide +kernel
theorem dX5_tryPlan_86 : decode cX5_tryPlan 86 = .ok (.putfield 82, 3) := by decide +kernel
theorem dX5_tryPlan_89 : decode cX5_tryPlan 89 = .ok (.aload_n 0, 1) := by decide +kernel
theorem dX5_tryPlan_90 : decode cX5_tryPlan 90 = .ok (.dup, 1) := by decide +kernel
theorem dX5_tryPlan_91 : decode cX5_tryPlan 91 = .ok (.getfield 79, 3) := by decide +kernel
theorem dX5_tryPlan_94 : decode cX5_tryPlan 94 = .ok (.iconst 1, 1) := by decide +kernel
theorem dX5_tryPlan_95 : decode cX5_tryPlan 95 = .ok (.iadd, 1) := by decide +kernel
theorem dX5_tryPlan_96 : decode cX5_tryPlan 96 = .ok (.putfield 79, 3) := by decide +kernel
theorem dX5_tryPlan_99 : decode cX5_tryPlan 99 = .ok (.return_, 1) := by decide +kernel
theorem dX5_agrees_0 : decode cX5_agrees 0 = .ok (.iconst 0, 1) := by decide +kernel
theorem dX5_agrees_1 : decode cX5_agrees 1 = .ok (.istore_n 2, 1) := by decide +kernel
theorem dX5_agrees_2 : decode cX5_agrees 2 = .ok (.iconst 0, 1) := by decide +kernel
theorem dX5_agrees_3 : decode cX5_agrees 3 = .ok (.istore_n 3, 1) := by decide +kernel
theorem dX5_agrees_4 : decode cX5_agrees 4 = .ok (.iload_n 3, 1) := by decide +kernel
theorem dX5_agrees_5 : decode cX5_agrees 5 = .ok (.iconst 3, 1) := by decide +kernel
theorem dX5_agrees_6 : decode cX5_agrees 6 = .ok (.if_icmp .ge 55, 3) := by decide +kernel
theorem dX5_agrees_9 : decode cX5_agrees 9 = .ok (.aload_n 0, 1) := by decide +kernel
theorem dX5_agrees_10 : decode cX5_agrees 10 = .ok (.getfield 15, 3) := by decide +kernel
theorem dX5_agrees_13 : decode cX5_agrees 13 = .ok (.iload_n 3, 1) := by decide +kernel
theorem dX5_agrees_14 : decode cX5_agrees 14 = .ok (.iaload, 1) := by decide +kernel
theorem dX5_agrees_15 : decode cX5_agrees 15 = .ok (.iconst (-1), 1) := by decide +kernel
theorem dX5_agrees_16 : decode cX5_agrees 16 = .ok (.if_icmp .ne 7, 3) := by decide +kernel
theorem dX5_agrees_19 : decode cX5_agrees 19 = .ok (.iconst (-1), 1) := by decide +kernel
theorem dX5_agrees_20 : decode cX5_agrees 20 = .ok (.goto 14, 3) := by decide +kernel
theorem dX5_agrees_23 : decode cX5_agrees 23 = .ok (.aload_n 0, 1) := by decide +kernel
theorem dX5_agrees_24 : decode cX5_agrees 24 = .ok (.aload_n 0, 1) := by decide +kernel
theorem dX5_agrees_25 : decode cX5_agrees 25 = .ok (.getfield 15, 3) := by decide +kernel
theorem dX5_agrees_28 : decode cX5_agrees 28 = .ok (.iload_n 3, 1) := by decide +kernel
theorem dX5_agrees_29 : decode cX5_agrees 29 = .ok (.iaload, 1) := by decide +kernel
theorem dX5_agrees_30 : decode cX5_agrees 30 = .ok (.aload_n 1, 1) := by decide +kernel
theorem dX5_agrees_31 : decode cX5_agrees 31 = .ok (.invokevirtual 46, 3) := by decide +kernel
theorem dX5_agrees_34 : decode cX5_agrees 34 = .ok (.istore 4, 2) := by decide +kernel
theorem dX5_agrees_36 : decode cX5_agrees 36 = .ok (.iload 4, 2) := by decide +kernel
theorem dX5_agrees_38 : decode cX5_agrees 38 = .ok (.iconst (-1), 1) := by decide +kernel
theorem dX5_agrees_39 : decode cX5_agrees 39 = .ok (.if_icmp .eq 16, 3) := by decide +kernel
theorem dX5_agrees_42 : decode cX5_agrees 42 = .ok (.aload_n 0, 1) := by decide +kernel
theorem dX5_agrees_43 : decode cX5_agrees 43 = .ok (.getfield 18, 3) := by decide +kernel
theorem dX5_agrees_46 : decode cX5_agrees 46 = .ok (.iload_n 2, 1) := by decide +kernel
theorem dX5_agrees_47 : decode cX5_agrees 47 = .ok (.iload 4, 2) := by decide +kernel
theorem dX5_agrees_49 : decode cX5_agrees 49 = .ok (.invokestatic 93, 3) := by decide +kernel
theorem dX5_agrees_52 : decode cX5_agrees 52 = .ok (.iinc 2 1, 3) := by decide +kernel
theorem dX5_agrees_55 : decode cX5_agrees 55 = .ok (.iinc 3 1, 3) := by decide +kernel
theorem dX5_agrees_58 : decode cX5_agrees 58 = .ok (.goto (-54), 3) := by decide +kernel
theorem dX5_agrees_61 : decode cX5_agrees 61 = .ok (.iload_n 2, 1) := by decide +kernel
theorem dX5_agrees_62 : decode cX5_agrees 62 = .ok (.aload_n 1, 1) := by decide +kernel
theorem dX5_agrees_63 : decode cX5_agrees 63 = .ok (.getfield 37, 3) := by decide +kernel
theorem dX5_agrees_66 : decode cX5_agrees 66 = .ok (.if_icmp .ne 22, 3) := by decide +kernel
theorem dX5_agrees_69 : decode cX5_agrees 69 = .ok (.aload_n 0, 1) := by decide +kernel
theorem dX5_agrees_70 : decode cX5_agrees 70 = .ok (.getfield 18, 3) := by decide +kernel
theorem dX5_agrees_73 : decode cX5_agrees 73 = .ok (.aload_n 1, 1) := by decide +kernel
theorem dX5_agrees_74 : decode cX5_agrees 74 = .ok (.getfield 97, 3) := by decide +kernel
theorem dX5_agrees_77 : decode cX5_agrees 77 = .ok (.iload_n 2, 1) := by decide +kernel
theorem dX5_agrees_78 : decode cX5_agrees 78 = .ok (.invokestatic 100, 3) := by decide +kernel
theorem dX5_agrees_81 : decode cX5_agrees 81 = .ok (.ifCond .eq 7, 3) := by decide +kernel
theorem dX5_agrees_84 : decode cX5_agrees 84 = .ok (.iconst 1, 1) := by decide +kernel
theorem dX5_agrees_85 : decode cX5_agrees 85 = .ok (.goto 4, 3) := by decide +kernel
theorem dX5_agrees_88 : decode cX5_agrees 88 = .ok (.iconst 0, 1) := by decide +kernel
theorem dX5_agrees_89 : decode cX5_agrees 89 = .ok (.ireturn, 1) := by decide +kernel
theorem dX6_init_0 : decode cX6_init 0 = .ok (.aload_n 0, 1) := by decide +kernel
theorem dX6_init_1 : decode cX6_init 1 = .ok (.invokespecial 3, 3) := by decide +kernel
theorem dX6_init_4 : decode cX6_init 4 = .ok (.aload_n 0, 1) := by decide +kernel
theorem dX6_init_5 : decode cX6_init 5 = .ok (.bipush 6, 2) := by decide +kernel
theorem dX6_init_7 : decode cX6_init 7 = .ok (.newarray .int, 2) := by decide +kernel
theorem dX6_init_9 : decode cX6_init 9 = .ok (.putfield 9, 3) := by decide +kernel
theorem dX6_init_12 : decode cX6_init 12 = .ok (.aload_n 0, 1) := by decide +kernel
theorem dX6_init_13 : decode cX6_init 13 = .ok (.bipush 6, 2) := by decide +kernel
theorem dX6_init_15 : decode cX6_init 15 = .ok (.newarray .int, 2) := by decide +kernel
theorem dX6_init_17 : decode cX6_init 17 = .ok (.putfield 15, 3) := by decide +kernel
theorem dX6_init_20 : decode cX6_init 20 = .ok (.aload_n 0, 1) := by decide +kernel
theorem dX6_init_21 : decode cX6_init 21 = .ok (.bipush 6, 2) := by decide +kernel
theorem dX6_init_23 : decode cX6_init 23 = .ok (.newarray .int, 2) := by decide +kernel
theorem dX6_init_25 : decode cX6_init 25 = .ok (.putfield 18, 3) := by decide +kernel
theorem dX6_init_28 : decode cX6_init 28 = .ok (.aload_n 0, 1) := by decide +kernel
theorem dX6_init_29 : decode cX6_init 29 = .ok (.bipush 6, 2) := by decide +kernel
theorem dX6_init_31 : decode cX6_init 31 = .ok (.newarray .int, 2) := by decide +kernel
theorem dX6_init_33 : decode cX6_init 33 = .ok (.putfield 21, 3) := by decide +kernel
theorem dX6_init_36 : decode cX6_init 36 = .ok (.aload_n 0, 1) := by decide +kernel
theorem dX6_init_37 : decode cX6_init 37 = .ok (.bipush 6, 2) := by decide +kernel
theorem dX6_init_39 : decode cX6_init 39 = .ok (.newarray .int, 2) := by decide +kernel
theorem dX6_init_41 : decode cX6_init 41 = .ok (.putfield 24, 3) := by decide +kernel
theorem dX6_init_44 : decode cX6_init 44 = .ok (.aload_n 0, 1) := by decide +kernel
theorem dX6_init_45 : decode cX6_init 45 = .ok (.bipush 6, 2) := by decide +kernel
theorem dX6_init_47 : decode cX6_init 47 = .ok (.newarray .int, 2) := by decide +kernel
theorem dX6_init_49 : decode cX6_init 49 = .ok (.putfield 27, 3) := by decide +kernel
theorem dX6_init_52 : decode cX6_init 52 = .ok (.return_, 1) := by decide +kernel
theorem dX6_look_0 : decode cX6_look 0 = .ok (.aload_n 0, 1) := by decide +kernel
theorem dX6_look_1 : decode cX6_look 1 = .ok (.iload_n 2, 1) := by decide +kernel
theorem dX6_look_2 : decode cX6_look 2 = .ok (.putfield 30, 3) := by decide +kernel
theorem dX6_look_5 : decode cX6_look 5 = .ok (.aload_n 0, 1) := by decide +kernel
theorem dX6_look_6 : decode cX6_look 6 = .ok (.iload_n 3, 1) := by decide +kernel
theorem dX6_look_7 : decode cX6_look 7 = .ok (.putfield 34, 3) := by decide +kernel
theorem dX6_look_10 : decode cX6_look 10 = .ok (.aload_n 0, 1) := by decide +kernel
theorem dX6_look_11 : decode cX6_look 11 = .ok (.iload 5, 2) := by decide +kernel
theorem dX6_look_13 : decode cX6_look 13 = .ok (.putfield 37, 3) := by decide +kernel
theorem dX6_look_16 : decode cX6_look 16 = .ok (.iconst 0, 1) := by decide +kernel
theorem dX6_look_17 : decode cX6_look 17 = .ok (.istore 6, 2) := by decide +kernel
theorem dX6_look_19 : decode cX6_look 19 = .ok (.iload 6, 2) := by decide +kernel
theorem dX6_look_21 : decode cX6_look 21 = .ok (.aload_n 1, 1) := by decide +kernel
theorem dX6_look_22 : decode cX6_look 22 = .ok (.getfield 40, 3) := by decide +kernel
theorem dX6_look_25 : decode cX6_look 25 = .ok (.if_icmp .ge 30, 3) := by decide +kernel
theorem dX6_look_28 : decode cX6_look 28 = .ok (.aload_n 0, 1) := by decide +kernel
theorem dX6_look_29 : decode cX6_look 29 = .ok (.getfield 24, 3) := by decide +kernel
theorem dX6_look_32 : decode cX6_look 32 = .ok (.iload 6, 2) := by decide +kernel
theorem dX6_look_34 : decode cX6_look 34 = .ok (.iconst (-1), 1) := by decide +kernel
theorem dX6_look_35 : decode cX6_look 35 = .ok (.iastore, 1) := by decide +kernel
theorem dX6_look_36 : decode cX6_look 36 = .ok (.aload_n 0, 1) := by decide +kernel
theorem dX6_look_37 : decode cX6_look 37 = .ok (.aload_n 1, 1) := by decide +kernel
theorem dX6_look_38 : decode cX6_look 38 = .ok (.getfield 45, 3) := by decide +kernel
theorem dX6_look_41 : decode cX6_look 41 = .ok (.iload 6, 2) := by decide +kernel
theorem dX6_look_43 : decode cX6_look 43 = .ok (.aaload, 1) := by decide +kernel
theorem dX6_look_44 : decode cX6_look 44 = .ok (.iload 6, 2) := by decide +kernel
theorem dX6_look_46 : decode cX6_look 46 = .ok (.invokevirtual 49, 3) := by decide +kernel
theorem dX6_look_49 : decode cX6_look 49 = .ok (.iinc 6 1, 3) := by decide +kernel
theorem dX6_look_52 : decode cX6_look 52 = .ok (.goto (-33), 3) := by decide +kernel
theorem dX6_look_55 : decode cX6_look 55 = .ok (.iconst 0, 1) := by decide +kernel
theorem dX6_look_56 : decode cX6_look 56 = .ok (.istore 6, 2) := by decide +kernel
theorem dX6_look_58 : decode cX6_look 58 = .ok (.iload 6, 2) := by decide +kernel
theorem dX6_look_60 : decode cX6_look 60 = .ok (.aload_n 1, 1) := by decide +kernel
theorem dX6_look_61 : decode cX6_look 61 = .ok (.getfield 53, 3) := by decide +kernel
theorem dX6_look_64 : decode cX6_look 64 = .ok (.if_icmp .ge 133, 3) := by decide +kernel
theorem dX6_look_67 : decode cX6_look 67 = .ok (.aload_n 1, 1) := by decide +kernel
theorem dX6_look_68 : decode cX6_look 68 = .ok (.getfield 56, 3) := by decide +kernel
theorem dX6_look_71 : decode cX6_look 71 = .ok (.iload 6, 2) := by decide +kernel
theorem dX6_look_73 : decode cX6_look 73 = .ok (.aaload, 1) := by decide +kernel
theorem dX6_look_74 : decode cX6_look 74 = .ok (.astore 7, 2) := by decide +kernel
theorem dX6_look_76 : decode cX6_look 76 = .ok (.iload 4, 2) := by decide +kernel
theorem dX6_look_78 : decode cX6_look 78 = .ok (.aload 7, 2) := by decide +kernel
theorem dX6_look_80 : decode cX6_look 80 = .ok (.getfield 60, 3) := by decide +kernel
theorem dX6_look_83 : decode cX6_look 83 = .ok (.if_icmp .lt 17, 3) := by decide +kernel
theorem dX6_look_86 : decode cX6_look 86 = .ok (.iload 4, 2) := by decide +kernel
theorem dX6_look_88 : decode cX6_look 88 = .ok (.aload 7, 2) := by decide +kernel
theorem dX6_look_90 : decode cX6_look 90 = .ok (.getfield 65, 3) := by decide +kernel
theorem dX6_look_93 : decode cX6_look 93 = .ok (.if_icmp .gt 7, 3) := by decide +kernel
theorem dX6_look_96 : decode cX6_look 96 = .ok (.iconst 1, 1) := by decide +kernel
theorem dX6_look_97 : decode cX6_look 97 = .ok (.goto 4, 3) := by decide +kernel
theorem dX6_look_100 : decode cX6_look 100 = .ok (.iconst 0, 1) := by decide +kernel
theorem dX6_look_101 : decode cX6_look 101 = .ok (.istore 8, 2) := by decide +kernel
theorem dX6_look_103 : decode cX6_look 103 = .ok (.aload_n 0, 1) := by decide +kernel
theorem dX6_look_104 : decode cX6_look 104 = .ok (.getfield 27, 3) := by decide +kernel
theorem dX6_look_107 : decode cX6_look 107 = .ok (.iload 6, 2) := by decide +kernel
theorem dX6_look_109 : decode cX6_look 109 = .ok (.iconst (-1), 1) := by decide +kernel
theorem dX6_look_110 : decode cX6_look 110 = .ok (.iastore, 1) := by decide +kernel
theorem dX6_look_111 : decode cX6_look 111 = .ok (.aload_n 0, 1) := by decide +kernel
theorem dX6_look_112 : decode cX6_look 112 = .ok (.getfield 18, 3) := by decide +kernel
theorem dX6_look_115 : decode cX6_look 115 = .ok (.iload 6, 2) := by decide +kernel
theorem dX6_look_117 : decode cX6_look 117 = .ok (.iload 8, 2) := by decide +kernel
theorem dX6_look_119 : decode cX6_look 119 = .ok (.ifCond .eq 27, 3) := by decide +kernel
theorem dX6_look_122 : decode cX6_look 122 = .ok (.aload_n 0, 1) := by decide +kernel
theorem dX6_look_123 : decode cX6_look 123 = .ok (.getfield 30, 3) := by decide +kernel
theorem dX6_look_126 : decode cX6_look 126 = .ok (.aload_n 0, 1) := by decide +kernel
theorem dX6_look_127 : decode cX6_look 127 = .ok (.getfield 34, 3) := by decide +kernel
theorem dX6_look_130 : decode cX6_look 130 = .ok (.aload 7, 2) := by decide +kernel
theorem dX6_look_132 : decode cX6_look 132 = .ok (.getfield 68, 3) := by decide +kernel
theorem dX6_look_135 : decode cX6_look 135 = .ok (.aload 7, 2) := by decide +kernel
theorem dX6_look_137 : decode cX6_look 137 = .ok (.getfield 69, 3) := by decide +kernel
theorem dX6_look_140 : decode cX6_look 140 = .ok (.invokestatic 70, 3) := by decide +kernel
theorem dX6_look_143 : decode cX6_look 143 = .ok (.goto 4, 3) := by decide +kernel
theorem dX6_look_146 : decode cX6_look 146 = .ok (.iconst 0, 1) := by decide +kernel
theorem dX6_look_147 : decode cX6_look 147 = .ok (.iastore, 1) := by decide +kernel
theorem dX6_look_148 : decode cX6_look 148 = .ok (.aload_n 0, 1) := by decide +kernel
theorem dX6_look_149 : decode cX6_look 149 = .ok (.getfield 21, 3) := by decide +kernel
theorem dX6_look_152 : decode cX6_look 152 = .ok (.iload 6, 2) := by decide +kernel
theorem dX6_look_154 : decode cX6_look 154 = .ok (.aload_n 0, 1) := by decide +kernel
theorem dX6_look_155 : decode cX6_look 155 = .ok (.getfield 18, 3) := by decide +kernel
theorem dX6_look_158 : decode cX6_look 158 = .ok (.iload 6, 2) := by decide +kernel
theorem dX6_look_160 : decode cX6_look 160 = .ok (.iaload, 1) := by decide +kernel
theorem dX6_look_161 : decode cX6_look 161 = .ok (.ifCond .ne 7, 3) := by decide +kernel
theorem dX6_look_164 : decode cX6_look 164 = .ok (.iconst 0, 1) := by decide +kernel
theorem dX6_look_165 : decode cX6_look 165 = .ok (.goto 25, 3) := by decide +kernel
theorem dX6_look_168 : decode cX6_look 168 = .ok (.aload_n 1, 1) := by decide +kernel
theorem dX6_look_169 : decode cX6_look 169 = .ok (.aload_n 0, 1) := by decide +kernel
theorem dX6_look_170 : decode cX6_look 170 = .ok (.getfield 30, 3) := by decide +kernel
theorem dX6_look_173 : decode cX6_look 173 = .ok (.aload_n 0, 1) := by decide +kernel
theorem dX6_look_174 : decode cX6_look 174 = .ok (.getfield 34, 3) := by decide +kernel
theorem dX6_look_177 : decode cX6_look 177 = .ok (.aload 7, 2) := by decide +kernel
theorem dX6_look_179 : decode cX6_look 179 = .ok (.getfield 68, 3) := by decide +kernel
theorem dX6_look_182 : decode cX6_look 182 = .ok (.aload 7, 2) := by decide +kernel
theorem dX6_look_184 : decode cX6_look 184 = .ok (.getfield 69, 3) := by decide +kernel
theorem dX6_look_187 : decode cX6_look 187 = .ok (.invokevirtual 74, 3) := by decide +kernel
theorem dX6_look_190 : decode cX6_look 190 = .ok (.iastore, 1) := by decide +kernel
theorem dX6_look_191 : decode cX6_look 191 = .ok (.iinc 6 1, 3) := by decide +kernel
theorem dX6_look_194 : decode cX6_look 194 = .ok (.goto (-136), 3) := by decide +kernel
theorem dX6_look_197 : decode cX6_look 197 = .ok (.return_, 1) := by decide +kernel
theorem dX6_lookAtWall_0 : decode cX6_lookAtWall 0 = .ok (.aload_n 1, 1) := by decide +kernel
theorem dX6_lookAtWall_1 : decode cX6_lookAtWall 1 = .ok (.getfield 77, 3) := by decide +kernel
theorem dX6_lookAtWall_4 : decode cX6_lookAtWall 4 = .ok (.aload_n 1, 1) := by decide +kernel
theorem dX6_lookAtWall_5 : decode cX6_lookAtWall 5 = .ok (.getfield 82, 3) := by decide +kernel
theorem dX6_lookAtWall_8 : decode cX6_lookAtWall 8 = .ok (.ifCond .eq 10, 3) := by decide +kernel
theorem dX6_lookAtWall_11 : decode cX6_lookAtWall 11 = .ok (.aload_n 0, 1) := by decide +kernel
theorem dX6_lookAtWall_12 : decode cX6_lookAtWall 12 = .ok (.getfield 30, 3) := by decide +kernel
theorem dX6_lookAtWall_15 : decode cX6_lookAtWall 15 = .ok (.goto 7, 3) := by decide +kernel
theorem dX6_lookAtWall_18 : decode cX6_lookAtWall 18 = .ok (.aload_n 0, 1) := by decide +kernel
theorem dX6_lookAtWall_19 : decode cX6_lookAtWall 19 = .ok (.getfield 34, 3) := by decide +kernel
theorem dX6_lookAtWall_22 : decode cX6_lookAtWall 22 = .ok (.isub, 1) := by decide +kernel
theorem dX6_lookAtWall_23 : decode cX6_lookAtWall 23 = .ok (.istore_n 3, 1) := by decide +kernel
theorem dX6_lookAtWall_24 : decode cX6_lookAtWall 24 = .ok (.iload_n 3, 1) := by decide +kernel
theorem dX6_lookAtWall_25 : decode cX6_lookAtWall 25 = .ok (.ifCond .eq 28, 3) := by decide +kernel
theorem dX6_lookAtWall_28 : decode cX6_lookAtWall 28 = .ok (.aload_n 1, 1) := by decide +kernel
theorem dX6_lookAtWall_29 : decode cX6_lookAtWall 29 = .ok (.aload_n 1, 1) := by decide +kernel
theorem dX6_lookAtWall_30 : decode cX6_lookAtWall 30 = .ok (.getfield 82, 3) := by decide +kernel
theorem dX6_lookAtWall_33 : decode cX6_lookAtWall 33 = .ok (.ifCond .eq 10, 3) := by decide +kernel
theorem dX6_lookAtWall_36 : decode cX6_lookAtWall 36 = .ok (.aload_n 0, 1) := by decide +kernel
theorem dX6_lookAtWall_37 : decode cX6_lookAtWall 37 = .ok (.getfield 34, 3) := by decide +kernel
theorem dX6_lookAtWall_40 : decode cX6_lookAtWall 40 = .ok (.goto 7, 3) := by decide +kernel
theorem dX6_lookAtWall_43 : decode cX6_lookAtWall 43 = .ok (.aload_n 0, 1) := by decide +kernel
theorem dX6_lookAtWall_44 : decode cX6_lookAtWall 44 = .ok (.getfield 30, 3) := by decide +kernel
theorem dX6_lookAtWall_47 : decode cX6_lookAtWall 47 = .ok (.invokevirtual 86, 3) := by decide +kernel
theorem dX6_lookAtWall_50 : decode cX6_lookAtWall 50 = .ok (.ifCond .ne 13, 3) := by decide +kernel
theorem dX6_lookAtWall_53 : decode cX6_lookAtWall 53 = .ok (.aload_n 0, 1) := by decide +kernel
theorem dX6_lookAtWall_54 : decode cX6_lookAtWall 54 = .ok (.getfield 9, 3) := by decide +kernel
theorem dX6_lookAtWall_57 : decode cX6_lookAtWall 57 = .ok (.iload_n 2, 1) := by decide +kernel
theorem dX6_lookAtWall_58 : decode cX6_lookAtWall 58 = .ok (.iconst (-1), 1) := by decide +kernel
theorem dX6_lookAtWall_59 : decode cX6_lookAtWall 59 = .ok (.iastore, 1) := by decide +kernel
theorem dX6_lookAtWall_60 : decode cX6_lookAtWall 60 = .ok (.goto 47, 3) := by decide +kernel
theorem dX6_lookAtWall_63 : decode cX6_lookAtWall 63 = .ok (.aload_n 0, 1) := by decide +kernel
theorem dX6_lookAtWall_64 : decode cX6_lookAtWall 64 = .ok (.getfield 9, 3) := by decide +kernel
theorem dX6_lookAtWall_67 : decode cX6_lookAtWall 67 = .ok (.iload_n 2, 1) := by decide +kernel
theorem dX6_lookAtWall_68 : decode cX6_lookAtWall 68 = .ok (.aload_n 1, 1) := by decide +kernel
theorem dX6_lookAtWall_69 : decode cX6_lookAtWall 69 = .ok (.getfield 82, 3) := by decide +kernel
theorem dX6_lookAtWall_72 : decode cX6_lookAtWall 72 = .ok (.ifCond .eq 15, 3) := by decide +kernel
theorem dX6_lookAtWall_75 : decode cX6_lookAtWall 75 = .ok (.iload_n 3, 1) := by decide +kernel
theorem dX6_lookAtWall_76 : decode cX6_lookAtWall 76 = .ok (.ifCond .ge 7, 3) := by decide +kernel
theorem dX6_lookAtWall_79 : decode cX6_lookAtWall 79 = .ok (.iconst 0, 1) := by decide +kernel
theorem dX6_lookAtWall_80 : decode cX6_lookAtWall 80 = .ok (.goto 16, 3) := by decide +kernel
theorem dX6_lookAtWall_83 : decode cX6_lookAtWall 83 = .ok (.iconst 1, 1) := by decide +kernel
theorem dX6_lookAtWall_84 : decode cX6_lookAtWall 84 = .ok (.goto 12, 3) := by decide +kernel
theorem dX6_lookAtWall_87 : decode cX6_lookAtWall 87 = .ok (.iload_n 3, 1) := by decide +kernel
theorem dX6_lookAtWall_88 : decode cX6_lookAtWall 88 = .ok (.ifCond .ge 7, 3) := by decide +kernel
theorem dX6_lookAtWall_91 : decode cX6_lookAtWall 91 = .ok (.iconst 2, 1) := by decide +kernel
theorem dX6_lookAtWall_92 : decode cX6_lookAtWall 92 = .ok (.goto 4, 3) := by decide +kernel
theorem dX6_lookAtWall_95 : decode cX6_lookAtWall 95 = .ok (.iconst 3, 1) := by decide +kernel
theorem dX6_lookAtWall_96 : decode cX6_lookAtWall 96 = .ok (.iastore, 1) := by decide +kernel
theorem dX6_lookAtWall_97 : decode cX6_lookAtWall 97 = .ok (.aload_n 0, 1) := by decide +kernel
theorem dX6_lookAtWall_98 : decode cX6_lookAtWall 98 = .ok (.getfield 15, 3) := by decide +kernel
