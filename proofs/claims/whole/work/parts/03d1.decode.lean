theorem dX6_lookAtWall_101 : decode cX6_lookAtWall 101 = .ok (.iload_n 2, 1) := by decide +kernel
theorem dX6_lookAtWall_102 : decode cX6_lookAtWall 102 = .ok (.iload_n 3, 1) := by decide +kernel
theorem dX6_lookAtWall_103 : decode cX6_lookAtWall 103 = .ok (.invokestatic 90, 3) := by decide +kernel
theorem dX6_lookAtWall_106 : decode cX6_lookAtWall 106 = .ok (.iastore, 1) := by decide +kernel
theorem dX6_lookAtWall_107 : decode cX6_lookAtWall 107 = .ok (.return_, 1) := by decide +kernel
theorem dX6_wallStrength_0 : decode cX6_wallStrength 0 = .ok (.aload_n 0, 1) := by decide +kernel
theorem dX6_wallStrength_1 : decode cX6_wallStrength 1 = .ok (.getfield 24, 3) := by decide +kernel
theorem dX6_wallStrength_4 : decode cX6_wallStrength 4 = .ok (.iload_n 2, 1) := by decide +kernel
theorem dX6_wallStrength_5 : decode cX6_wallStrength 5 = .ok (.iaload, 1) := by decide +kernel
theorem dX6_wallStrength_6 : decode cX6_wallStrength 6 = .ok (.iconst (-1), 1) := by decide +kernel
theorem dX6_wallStrength_7 : decode cX6_wallStrength 7 = .ok (.if_icmp .ne 53, 3) := by decide +kernel
theorem dX6_wallStrength_10 : decode cX6_wallStrength 10 = .ok (.aload_n 1, 1) := by decide +kernel
theorem dX6_wallStrength_11 : decode cX6_wallStrength 11 = .ok (.getfield 45, 3) := by decide +kernel
theorem dX6_wallStrength_14 : decode cX6_wallStrength 14 = .ok (.iload_n 2, 1) := by decide +kernel
theorem dX6_wallStrength_15 : decode cX6_wallStrength 15 = .ok (.aaload, 1) := by decide +kernel
theorem dX6_wallStrength_16 : decode cX6_wallStrength 16 = .ok (.astore_n 3, 1) := by decide +kernel
theorem dX6_wallStrength_17 : decode cX6_wallStrength 17 = .ok (.aload_n 0, 1) := by decide +kernel
theorem dX6_wallStrength_18 : decode cX6_wallStrength 18 = .ok (.getfield 24, 3) := by decide +kernel
theorem dX6_wallStrength_21 : decode cX6_wallStrength 21 = .ok (.iload_n 2, 1) := by decide +kernel
theorem dX6_wallStrength_22 : decode cX6_wallStrength 22 = .ok (.aload_n 1, 1) := by decide +kernel
theorem dX6_wallStrength_23 : decode cX6_wallStrength 23 = .ok (.aload_n 3, 1) := by decide +kernel
theorem dX6_wallStrength_24 : decode cX6_wallStrength 24 = .ok (.getfield 96, 3) := by decide +kernel
theorem dX6_wallStrength_27 : decode cX6_wallStrength 27 = .ok (.aload_n 0, 1) := by decide +kernel
theorem dX6_wallStrength_28 : decode cX6_wallStrength 28 = .ok (.getfield 30, 3) := by decide +kernel
theorem dX6_wallStrength_31 : decode cX6_wallStrength 31 = .ok (.aload_n 0, 1) := by decide +kernel
theorem dX6_wallStrength_32 : decode cX6_wallStrength 32 = .ok (.getfield 34, 3) := by decide +kernel
theorem dX6_wallStrength_35 : decode cX6_wallStrength 35 = .ok (.aload_n 3, 1) := by decide +kernel
theorem dX6_wallStrength_36 : decode cX6_wallStrength 36 = .ok (.aload_n 0, 1) := by decide +kernel
theorem dX6_wallStrength_37 : decode cX6_wallStrength 37 = .ok (.getfield 30, 3) := by decide +kernel
theorem dX6_wallStrength_40 : decode cX6_wallStrength 40 = .ok (.invokevirtual 99, 3) := by decide +kernel
theorem dX6_wallStrength_43 : decode cX6_wallStrength 43 = .ok (.aload_n 3, 1) := by decide +kernel
theorem dX6_wallStrength_44 : decode cX6_wallStrength 44 = .ok (.aload_n 0, 1) := by decide +kernel
theorem dX6_wallStrength_45 : decode cX6_wallStrength 45 = .ok (.getfield 34, 3) := by decide +kernel
theorem dX6_wallStrength_48 : decode cX6_wallStrength 48 = .ok (.invokevirtual 102, 3) := by decide +kernel
theorem dX6_wallStrength_51 : decode cX6_wallStrength 51 = .ok (.aload_n 0, 1) := by decide +kernel
theorem dX6_wallStrength_52 : decode cX6_wallStrength 52 = .ok (.getfield 37, 3) := by decide +kernel
theorem dX6_wallStrength_55 : decode cX6_wallStrength 55 = .ok (.iconst 2, 1) := by decide +kernel
theorem dX6_wallStrength_56 : decode cX6_wallStrength 56 = .ok (.invokevirtual 105, 3) := by decide +kernel
theorem dX6_wallStrength_59 : decode cX6_wallStrength 59 = .ok (.iastore, 1) := by decide +kernel
theorem dX6_wallStrength_60 : decode cX6_wallStrength 60 = .ok (.aload_n 0, 1) := by decide +kernel
theorem dX6_wallStrength_61 : decode cX6_wallStrength 61 = .ok (.getfield 24, 3) := by decide +kernel
theorem dX6_wallStrength_64 : decode cX6_wallStrength 64 = .ok (.iload_n 2, 1) := by decide +kernel
theorem dX6_wallStrength_65 : decode cX6_wallStrength 65 = .ok (.iaload, 1) := by decide +kernel
theorem dX6_wallStrength_66 : decode cX6_wallStrength 66 = .ok (.ireturn, 1) := by decide +kernel
theorem dX6_barnStrength_0 : decode cX6_barnStrength 0 = .ok (.aload_n 0, 1) := by decide +kernel
theorem dX6_barnStrength_1 : decode cX6_barnStrength 1 = .ok (.getfield 27, 3) := by decide +kernel
theorem dX6_barnStrength_4 : decode cX6_barnStrength 4 = .ok (.iload_n 2, 1) := by decide +kernel
theorem dX6_barnStrength_5 : decode cX6_barnStrength 5 = .ok (.iaload, 1) := by decide +kernel
theorem dX6_barnStrength_6 : decode cX6_barnStrength 6 = .ok (.iconst (-1), 1) := by decide +kernel
theorem dX6_barnStrength_7 : decode cX6_barnStrength 7 = .ok (.if_icmp .ne 45, 3) := by decide +kernel
theorem dX6_barnStrength_10 : decode cX6_barnStrength 10 = .ok (.aload_n 1, 1) := by decide +kernel
theorem dX6_barnStrength_11 : decode cX6_barnStrength 11 = .ok (.getfield 56, 3) := by decide +kernel
theorem dX6_barnStrength_14 : decode cX6_barnStrength 14 = .ok (.iload_n 2, 1) := by decide +kernel
theorem dX6_barnStrength_15 : decode cX6_barnStrength 15 = .ok (.aaload, 1) := by decide +kernel
theorem dX6_barnStrength_16 : decode cX6_barnStrength 16 = .ok (.astore_n 3, 1) := by decide +kernel
theorem dX6_barnStrength_17 : decode cX6_barnStrength 17 = .ok (.aload_n 0, 1) := by decide +kernel
theorem dX6_barnStrength_18 : decode cX6_barnStrength 18 = .ok (.getfield 27, 3) := by decide +kernel
theorem dX6_barnStrength_21 : decode cX6_barnStrength 21 = .ok (.iload_n 2, 1) := by decide +kernel
theorem dX6_barnStrength_22 : decode cX6_barnStrength 22 = .ok (.aload_n 1, 1) := by decide +kernel
theorem dX6_barnStrength_23 : decode cX6_barnStrength 23 = .ok (.aload_n 3, 1) := by decide +kernel
theorem dX6_barnStrength_24 : decode cX6_barnStrength 24 = .ok (.getfield 109, 3) := by decide +kernel
theorem dX6_barnStrength_27 : decode cX6_barnStrength 27 = .ok (.aload_n 0, 1) := by decide +kernel
theorem dX6_barnStrength_28 : decode cX6_barnStrength 28 = .ok (.getfield 30, 3) := by decide +kernel
theorem dX6_barnStrength_31 : decode cX6_barnStrength 31 = .ok (.aload_n 0, 1) := by decide +kernel
theorem dX6_barnStrength_32 : decode cX6_barnStrength 32 = .ok (.getfield 34, 3) := by decide +kernel
theorem dX6_barnStrength_35 : decode cX6_barnStrength 35 = .ok (.aload_n 3, 1) := by decide +kernel
theorem dX6_barnStrength_36 : decode cX6_barnStrength 36 = .ok (.getfield 68, 3) := by decide +kernel
theorem dX6_barnStrength_39 : decode cX6_barnStrength 39 = .ok (.aload_n 3, 1) := by decide +kernel
theorem dX6_barnStrength_40 : decode cX6_barnStrength 40 = .ok (.getfield 69, 3) := by decide +kernel
theorem dX6_barnStrength_43 : decode cX6_barnStrength 43 = .ok (.aload_n 0, 1) := by decide +kernel
theorem dX6_barnStrength_44 : decode cX6_barnStrength 44 = .ok (.getfield 37, 3) := by decide +kernel
theorem dX6_barnStrength_47 : decode cX6_barnStrength 47 = .ok (.iconst 2, 1) := by decide +kernel
theorem dX6_barnStrength_48 : decode cX6_barnStrength 48 = .ok (.invokevirtual 105, 3) := by decide +kernel
theorem dX6_barnStrength_51 : decode cX6_barnStrength 51 = .ok (.iastore, 1) := by decide +kernel
theorem dX6_barnStrength_52 : decode cX6_barnStrength 52 = .ok (.aload_n 0, 1) := by decide +kernel
theorem dX6_barnStrength_53 : decode cX6_barnStrength 53 = .ok (.getfield 27, 3) := by decide +kernel
theorem dX6_barnStrength_56 : decode cX6_barnStrength 56 = .ok (.iload_n 2, 1) := by decide +kernel
theorem dX6_barnStrength_57 : decode cX6_barnStrength 57 = .ok (.iaload, 1) := by decide +kernel
theorem dX6_barnStrength_58 : decode cX6_barnStrength 58 = .ok (.ireturn, 1) := by decide +kernel
theorem dX7_init_0 : decode cX7_init 0 = .ok (.aload_n 0, 1) := by decide +kernel
theorem dX7_init_1 : decode cX7_init 1 = .ok (.invokespecial 3, 3) := by decide +kernel
theorem dX7_init_4 : decode cX7_init 4 = .ok (.aload_n 0, 1) := by decide +kernel
theorem dX7_init_5 : decode cX7_init 5 = .ok (.bipush 12, 2) := by decide +kernel
theorem dX7_init_7 : decode cX7_init 7 = .ok (.newarray .int, 2) := by decide +kernel
theorem dX7_init_9 : decode cX7_init 9 = .ok (.putfield 9, 3) := by decide +kernel
theorem dX7_init_12 : decode cX7_init 12 = .ok (.aload_n 0, 1) := by decide +kernel
theorem dX7_init_13 : decode cX7_init 13 = .ok (.bipush 12, 2) := by decide +kernel
theorem dX7_init_15 : decode cX7_init 15 = .ok (.newarray .int, 2) := by decide +kernel
theorem dX7_init_17 : decode cX7_init 17 = .ok (.putfield 15, 3) := by decide +kernel
theorem dX7_init_20 : decode cX7_init 20 = .ok (.return_, 1) := by decide +kernel
theorem dX7_begin_0 : decode cX7_begin 0 = .ok (.aload_n 0, 1) := by decide +kernel
theorem dX7_begin_1 : decode cX7_begin 1 = .ok (.iload_n 1, 1) := by decide +kernel
theorem dX7_begin_2 : decode cX7_begin 2 = .ok (.putfield 18, 3) := by decide +kernel
theorem dX7_begin_5 : decode cX7_begin 5 = .ok (.aload_n 0, 1) := by decide +kernel
theorem dX7_begin_6 : decode cX7_begin 6 = .ok (.iload_n 2, 1) := by decide +kernel
theorem dX7_begin_7 : decode cX7_begin 7 = .ok (.putfield 22, 3) := by decide +kernel
theorem dX7_begin_10 : decode cX7_begin 10 = .ok (.aload_n 0, 1) := by decide +kernel
theorem dX7_begin_11 : decode cX7_begin 11 = .ok (.iload_n 3, 1) := by decide +kernel
theorem dX7_begin_12 : decode cX7_begin 12 = .ok (.putfield 25, 3) := by decide +kernel
theorem dX7_begin_15 : decode cX7_begin 15 = .ok (.aload_n 0, 1) := by decide +kernel
theorem dX7_begin_16 : decode cX7_begin 16 = .ok (.iload 4, 2) := by decide +kernel
theorem dX7_begin_18 : decode cX7_begin 18 = .ok (.putfield 28, 3) := by decide +kernel
theorem dX7_begin_21 : decode cX7_begin 21 = .ok (.aload_n 0, 1) := by decide +kernel
theorem dX7_begin_22 : decode cX7_begin 22 = .ok (.iconst 0, 1) := by decide +kernel
theorem dX7_begin_23 : decode cX7_begin 23 = .ok (.putfield 31, 3) := by decide +kernel
theorem dX7_begin_26 : decode cX7_begin 26 = .ok (.return_, 1) := by decide +kernel
theorem dX7_isNamed_0 : decode cX7_isNamed 0 = .ok (.aload_n 0, 1) := by decide +kernel
theorem dX7_isNamed_1 : decode cX7_isNamed 1 = .ok (.getfield 18, 3) := by decide +kernel
theorem dX7_isNamed_4 : decode cX7_isNamed 4 = .ok (.iconst (-1), 1) := by decide +kernel
theorem dX7_isNamed_5 : decode cX7_isNamed 5 = .ok (.if_icmp .eq 7, 3) := by decide +kernel
theorem dX7_isNamed_8 : decode cX7_isNamed 8 = .ok (.iconst 1, 1) := by decide +kernel
theorem dX7_isNamed_9 : decode cX7_isNamed 9 = .ok (.goto 4, 3) := by decide +kernel
theorem dX7_isNamed_12 : decode cX7_isNamed 12 = .ok (.iconst 0, 1) := by decide +kernel
theorem dX7_isNamed_13 : decode cX7_isNamed 13 = .ok (.ireturn, 1) := by decide +kernel
theorem dX7_write_0 : decode cX7_write 0 = .ok (.aload_n 0, 1) := by decide +kernel
theorem dX7_write_1 : decode cX7_write 1 = .ok (.getfield 31, 3) := by decide +kernel
theorem dX7_write_4 : decode cX7_write 4 = .ok (.bipush 12, 2) := by decide +kernel
theorem dX7_write_6 : decode cX7_write 6 = .ok (.if_icmp .lt 4, 3) := by decide +kernel
theorem dX7_write_9 : decode cX7_write 9 = .ok (.return_, 1) := by decide +kernel
theorem dX7_write_10 : decode cX7_write 10 = .ok (.aload_n 0, 1) := by decide +kernel
theorem dX7_write_11 : decode cX7_write 11 = .ok (.getfield 9, 3) := by decide +kernel
theorem dX7_write_14 : decode cX7_write 14 = .ok (.aload_n 0, 1) := by decide +kernel
theorem dX7_write_15 : decode cX7_write 15 = .ok (.getfield 31, 3) := by decide +kernel
theorem dX7_write_18 : decode cX7_write 18 = .ok (.iload_n 1, 1) := by decide +kernel
theorem dX7_write_19 : decode cX7_write 19 = .ok (.iastore, 1) := by decide +kernel
theorem dX7_write_20 : decode cX7_write 20 = .ok (.aload_n 0, 1) := by decide +kernel
theorem dX7_write_21 : decode cX7_write 21 = .ok (.getfield 15, 3) := by decide +kernel
theorem dX7_write_24 : decode cX7_write 24 = .ok (.aload_n 0, 1) := by decide +kernel
theorem dX7_write_25 : decode cX7_write 25 = .ok (.getfield 31, 3) := by decide +kernel
theorem dX7_write_28 : decode cX7_write 28 = .ok (.iload_n 1, 1) := by decide +kernel
theorem dX7_write_29 : decode cX7_write 29 = .ok (.invokestatic 34, 3) := by decide +kernel
theorem dX7_write_32 : decode cX7_write 32 = .ok (.aload_n 0, 1) := by decide +kernel
theorem dX7_write_33 : decode cX7_write 33 = .ok (.dup, 1) := by decide +kernel
theorem dX7_write_34 : decode cX7_write 34 = .ok (.getfield 31, 3) := by decide +kernel
theorem dX7_write_37 : decode cX7_write 37 = .ok (.iconst 1, 1) := by decide +kernel
theorem dX7_write_38 : decode cX7_write 38 = .ok (.iadd, 1) := by decide +kernel
theorem dX7_write_39 : decode cX7_write 39 = .ok (.putfield 31, 3) := by decide +kernel
theorem dX7_write_42 : decode cX7_write 42 = .ok (.return_, 1) := by decide +kernel
theorem dX7_copyFrom_0 : decode cX7_copyFrom 0 = .ok (.aload_n 0, 1) := by decide +kernel
theorem dX7_copyFrom_1 : decode cX7_copyFrom 1 = .ok (.aload_n 1, 1) := by decide +kernel
theorem dX7_copyFrom_2 : decode cX7_copyFrom 2 = .ok (.getfield 18, 3) := by decide +kernel
theorem dX7_copyFrom_5 : decode cX7_copyFrom 5 = .ok (.aload_n 1, 1) := by decide +kernel
theorem dX7_copyFrom_6 : decode cX7_copyFrom 6 = .ok (.getfield 22, 3) := by decide +kernel
theorem dX7_copyFrom_9 : decode cX7_copyFrom 9 = .ok (.aload_n 1, 1) := by decide +kernel
theorem dX7_copyFrom_10 : decode cX7_copyFrom 10 = .ok (.getfield 25, 3) := by decide +kernel
theorem dX7_copyFrom_13 : decode cX7_copyFrom 13 = .ok (.aload_n 1, 1) := by decide +kernel
theorem dX7_copyFrom_14 : decode cX7_copyFrom 14 = .ok (.getfield 28, 3) := by decide +kernel
theorem dX7_copyFrom_17 : decode cX7_copyFrom 17 = .ok (.invokevirtual 38, 3) := by decide +kernel
theorem dX7_copyFrom_20 : decode cX7_copyFrom 20 = .ok (.aload_n 0, 1) := by decide +kernel
theorem dX7_copyFrom_21 : decode cX7_copyFrom 21 = .ok (.aload_n 1, 1) := by decide +kernel
theorem dX7_copyFrom_22 : decode cX7_copyFrom 22 = .ok (.getfield 31, 3) := by decide +kernel
theorem dX7_copyFrom_25 : decode cX7_copyFrom 25 = .ok (.putfield 31, 3) := by decide +kernel
theorem dX7_copyFrom_28 : decode cX7_copyFrom 28 = .ok (.aload_n 1, 1) := by decide +kernel
theorem dX7_copyFrom_29 : decode cX7_copyFrom 29 = .ok (.getfield 9, 3) := by decide +kernel
theorem dX7_copyFrom_32 : decode cX7_copyFrom 32 = .ok (.iconst 0, 1) := by decide +kernel
theorem dX7_copyFrom_33 : decode cX7_copyFrom 33 = .ok (.aload_n 0, 1) := by decide +kernel
theorem dX7_copyFrom_34 : decode cX7_copyFrom 34 = .ok (.getfield 9, 3) := by decide +kernel
theorem dX7_copyFrom_37 : decode cX7_copyFrom 37 = .ok (.iconst 0, 1) := by decide +kernel
theorem dX7_copyFrom_38 : decode cX7_copyFrom 38 = .ok (.bipush 12, 2) := by decide +kernel
theorem dX7_copyFrom_40 : decode cX7_copyFrom 40 = .ok (.invokestatic 42, 3) := by decide +kernel
theorem dX7_copyFrom_43 : decode cX7_copyFrom 43 = .ok (.aload_n 1, 1) := by decide +kernel
theorem dX7_copyFrom_44 : decode cX7_copyFrom 44 = .ok (.getfield 15, 3) := by decide +kernel
theorem dX7_copyFrom_47 : decode cX7_copyFrom 47 = .ok (.iconst 0, 1) := by decide +kernel
theorem dX7_copyFrom_48 : decode cX7_copyFrom 48 = .ok (.aload_n 0, 1) := by decide +kernel
theorem dX7_copyFrom_49 : decode cX7_copyFrom 49 = .ok (.getfield 15, 3) := by decide +kernel
theorem dX7_copyFrom_52 : decode cX7_copyFrom 52 = .ok (.iconst 0, 1) := by decide +kernel
theorem dX7_copyFrom_53 : decode cX7_copyFrom 53 = .ok (.bipush 12, 2) := by decide +kernel
theorem dX7_copyFrom_55 : decode cX7_copyFrom 55 = .ok (.invokestatic 42, 3) := by decide +kernel
theorem dX7_copyFrom_58 : decode cX7_copyFrom 58 = .ok (.return_, 1) := by decide +kernel
theorem dX8_init_0 : decode cX8_init 0 = .ok (.aload_n 0, 1) := by decide +kernel
theorem dX8_init_1 : decode cX8_init 1 = .ok (.invokespecial 3, 3) := by decide +kernel
theorem dX8_init_4 : decode cX8_init 4 = .ok (.aload_n 0, 1) := by decide +kernel
theorem dX8_init_5 : decode cX8_init 5 = .ok (.sipush 700, 3) := by decide +kernel
theorem dX8_init_8 : decode cX8_init 8 = .ok (.newarray .byte, 2) := by decide +kernel
theorem dX8_init_10 : decode cX8_init 10 = .ok (.putfield 9, 3) := by decide +kernel
theorem dX8_init_13 : decode cX8_init 13 = .ok (.aload_n 0, 1) := by decide +kernel
theorem dX8_init_14 : decode cX8_init 14 = .ok (.new 15, 3) := by decide +kernel
theorem dX8_init_17 : decode cX8_init 17 = .ok (.dup, 1) := by decide +kernel
theorem dX8_init_18 : decode cX8_init 18 = .ok (.invokespecial 17, 3) := by decide +kernel
theorem dX8_init_21 : decode cX8_init 21 = .ok (.putfield 18, 3) := by decide +kernel
theorem dX8_init_24 : decode cX8_init 24 = .ok (.aload_n 0, 1) := by decide +kernel
theorem dX8_init_25 : decode cX8_init 25 = .ok (.iconst (-1), 1) := by decide +kernel
theorem dX8_init_26 : decode cX8_init 26 = .ok (.putfield 22, 3) := by decide +kernel
theorem dX8_init_29 : decode cX8_init 29 = .ok (.return_, 1) := by decide +kernel
theorem dX8_append_0 : decode cX8_append 0 = .ok (.bipush 24, 2) := by decide +kernel
theorem dX8_append_2 : decode cX8_append 2 = .ok (.istore_n 2, 1) := by decide +kernel
theorem dX8_append_3 : decode cX8_append 3 = .ok (.iload_n 2, 1) := by decide +kernel
theorem dX8_append_4 : decode cX8_append 4 = .ok (.ifCond .lt 42, 3) := by decide +kernel
theorem dX8_append_7 : decode cX8_append 7 = .ok (.aload_n 0, 1) := by decide +kernel
theorem dX8_append_8 : decode cX8_append 8 = .ok (.getfield 26, 3) := by decide +kernel
theorem dX8_append_11 : decode cX8_append 11 = .ok (.sipush 700, 3) := by decide +kernel
theorem dX8_append_14 : decode cX8_append 14 = .ok (.if_icmp .ge 32, 3) := by decide +kernel
theorem dX8_append_17 : decode cX8_append 17 = .ok (.aload_n 0, 1) := by decide +kernel
theorem dX8_append_18 : decode cX8_append 18 = .ok (.getfield 9, 3) := by decide +kernel
theorem dX8_append_21 : decode cX8_append 21 = .ok (.aload_n 0, 1) := by decide +kernel
theorem dX8_append_22 : decode cX8_append 22 = .ok (.getfield 26, 3) := by decide +kernel
theorem dX8_append_25 : decode cX8_append 25 = .ok (.iload_n 1, 1) := by decide +kernel
theorem dX8_append_26 : decode cX8_append 26 = .ok (.iload_n 2, 1) := by decide +kernel
theorem dX8_append_27 : decode cX8_append 27 = .ok (.iushr, 1) := by decide +kernel
theorem dX8_append_28 : decode cX8_append 28 = .ok (.i2b, 1) := by decide +kernel
theorem dX8_append_29 : decode cX8_append 29 = .ok (.bastore, 1) := by decide +kernel
theorem dX8_append_30 : decode cX8_append 30 = .ok (.aload_n 0, 1) := by decide +kernel
theorem dX8_append_31 : decode cX8_append 31 = .ok (.dup, 1) := by decide +kernel
theorem dX8_append_32 : decode cX8_append 32 = .ok (.getfield 26, 3) := by decide +kernel
theorem dX8_append_35 : decode cX8_append 35 = .ok (.iconst 1, 1) := by decide +kernel
theorem dX8_append_36 : decode cX8_append 36 = .ok (.iadd, 1) := by decide +kernel
theorem dX8_append_37 : decode cX8_append 37 = .ok (.putfield 26, 3) := by decide +kernel
theorem dX8_append_40 : decode cX8_append 40 = .ok (.iinc 2 (-8), 3) := by decide +kernel
theorem dX8_append_43 : decode cX8_append 43 = .ok (.goto (-40), 3) := by decide +kernel
theorem dX8_append_46 : decode cX8_append 46 = .ok (.return_, 1) := by decide +kernel
theorem dX8_exchange_0 : decode cX8_exchange 0 = .ok (.aload_n 0, 1) := by decide +kernel
theorem dX8_exchange_1 : decode cX8_exchange 1 = .ok (.getfield 18, 3) := by decide +kernel
theorem dX8_exchange_4 : decode cX8_exchange 4 = .ok (.astore_n 2, 1) := by decide +kernel
theorem dX8_exchange_5 : decode cX8_exchange 5 = .ok (.aload_n 0, 1) := by decide +kernel
theorem dX8_exchange_6 : decode cX8_exchange 6 = .ok (.aload_n 1, 1) := by decide +kernel
theorem dX8_exchange_7 : decode cX8_exchange 7 = .ok (.putfield 18, 3) := by decide +kernel
theorem dX8_exchange_10 : decode cX8_exchange 10 = .ok (.aload_n 2, 1) := by decide +kernel
theorem dX8_exchange_11 : decode cX8_exchange 11 = .ok (.areturn, 1) := by decide +kernel
theorem dX8_readLand_0 : decode cX8_readLand 0 = .ok (.aload_n 0, 1) := by decide +kernel
theorem dX8_readLand_1 : decode cX8_readLand 1 = .ok (.iload_n 1, 1) := by decide +kernel
theorem dX8_readLand_2 : decode cX8_readLand 2 = .ok (.aload_n 0, 1) := by decide +kernel
theorem dX8_readLand_3 : decode cX8_readLand 3 = .ok (.getfield 26, 3) := by decide +kernel
theorem dX8_readLand_6 : decode cX8_readLand 6 = .ok (.invokestatic 29, 3) := by decide +kernel
theorem dX8_readLand_9 : decode cX8_readLand 9 = .ok (.putfield 35, 3) := by decide +kernel
theorem dX8_readLand_12 : decode cX8_readLand 12 = .ok (.aload_n 0, 1) := by decide +kernel
theorem dX8_readLand_13 : decode cX8_readLand 13 = .ok (.iconst 0, 1) := by decide +kernel
theorem dX8_readLand_14 : decode cX8_readLand 14 = .ok (.putfield 26, 3) := by decide +kernel
theorem dX8_readLand_17 : decode cX8_readLand 17 = .ok (.aload_n 0, 1) := by decide +kernel
theorem dX8_readLand_18 : decode cX8_readLand 18 = .ok (.getfield 18, 3) := by decide +kernel
theorem dX8_readLand_21 : decode cX8_readLand 21 = .ok (.invokevirtual 38, 3) := by decide +kernel
theorem dX8_readLand_24 : decode cX8_readLand 24 = .ok (.aload_n 0, 1) := by decide +kernel
theorem dX8_readLand_25 : decode cX8_readLand 25 = .ok (.iconst 0, 1) := by decide +kernel
theorem dX8_readLand_26 : decode cX8_readLand 26 = .ok (.putfield 41, 3) := by decide +kernel
theorem dX8_readLand_29 : decode cX8_readLand 29 = .ok (.aload_n 0, 1) := by decide +kernel
theorem dX8_readLand_30 : decode cX8_readLand 30 = .ok (.iconst 0, 1) := by decide +kernel
theorem dX8_readLand_31 : decode cX8_readLand 31 = .ok (.putfield 45, 3) := by decide +kernel
theorem dX8_readLand_34 : decode cX8_readLand 34 = .ok (.aload_n 0, 1) := by decide +kernel
theorem dX8_readLand_35 : decode cX8_readLand 35 = .ok (.iconst 0, 1) := by decide +kernel
theorem dX8_readLand_36 : decode cX8_readLand 36 = .ok (.putfield 48, 3) := by decide +kernel
theorem dX8_readLand_39 : decode cX8_readLand 39 = .ok (.aload_n 0, 1) := by decide +kernel
theorem dX8_readLand_40 : decode cX8_readLand 40 = .ok (.iconst (-1), 1) := by decide +kernel
theorem dX8_readLand_41 : decode cX8_readLand 41 = .ok (.putfield 22, 3) := by decide +kernel
theorem dX8_readLand_44 : decode cX8_readLand 44 = .ok (.aload_n 0, 1) := by decide +kernel
theorem dX8_readLand_45 : decode cX8_readLand 45 = .ok (.iconst 0, 1) := by decide +kernel
theorem dX8_readLand_46 : decode cX8_readLand 46 = .ok (.putfield 51, 3) := by decide +kernel
theorem dX8_readLand_49 : decode cX8_readLand 49 = .ok (.aload_n 0, 1) := by decide +kernel
theorem dX8_readLand_50 : decode cX8_readLand 50 = .ok (.invokevirtual 54, 3) := by decide +kernel
theorem dX8_readLand_53 : decode cX8_readLand 53 = .ok (.iconst 0, 1) := by decide +kernel
theorem dX8_readLand_54 : decode cX8_readLand 54 = .ok (.istore_n 2, 1) := by decide +kernel
theorem dX8_readLand_55 : decode cX8_readLand 55 = .ok (.iload_n 2, 1) := by decide +kernel
theorem dX8_readLand_56 : decode cX8_readLand 56 = .ok (.aload_n 0, 1) := by decide +kernel
theorem dX8_readLand_57 : decode cX8_readLand 57 = .ok (.getfield 35, 3) := by decide +kernel
theorem dX8_readLand_60 : decode cX8_readLand 60 = .ok (.if_icmp .gt 127, 3) := by decide +kernel
theorem dX8_readLand_63 : decode cX8_readLand 63 = .ok (.aload_n 0, 1) := by decide +kernel
theorem dX8_readLand_64 : decode cX8_readLand 64 = .ok (.getfield 57, 3) := by decide +kernel
theorem dX8_readLand_67 : decode cX8_readLand 67 = .ok (.iconst 4, 1) := by decide +kernel
theorem dX8_readLand_68 : decode cX8_readLand 68 = .ok (.if_icmp .eq 119, 3) := by decide +kernel
theorem dX8_readLand_71 : decode cX8_readLand 71 = .ok (.aload_n 0, 1) := by decide +kernel
theorem dX8_readLand_72 : decode cX8_readLand 72 = .ok (.getfield 48, 3) := by decide +kernel
theorem dX8_readLand_75 : decode cX8_readLand 75 = .ok (.ifCond .ne 112, 3) := by decide +kernel
theorem dX8_readLand_78 : decode cX8_readLand 78 = .ok (.aload_n 0, 1) := by decide +kernel
theorem dX8_readLand_79 : decode cX8_readLand 79 = .ok (.ldc 60, 2) := by decide +kernel
theorem dX8_readLand_81 : decode cX8_readLand 81 = .ok (.invokevirtual 62, 3) := by decide +kernel
theorem dX8_readLand_84 : decode cX8_readLand 84 = .ok (.ifCond .eq 11, 3) := by decide +kernel
theorem dX8_readLand_87 : decode cX8_readLand 87 = .ok (.aload_n 0, 1) := by decide +kernel
theorem dX8_readLand_88 : decode cX8_readLand 88 = .ok (.iconst 1, 1) := by decide +kernel
theorem dX8_readLand_89 : decode cX8_readLand 89 = .ok (.invokevirtual 66, 3) := by decide +kernel
theorem dX8_readLand_92 : decode cX8_readLand 92 = .ok (.goto 89, 3) := by decide +kernel
theorem dX8_readLand_95 : decode cX8_readLand 95 = .ok (.aload_n 0, 1) := by decide +kernel
theorem dX8_readLand_96 : decode cX8_readLand 96 = .ok (.ldc 70, 2) := by decide +kernel
theorem dX8_readLand_98 : decode cX8_readLand 98 = .ok (.invokevirtual 62, 3) := by decide +kernel
theorem dX8_readLand_101 : decode cX8_readLand 101 = .ok (.ifCond .eq 11, 3) := by decide +kernel
theorem dX8_readLand_104 : decode cX8_readLand 104 = .ok (.aload_n 0, 1) := by decide +kernel
theorem dX8_readLand_105 : decode cX8_readLand 105 = .ok (.iconst 0, 1) := by decide +kernel
theorem dX8_readLand_106 : decode cX8_readLand 106 = .ok (.invokevirtual 66, 3) := by decide +kernel
theorem dX8_readLand_109 : decode cX8_readLand 109 = .ok (.goto 72, 3) := by decide +kernel
theorem dX8_readLand_112 : decode cX8_readLand 112 = .ok (.aload_n 0, 1) := by decide +kernel
theorem dX8_readLand_113 : decode cX8_readLand 113 = .ok (.ldc 72, 2) := by decide +kernel
theorem dX8_readLand_115 : decode cX8_readLand 115 = .ok (.invokevirtual 62, 3) := by decide +kernel
theorem dX8_readLand_118 : decode cX8_readLand 118 = .ok (.ifCond .eq 10, 3) := by decide +kernel
theorem dX8_readLand_121 : decode cX8_readLand 121 = .ok (.aload_n 0, 1) := by decide +kernel
theorem dX8_readLand_122 : decode cX8_readLand 122 = .ok (.invokevirtual 74, 3) := by decide +kernel
theorem dX8_readLand_125 : decode cX8_readLand 125 = .ok (.goto 56, 3) := by decide +kernel
theorem dX8_readLand_128 : decode cX8_readLand 128 = .ok (.aload_n 0, 1) := by decide +kernel
theorem dX8_readLand_129 : decode cX8_readLand 129 = .ok (.ldc 77, 2) := by decide +kernel
theorem dX8_readLand_131 : decode cX8_readLand 131 = .ok (.invokevirtual 62, 3) := by decide +kernel
theorem dX8_readLand_134 : decode cX8_readLand 134 = .ok (.ifCond .eq 10, 3) := by decide +kernel
theorem dX8_readLand_137 : decode cX8_readLand 137 = .ok (.aload_n 0, 1) := by decide +kernel
theorem dX8_readLand_138 : decode cX8_readLand 138 = .ok (.invokevirtual 79, 3) := by decide +kernel
theorem dX8_readLand_141 : decode cX8_readLand 141 = .ok (.goto 40, 3) := by decide +kernel
theorem dX8_readLand_144 : decode cX8_readLand 144 = .ok (.aload_n 0, 1) := by decide +kernel
theorem dX8_readLand_145 : decode cX8_readLand 145 = .ok (.ldc 82, 2) := by decide +kernel
theorem dX8_readLand_147 : decode cX8_readLand 147 = .ok (.invokevirtual 62, 3) := by decide +kernel
theorem dX8_readLand_150 : decode cX8_readLand 150 = .ok (.ifCond .eq 10, 3) := by decide +kernel
theorem dX8_readLand_153 : decode cX8_readLand 153 = .ok (.aload_n 0, 1) := by decide +kernel
theorem dX8_readLand_154 : decode cX8_readLand 154 = .ok (.invokevirtual 84, 3) := by decide +kernel
theorem dX8_readLand_157 : decode cX8_readLand 157 = .ok (.goto 24, 3) := by decide +kernel
theorem dX8_readLand_160 : decode cX8_readLand 160 = .ok (.aload_n 0, 1) := by decide +kernel
theorem dX8_readLand_161 : decode cX8_readLand 161 = .ok (.ldc 87, 2) := by decide +kernel
theorem dX8_readLand_163 : decode cX8_readLand 163 = .ok (.invokevirtual 62, 3) := by decide +kernel
theorem dX8_readLand_166 : decode cX8_readLand 166 = .ok (.ifCond .eq 10, 3) := by decide +kernel
theorem dX8_readLand_169 : decode cX8_readLand 169 = .ok (.aload_n 0, 1) := by decide +kernel
theorem dX8_readLand_170 : decode cX8_readLand 170 = .ok (.invokevirtual 89, 3) := by decide +kernel
theorem dX8_readLand_173 : decode cX8_readLand 173 = .ok (.goto 8, 3) := by decide +kernel
theorem dX8_readLand_176 : decode cX8_readLand 176 = .ok (.aload_n 0, 1) := by decide +kernel
theorem dX8_readLand_177 : decode cX8_readLand 177 = .ok (.iconst 1, 1) := by decide +kernel
theorem dX8_readLand_178 : decode cX8_readLand 178 = .ok (.invokevirtual 92, 3) := by decide +kernel
theorem dX8_readLand_181 : decode cX8_readLand 181 = .ok (.iinc 2 1, 3) := by decide +kernel
theorem dX8_readLand_184 : decode cX8_readLand 184 = .ok (.goto (-129), 3) := by decide +kernel
theorem dX8_readLand_187 : decode cX8_readLand 187 = .ok (.aload_n 0, 1) := by decide +kernel
theorem dX8_readLand_188 : decode cX8_readLand 188 = .ok (.getfield 48, 3) := by decide +kernel
theorem dX8_readLand_191 : decode cX8_readLand 191 = .ok (.ireturn, 1) := by decide +kernel
theorem dX8_readWall_0 : decode cX8_readWall 0 = .ok (.aload_n 0, 1) := by decide +kernel
theorem dX8_readWall_1 : decode cX8_readWall 1 = .ok (.getfield 18, 3) := by decide +kernel
theorem dX8_readWall_4 : decode cX8_readWall 4 = .ok (.getfield 96, 3) := by decide +kernel
theorem dX8_readWall_7 : decode cX8_readWall 7 = .ok (.bipush 6, 2) := by decide +kernel
theorem dX8_readWall_9 : decode cX8_readWall 9 = .ok (.if_icmp .lt 9, 3) := by decide +kernel
theorem dX8_readWall_12 : decode cX8_readWall 12 = .ok (.aload_n 0, 1) := by decide +kernel
theorem dX8_readWall_13 : decode cX8_readWall 13 = .ok (.iconst 2, 1) := by decide +kernel
theorem dX8_readWall_14 : decode cX8_readWall 14 = .ok (.invokevirtual 92, 3) := by decide +kernel
theorem dX8_readWall_17 : decode cX8_readWall 17 = .ok (.return_, 1) := by decide +kernel
theorem dX8_readWall_18 : decode cX8_readWall 18 = .ok (.aload_n 0, 1) := by decide +kernel
theorem dX8_readWall_19 : decode cX8_readWall 19 = .ok (.invokevirtual 54, 3) := by decide +kernel
theorem dX8_readWall_22 : decode cX8_readWall 22 = .ok (.aload_n 0, 1) := by decide +kernel
theorem dX8_readWall_23 : decode cX8_readWall 23 = .ok (.getfield 18, 3) := by decide +kernel
theorem dX8_readWall_26 : decode cX8_readWall 26 = .ok (.getfield 99, 3) := by decide +kernel
theorem dX8_readWall_29 : decode cX8_readWall 29 = .ok (.aload_n 0, 1) := by decide +kernel
theorem dX8_readWall_30 : decode cX8_readWall 30 = .ok (.getfield 18, 3) := by decide +kernel
theorem dX8_readWall_33 : decode cX8_readWall 33 = .ok (.getfield 96, 3) := by decide +kernel
theorem dX8_readWall_36 : decode cX8_readWall 36 = .ok (.aaload, 1) := by decide +kernel
theorem dX8_readWall_37 : decode cX8_readWall 37 = .ok (.astore_n 2, 1) := by decide +kernel
theorem dX8_readWall_38 : decode cX8_readWall 38 = .ok (.aload_n 2, 1) := by decide +kernel
theorem dX8_readWall_39 : decode cX8_readWall 39 = .ok (.iload_n 1, 1) := by decide +kernel
theorem dX8_readWall_40 : decode cX8_readWall 40 = .ok (.putfield 103, 3) := by decide +kernel
theorem dX8_readWall_43 : decode cX8_readWall 43 = .ok (.aload_n 2, 1) := by decide +kernel
theorem dX8_readWall_44 : decode cX8_readWall 44 = .ok (.aload_n 0, 1) := by decide +kernel
theorem dX8_readWall_45 : decode cX8_readWall 45 = .ok (.iconst 0, 1) := by decide +kernel
theorem dX8_readWall_46 : decode cX8_readWall 46 = .ok (.bipush 40, 2) := by decide +kernel
theorem dX8_readWall_48 : decode cX8_readWall 48 = .ok (.iconst 0, 1) := by decide +kernel
theorem dX8_readWall_49 : decode cX8_readWall 49 = .ok (.invokevirtual 107, 3) := by decide +kernel
theorem dX8_readWall_52 : decode cX8_readWall 52 = .ok (.putfield 111, 3) := by decide +kernel
theorem dX8_readWall_55 : decode cX8_readWall 55 = .ok (.aload_n 2, 1) := by decide +kernel
theorem dX8_readWall_56 : decode cX8_readWall 56 = .ok (.aload_n 0, 1) := by decide +kernel
theorem dX8_readWall_57 : decode cX8_readWall 57 = .ok (.iconst 0, 1) := by decide +kernel
theorem dX8_readWall_58 : decode cX8_readWall 58 = .ok (.bipush 40, 2) := by decide +kernel
theorem dX8_readWall_60 : decode cX8_readWall 60 = .ok (.iconst 0, 1) := by decide +kernel
theorem dX8_readWall_61 : decode cX8_readWall 61 = .ok (.invokevirtual 107, 3) := by decide +kernel
theorem dX8_readWall_64 : decode cX8_readWall 64 = .ok (.putfield 114, 3) := by decide +kernel
theorem dX8_readWall_67 : decode cX8_readWall 67 = .ok (.aload_n 2, 1) := by decide +kernel
theorem dX8_readWall_68 : decode cX8_readWall 68 = .ok (.aload_n 0, 1) := by decide +kernel
theorem dX8_readWall_69 : decode cX8_readWall 69 = .ok (.iconst 0, 1) := by decide +kernel
theorem dX8_readWall_70 : decode cX8_readWall 70 = .ok (.bipush 40, 2) := by decide +kernel
theorem dX8_readWall_72 : decode cX8_readWall 72 = .ok (.aload_n 2, 1) := by decide +kernel
theorem dX8_readWall_73 : decode cX8_readWall 73 = .ok (.getfield 114, 3) := by decide +kernel
theorem dX8_readWall_76 : decode cX8_readWall 76 = .ok (.iconst 1, 1) := by decide +kernel
theorem dX8_readWall_77 : decode cX8_readWall 77 = .ok (.iadd, 1) := by decide +kernel
theorem dX8_readWall_78 : decode cX8_readWall 78 = .ok (.invokevirtual 107, 3) := by decide +kernel
theorem dX8_readWall_81 : decode cX8_readWall 81 = .ok (.putfield 117, 3) := by decide +kernel
theorem dX8_readWall_84 : decode cX8_readWall 84 = .ok (.aload_n 2, 1) := by decide +kernel
theorem dX8_readWall_85 : decode cX8_readWall 85 = .ok (.aload_n 0, 1) := by decide +kernel
theorem dX8_readWall_86 : decode cX8_readWall 86 = .ok (.invokevirtual 120, 3) := by decide +kernel
theorem dX8_readWall_89 : decode cX8_readWall 89 = .ok (.putfield 124, 3) := by decide +kernel
theorem dX8_readWall_92 : decode cX8_readWall 92 = .ok (.aload_n 0, 1) := by decide +kernel
theorem dX8_readWall_93 : decode cX8_readWall 93 = .ok (.invokevirtual 127, 3) := by decide +kernel
theorem dX8_readWall_96 : decode cX8_readWall 96 = .ok (.aload_n 0, 1) := by decide +kernel
theorem dX8_readWall_97 : decode cX8_readWall 97 = .ok (.getfield 18, 3) := by decide +kernel
theorem dX8_readWall_100 : decode cX8_readWall 100 = .ok (.dup, 1) := by decide +kernel
theorem dX8_readWall_101 : decode cX8_readWall 101 = .ok (.getfield 96, 3) := by decide +kernel
theorem dX8_readWall_104 : decode cX8_readWall 104 = .ok (.iconst 1, 1) := by decide +kernel
theorem dX8_readWall_105 : decode cX8_readWall 105 = .ok (.iadd, 1) := by decide +kernel
theorem dX8_readWall_106 : decode cX8_readWall 106 = .ok (.putfield 96, 3) := by decide +kernel
theorem dX8_readWall_109 : decode cX8_readWall 109 = .ok (.return_, 1) := by decide +kernel
theorem dX8_readBarn_0 : decode cX8_readBarn 0 = .ok (.aload_n 0, 1) := by decide +kernel
theorem dX8_readBarn_1 : decode cX8_readBarn 1 = .ok (.getfield 18, 3) := by decide +kernel
theorem dX8_readBarn_4 : decode cX8_readBarn 4 = .ok (.getfield 130, 3) := by decide +kernel
theorem dX8_readBarn_7 : decode cX8_readBarn 7 = .ok (.bipush 6, 2) := by decide +kernel
theorem dX8_readBarn_9 : decode cX8_readBarn 9 = .ok (.if_icmp .lt 9, 3) := by decide +kernel
theorem dX8_readBarn_12 : decode cX8_readBarn 12 = .ok (.aload_n 0, 1) := by decide +kernel
theorem dX8_readBarn_13 : decode cX8_readBarn 13 = .ok (.iconst 2, 1) := by decide +kernel
theorem dX8_readBarn_14 : decode cX8_readBarn 14 = .ok (.invokevirtual 92, 3) := by decide +kernel
theorem dX8_readBarn_17 : decode cX8_readBarn 17 = .ok (.return_, 1) := by decide +kernel
theorem dX8_readBarn_18 : decode cX8_readBarn 18 = .ok (.aload_n 0, 1) := by decide +kernel
theorem dX8_readBarn_19 : decode cX8_readBarn 19 = .ok (.invokevirtual 54, 3) := by decide +kernel
theorem dX8_readBarn_22 : decode cX8_readBarn 22 = .ok (.aload_n 0, 1) := by decide +kernel
theorem dX8_readBarn_23 : decode cX8_readBarn 23 = .ok (.getfield 18, 3) := by decide +kernel
theorem dX8_readBarn_26 : decode cX8_readBarn 26 = .ok (.getfield 133, 3) := by decide +kernel
theorem dX8_readBarn_29 : decode cX8_readBarn 29 = .ok (.aload_n 0, 1) := by decide +kernel
theorem dX8_readBarn_30 : decode cX8_readBarn 30 = .ok (.getfield 18, 3) := by decide +kernel
theorem dX8_readBarn_33 : decode cX8_readBarn 33 = .ok (.getfield 130, 3) := by decide +kernel
theorem dX8_readBarn_36 : decode cX8_readBarn 36 = .ok (.aaload, 1) := by decide +kernel
theorem dX8_readBarn_37 : decode cX8_readBarn 37 = .ok (.astore_n 1, 1) := by decide +kernel
theorem dX8_readBarn_38 : decode cX8_readBarn 38 = .ok (.aload_n 1, 1) := by decide +kernel
theorem dX8_readBarn_39 : decode cX8_readBarn 39 = .ok (.aload_n 0, 1) := by decide +kernel
theorem dX8_readBarn_40 : decode cX8_readBarn 40 = .ok (.iconst 0, 1) := by decide +kernel
theorem dX8_readBarn_41 : decode cX8_readBarn 41 = .ok (.bipush 40, 2) := by decide +kernel
theorem dX8_readBarn_43 : decode cX8_readBarn 43 = .ok (.iconst 0, 1) := by decide +kernel
theorem dX8_readBarn_44 : decode cX8_readBarn 44 = .ok (.invokevirtual 107, 3) := by decide +kernel
theorem dX8_readBarn_47 : decode cX8_readBarn 47 = .ok (.putfield 137, 3) := by decide +kernel
theorem dX8_readBarn_50 : decode cX8_readBarn 50 = .ok (.aload_n 1, 1) := by decide +kernel
theorem dX8_readBarn_51 : decode cX8_readBarn 51 = .ok (.aload_n 0, 1) := by decide +kernel
theorem dX8_readBarn_52 : decode cX8_readBarn 52 = .ok (.iconst 0, 1) := by decide +kernel
theorem dX8_readBarn_53 : decode cX8_readBarn 53 = .ok (.bipush 40, 2) := by decide +kernel
theorem dX8_readBarn_55 : decode cX8_readBarn 55 = .ok (.iconst 0, 1) := by decide +kernel
theorem dX8_readBarn_56 : decode cX8_readBarn 56 = .ok (.invokevirtual 107, 3) := by decide +kernel
theorem dX8_readBarn_59 : decode cX8_readBarn 59 = .ok (.putfield 142, 3) := by decide +kernel
theorem dX8_readBarn_62 : decode cX8_readBarn 62 = .ok (.aload_n 1, 1) := by decide +kernel
theorem dX8_readBarn_63 : decode cX8_readBarn 63 = .ok (.aload_n 0, 1) := by decide +kernel
theorem dX8_readBarn_64 : decode cX8_readBarn 64 = .ok (.invokevirtual 120, 3) := by decide +kernel
theorem dX8_readBarn_67 : decode cX8_readBarn 67 = .ok (.putfield 145, 3) := by decide +kernel
theorem dX8_readBarn_70 : decode cX8_readBarn 70 = .ok (.aload_n 1, 1) := by decide +kernel
theorem dX8_readBarn_71 : decode cX8_readBarn 71 = .ok (.iconst 0, 1) := by decide +kernel
theorem dX8_readBarn_72 : decode cX8_readBarn 72 = .ok (.putfield 146, 3) := by decide +kernel
theorem dX8_readBarn_75 : decode cX8_readBarn 75 = .ok (.aload_n 1, 1) := by decide +kernel
theorem dX8_readBarn_76 : decode cX8_readBarn 76 = .ok (.bipush 99, 2) := by decide +kernel
theorem dX8_readBarn_78 : decode cX8_readBarn 78 = .ok (.putfield 147, 3) := by decide +kernel
theorem dX8_readBarn_81 : decode cX8_readBarn 81 = .ok (.aload_n 0, 1) := by decide +kernel
theorem dX8_readBarn_82 : decode cX8_readBarn 82 = .ok (.ldc 148, 2) := by decide +kernel
theorem dX8_readBarn_84 : decode cX8_readBarn 84 = .ok (.invokevirtual 62, 3) := by decide +kernel
theorem dX8_readBarn_87 : decode cX8_readBarn 87 = .ok (.ifCond .eq 34, 3) := by decide +kernel
theorem dX8_readBarn_90 : decode cX8_readBarn 90 = .ok (.aload_n 0, 1) := by decide +kernel
theorem dX8_readBarn_91 : decode cX8_readBarn 91 = .ok (.invokevirtual 54, 3) := by decide +kernel
theorem dX8_readBarn_94 : decode cX8_readBarn 94 = .ok (.aload_n 1, 1) := by decide +kernel
theorem dX8_readBarn_95 : decode cX8_readBarn 95 = .ok (.aload_n 0, 1) := by decide +kernel
theorem dX8_readBarn_96 : decode cX8_readBarn 96 = .ok (.iconst 0, 1) := by decide +kernel
theorem dX8_readBarn_97 : decode cX8_readBarn 97 = .ok (.bipush 99, 2) := by decide +kernel
theorem dX8_readBarn_99 : decode cX8_readBarn 99 = .ok (.iconst 0, 1) := by decide +kernel
theorem dX8_readBarn_100 : decode cX8_readBarn 100 = .ok (.invokevirtual 107, 3) := by decide +kernel
theorem dX8_readBarn_103 : decode cX8_readBarn 103 = .ok (.putfield 146, 3) := by decide +kernel
theorem dX8_readBarn_106 : decode cX8_readBarn 106 = .ok (.aload_n 1, 1) := by decide +kernel
theorem dX8_readBarn_107 : decode cX8_readBarn 107 = .ok (.aload_n 0, 1) := by decide +kernel
theorem dX8_readBarn_108 : decode cX8_readBarn 108 = .ok (.iconst 0, 1) := by decide +kernel
theorem dX8_readBarn_109 : decode cX8_readBarn 109 = .ok (.bipush 99, 2) := by decide +kernel
theorem dX8_readBarn_111 : decode cX8_readBarn 111 = .ok (.aload_n 1, 1) := by decide +kernel
theorem dX8_readBarn_112 : decode cX8_readBarn 112 = .ok (.getfield 146, 3) := by decide +kernel
theorem dX8_readBarn_115 : decode cX8_readBarn 115 = .ok (.invokevirtual 107, 3) := by decide +kernel
theorem dX8_readBarn_118 : decode cX8_readBarn 118 = .ok (.putfield 147, 3) := by decide +kernel
theorem dX8_readBarn_121 : decode cX8_readBarn 121 = .ok (.aload_n 0, 1) := by decide +kernel
theorem dX8_readBarn_122 : decode cX8_readBarn 122 = .ok (.invokevirtual 127, 3) := by decide +kernel
theorem dX8_readBarn_125 : decode cX8_readBarn 125 = .ok (.aload_n 0, 1) := by decide +kernel
theorem dX8_readBarn_126 : decode cX8_readBarn 126 = .ok (.getfield 18, 3) := by decide +kernel
theorem dX8_readBarn_129 : decode cX8_readBarn 129 = .ok (.dup, 1) := by decide +kernel
theorem dX8_readBarn_130 : decode cX8_readBarn 130 = .ok (.getfield 130, 3) := by decide +kernel
theorem dX8_readBarn_133 : decode cX8_readBarn 133 = .ok (.iconst 1, 1) := by decide +kernel
theorem dX8_readBarn_134 : decode cX8_readBarn 134 = .ok (.iadd, 1) := by decide +kernel
theorem dX8_readBarn_135 : decode cX8_readBarn 135 = .ok (.putfield 130, 3) := by decide +kernel
theorem dX8_readBarn_138 : decode cX8_readBarn 138 = .ok (.return_, 1) := by decide +kernel
theorem dX8_readWood_0 : decode cX8_readWood 0 = .ok (.aload_n 0, 1) := by decide +kernel
theorem dX8_readWood_1 : decode cX8_readWood 1 = .ok (.getfield 18, 3) := by decide +kernel
theorem dX8_readWood_4 : decode cX8_readWood 4 = .ok (.getfield 150, 3) := by decide +kernel
theorem dX8_readWood_7 : decode cX8_readWood 7 = .ok (.iconst 4, 1) := by decide +kernel
theorem dX8_readWood_8 : decode cX8_readWood 8 = .ok (.if_icmp .lt 9, 3) := by decide +kernel
theorem dX8_readWood_11 : decode cX8_readWood 11 = .ok (.aload_n 0, 1) := by decide +kernel
theorem dX8_readWood_12 : decode cX8_readWood 12 = .ok (.iconst 2, 1) := by decide +kernel
theorem dX8_readWood_13 : decode cX8_readWood 13 = .ok (.invokevirtual 92, 3) := by decide +kernel
theorem dX8_readWood_16 : decode cX8_readWood 16 = .ok (.return_, 1) := by decide +kernel
theorem dX8_readWood_17 : decode cX8_readWood 17 = .ok (.aload_n 0, 1) := by decide +kernel
theorem dX8_readWood_18 : decode cX8_readWood 18 = .ok (.invokevirtual 54, 3) := by decide +kernel
theorem dX8_readWood_21 : decode cX8_readWood 21 = .ok (.aload_n 0, 1) := by decide +kernel
theorem dX8_readWood_22 : decode cX8_readWood 22 = .ok (.getfield 18, 3) := by decide +kernel
theorem dX8_readWood_25 : decode cX8_readWood 25 = .ok (.getfield 153, 3) := by decide +kernel
theorem dX8_readWood_28 : decode cX8_readWood 28 = .ok (.aload_n 0, 1) := by decide +kernel
theorem dX8_readWood_29 : decode cX8_readWood 29 = .ok (.getfield 18, 3) := by decide +kernel
theorem dX8_readWood_32 : decode cX8_readWood 32 = .ok (.getfield 150, 3) := by decide +kernel
theorem dX8_readWood_35 : decode cX8_readWood 35 = .ok (.aaload, 1) := by decide +kernel
theorem dX8_readWood_36 : decode cX8_readWood 36 = .ok (.astore_n 1, 1) := by decide +kernel
theorem dX8_readWood_37 : decode cX8_readWood 37 = .ok (.aload_n 1, 1) := by decide +kernel
theorem dX8_readWood_38 : decode cX8_readWood 38 = .ok (.aload_n 0, 1) := by decide +kernel
theorem dX8_readWood_39 : decode cX8_readWood 39 = .ok (.iconst 0, 1) := by decide +kernel
theorem dX8_readWood_40 : decode cX8_readWood 40 = .ok (.bipush 40, 2) := by decide +kernel
theorem dX8_readWood_42 : decode cX8_readWood 42 = .ok (.iconst 0, 1) := by decide +kernel
theorem dX8_readWood_43 : decode cX8_readWood 43 = .ok (.invokevirtual 107, 3) := by decide +kernel
theorem dX8_readWood_46 : decode cX8_readWood 46 = .ok (.putfield 157, 3) := by decide +kernel
theorem dX8_readWood_49 : decode cX8_readWood 49 = .ok (.aload_n 1, 1) := by decide +kernel
theorem dX8_readWood_50 : decode cX8_readWood 50 = .ok (.aload_n 0, 1) := by decide +kernel
theorem dX8_readWood_51 : decode cX8_readWood 51 = .ok (.iconst 0, 1) := by decide +kernel
theorem dX8_readWood_52 : decode cX8_readWood 52 = .ok (.bipush 40, 2) := by decide +kernel
theorem dX8_readWood_54 : decode cX8_readWood 54 = .ok (.iconst 0, 1) := by decide +kernel
theorem dX8_readWood_55 : decode cX8_readWood 55 = .ok (.invokevirtual 107, 3) := by decide +kernel
theorem dX8_readWood_58 : decode cX8_readWood 58 = .ok (.putfield 162, 3) := by decide +kernel
theorem dX8_readWood_61 : decode cX8_readWood 61 = .ok (.aload_n 1, 1) := by decide +kernel
theorem dX8_readWood_62 : decode cX8_readWood 62 = .ok (.aload_n 0, 1) := by decide +kernel
theorem dX8_readWood_63 : decode cX8_readWood 63 = .ok (.iconst 0, 1) := by decide +kernel
theorem dX8_readWood_64 : decode cX8_readWood 64 = .ok (.bipush 40, 2) := by decide +kernel
theorem dX8_readWood_66 : decode cX8_readWood 66 = .ok (.aload_n 1, 1) := by decide +kernel
theorem dX8_readWood_67 : decode cX8_readWood 67 = .ok (.getfield 157, 3) := by decide +kernel
theorem dX8_readWood_70 : decode cX8_readWood 70 = .ok (.invokevirtual 107, 3) := by decide +kernel
theorem dX8_readWood_73 : decode cX8_readWood 73 = .ok (.putfield 165, 3) := by decide +kernel
theorem dX8_readWood_76 : decode cX8_readWood 76 = .ok (.aload_n 1, 1) := by decide +kernel
theorem dX8_readWood_77 : decode cX8_readWood 77 = .ok (.aload_n 0, 1) := by decide +kernel
theorem dX8_readWood_78 : decode cX8_readWood 78 = .ok (.iconst 0, 1) := by decide +kernel
theorem dX8_readWood_79 : decode cX8_readWood 79 = .ok (.bipush 40, 2) := by decide +kernel
theorem dX8_readWood_81 : decode cX8_readWood 81 = .ok (.aload_n 1, 1) := by decide +kernel
theorem dX8_readWood_82 : decode cX8_readWood 82 = .ok (.getfield 162, 3) := by decide +kernel
theorem dX8_readWood_85 : decode cX8_readWood 85 = .ok (.invokevirtual 107, 3) := by decide +kernel
theorem dX8_readWood_88 : decode cX8_readWood 88 = .ok (.putfield 168, 3) := by decide +kernel
theorem dX8_readWood_91 : decode cX8_readWood 91 = .ok (.iconst 0, 1) := by decide +kernel
theorem dX8_readWood_92 : decode cX8_readWood 92 = .ok (.istore_n 2, 1) := by decide +kernel
theorem dX8_readWood_93 : decode cX8_readWood 93 = .ok (.iload_n 2, 1) := by decide +kernel
theorem dX8_readWood_94 : decode cX8_readWood 94 = .ok (.iconst 3, 1) := by decide +kernel
theorem dX8_readWood_95 : decode cX8_readWood 95 = .ok (.if_icmp .ge 23, 3) := by decide +kernel
theorem dX8_readWood_98 : decode cX8_readWood 98 = .ok (.aload_n 1, 1) := by decide +kernel
theorem dX8_readWood_99 : decode cX8_readWood 99 = .ok (.getfield 171, 3) := by decide +kernel
theorem dX8_readWood_102 : decode cX8_readWood 102 = .ok (.iload_n 2, 1) := by decide +kernel
theorem dX8_readWood_103 : decode cX8_readWood 103 = .ok (.aload_n 0, 1) := by decide +kernel
theorem dX8_readWood_104 : decode cX8_readWood 104 = .ok (.iconst 0, 1) := by decide +kernel
theorem dX8_readWood_105 : decode cX8_readWood 105 = .ok (.bipush 100, 2) := by decide +kernel
theorem dX8_readWood_107 : decode cX8_readWood 107 = .ok (.iconst 0, 1) := by decide +kernel
theorem dX8_readWood_108 : decode cX8_readWood 108 = .ok (.invokevirtual 107, 3) := by decide +kernel
theorem dX8_readWood_111 : decode cX8_readWood 111 = .ok (.iastore, 1) := by decide +kernel
theorem dX8_readWood_112 : decode cX8_readWood 112 = .ok (.iinc 2 1, 3) := by decide +kernel
theorem dX8_readWood_115 : decode cX8_readWood 115 = .ok (.goto (-22), 3) := by decide +kernel
theorem dX8_readWood_118 : decode cX8_readWood 118 = .ok (.aload_n 0, 1) := by decide +kernel
theorem dX8_readWood_119 : decode cX8_readWood 119 = .ok (.invokevirtual 127, 3) := by decide +kernel
theorem dX8_readWood_122 : decode cX8_readWood 122 = .ok (.aload_n 0, 1) := by decide +kernel
theorem dX8_readWood_123 : decode cX8_readWood 123 = .ok (.getfield 18, 3) := by decide +kernel
theorem dX8_readWood_126 : decode cX8_readWood 126 = .ok (.dup, 1) := by decide +kernel
theorem dX8_readWood_127 : decode cX8_readWood 127 = .ok (.getfield 150, 3) := by decide +kernel
theorem dX8_readWood_130 : decode cX8_readWood 130 = .ok (.iconst 1, 1) := by decide +kernel
theorem dX8_readWood_131 : decode cX8_readWood 131 = .ok (.iadd, 1) := by decide +kernel
theorem dX8_readWood_132 : decode cX8_readWood 132 = .ok (.putfield 150, 3) := by decide +kernel
theorem dX8_readWood_135 : decode cX8_readWood 135 = .ok (.return_, 1) := by decide +kernel
theorem dX8_readHears_0 : decode cX8_readHears 0 = .ok (.aload_n 0, 1) := by decide +kernel
theorem dX8_readHears_1 : decode cX8_readHears 1 = .ok (.getfield 41, 3) := by decide +kernel
theorem dX8_readHears_4 : decode cX8_readHears 4 = .ok (.ifCond .eq 9, 3) := by decide +kernel
theorem dX8_readHears_7 : decode cX8_readHears 7 = .ok (.aload_n 0, 1) := by decide +kernel
theorem dX8_readHears_8 : decode cX8_readHears 8 = .ok (.iconst 4, 1) := by decide +kernel
theorem dX8_readHears_9 : decode cX8_readHears 9 = .ok (.invokevirtual 92, 3) := by decide +kernel
theorem dX8_readHears_12 : decode cX8_readHears 12 = .ok (.return_, 1) := by decide +kernel
theorem dX8_readHears_13 : decode cX8_readHears 13 = .ok (.aload_n 0, 1) := by decide +kernel
theorem dX8_readHears_14 : decode cX8_readHears 14 = .ok (.iconst 1, 1) := by decide +kernel
theorem dX8_readHears_15 : decode cX8_readHears 15 = .ok (.putfield 41, 3) := by decide +kernel
theorem dX8_readHears_18 : decode cX8_readHears 18 = .ok (.aload_n 0, 1) := by decide +kernel
theorem dX8_readHears_19 : decode cX8_readHears 19 = .ok (.invokevirtual 54, 3) := by decide +kernel
theorem dX8_readHears_22 : decode cX8_readHears 22 = .ok (.aload_n 0, 1) := by decide +kernel
theorem dX8_readHears_23 : decode cX8_readHears 23 = .ok (.getfield 18, 3) := by decide +kernel
theorem dX8_readHears_26 : decode cX8_readHears 26 = .ok (.aload_n 0, 1) := by decide +kernel
theorem dX8_readHears_27 : decode cX8_readHears 27 = .ok (.iconst 0, 1) := by decide +kernel
theorem dX8_readHears_28 : decode cX8_readHears 28 = .ok (.sipush 1000, 3) := by decide +kernel
theorem dX8_readHears_31 : decode cX8_readHears 31 = .ok (.iconst 0, 1) := by decide +kernel
theorem dX8_readHears_32 : decode cX8_readHears 32 = .ok (.invokevirtual 107, 3) := by decide +kernel
theorem dX8_readHears_35 : decode cX8_readHears 35 = .ok (.putfield 175, 3) := by decide +kernel
theorem dX8_readHears_38 : decode cX8_readHears 38 = .ok (.aload_n 0, 1) := by decide +kernel
theorem dX8_readHears_39 : decode cX8_readHears 39 = .ok (.invokevirtual 127, 3) := by decide +kernel
theorem dX8_readHears_42 : decode cX8_readHears 42 = .ok (.return_, 1) := by decide +kernel
theorem dX8_readAir_0 : decode cX8_readAir 0 = .ok (.aload_n 0, 1) := by decide +kernel
theorem dX8_readAir_1 : decode cX8_readAir 1 = .ok (.getfield 45, 3) := by decide +kernel
theorem dX8_readAir_4 : decode cX8_readAir 4 = .ok (.ifCond .eq 9, 3) := by decide +kernel
theorem dX8_readAir_7 : decode cX8_readAir 7 = .ok (.aload_n 0, 1) := by decide +kernel
theorem dX8_readAir_8 : decode cX8_readAir 8 = .ok (.iconst 4, 1) := by decide +kernel
theorem dX8_readAir_9 : decode cX8_readAir 9 = .ok (.invokevirtual 92, 3) := by decide +kernel
theorem dX8_readAir_12 : decode cX8_readAir 12 = .ok (.return_, 1) := by decide +kernel
theorem dX8_readAir_13 : decode cX8_readAir 13 = .ok (.aload_n 0, 1) := by decide +kernel
theorem dX8_readAir_14 : decode cX8_readAir 14 = .ok (.iconst 1, 1) := by decide +kernel
theorem dX8_readAir_15 : decode cX8_readAir 15 = .ok (.putfield 45, 3) := by decide +kernel
theorem dX8_readAir_18 : decode cX8_readAir 18 = .ok (.aload_n 0, 1) := by decide +kernel
theorem dX8_readAir_19 : decode cX8_readAir 19 = .ok (.invokevirtual 54, 3) := by decide +kernel
theorem dX8_readAir_22 : decode cX8_readAir 22 = .ok (.aload_n 0, 1) := by decide +kernel
theorem dX8_readAir_23 : decode cX8_readAir 23 = .ok (.getfield 18, 3) := by decide +kernel
theorem dX8_readAir_26 : decode cX8_readAir 26 = .ok (.aload_n 0, 1) := by decide +kernel
theorem dX8_readAir_27 : decode cX8_readAir 27 = .ok (.bipush 50, 2) := by decide +kernel
theorem dX8_readAir_29 : decode cX8_readAir 29 = .ok (.sipush 150, 3) := by decide +kernel
theorem dX8_readAir_32 : decode cX8_readAir 32 = .ok (.bipush 50, 2) := by decide +kernel
theorem dX8_readAir_34 : decode cX8_readAir 34 = .ok (.invokevirtual 107, 3) := by decide +kernel
theorem dX8_readAir_37 : decode cX8_readAir 37 = .ok (.putfield 177, 3) := by decide +kernel
theorem dX8_readAir_40 : decode cX8_readAir 40 = .ok (.aload_n 0, 1) := by decide +kernel
theorem dX8_readAir_41 : decode cX8_readAir 41 = .ok (.invokevirtual 127, 3) := by decide +kernel
theorem dX8_readAir_44 : decode cX8_readAir 44 = .ok (.return_, 1) := by decide +kernel
theorem dX8_readLoss_0 : decode cX8_readLoss 0 = .ok (.aload_n 0, 1) := by decide +kernel
theorem dX8_readLoss_1 : decode cX8_readLoss 1 = .ok (.ldc 179, 2) := by decide +kernel
theorem dX8_readLoss_3 : decode cX8_readLoss 3 = .ok (.invokevirtual 62, 3) := by decide +kernel
theorem dX8_readLoss_6 : decode cX8_readLoss 6 = .ok (.ifCond .ne 5, 3) := by decide +kernel
theorem dX8_readLoss_9 : decode cX8_readLoss 9 = .ok (.iconst 0, 1) := by decide +kernel
theorem dX8_readLoss_10 : decode cX8_readLoss 10 = .ok (.ireturn, 1) := by decide +kernel
theorem dX8_readLoss_11 : decode cX8_readLoss 11 = .ok (.aload_n 0, 1) := by decide +kernel
theorem dX8_readLoss_12 : decode cX8_readLoss 12 = .ok (.invokevirtual 54, 3) := by decide +kernel
theorem dX8_readLoss_15 : decode cX8_readLoss 15 = .ok (.aload_n 0, 1) := by decide +kernel
theorem dX8_readLoss_16 : decode cX8_readLoss 16 = .ok (.iconst 0, 1) := by decide +kernel
theorem dX8_readLoss_17 : decode cX8_readLoss 17 = .ok (.bipush 100, 2) := by decide +kernel
theorem dX8_readLoss_19 : decode cX8_readLoss 19 = .ok (.iconst 0, 1) := by decide +kernel
theorem dX8_readLoss_20 : decode cX8_readLoss 20 = .ok (.invokevirtual 107, 3) := by decide +kernel
theorem dX8_readLoss_23 : decode cX8_readLoss 23 = .ok (.ireturn, 1) := by decide +kernel
theorem dX8_readNumber_0 : decode cX8_readNumber 0 = .ok (.aload_n 0, 1) := by decide +kernel
theorem dX8_readNumber_1 : decode cX8_readNumber 1 = .ok (.getfield 48, 3) := by decide +kernel
theorem dX8_readNumber_4 : decode cX8_readNumber 4 = .ok (.ifCond .eq 5, 3) := by decide +kernel
theorem dX8_readNumber_7 : decode cX8_readNumber 7 = .ok (.iload_n 1, 1) := by decide +kernel
theorem dX8_readNumber_8 : decode cX8_readNumber 8 = .ok (.ireturn, 1) := by decide +kernel
theorem dX8_readNumber_9 : decode cX8_readNumber 9 = .ok (.aload_n 0, 1) := by decide +kernel
theorem dX8_readNumber_10 : decode cX8_readNumber 10 = .ok (.getfield 57, 3) := by decide +kernel
theorem dX8_readNumber_13 : decode cX8_readNumber 13 = .ok (.iconst 1, 1) := by decide +kernel
theorem dX8_readNumber_14 : decode cX8_readNumber 14 = .ok (.if_icmp .eq 10, 3) := by decide +kernel
theorem dX8_readNumber_17 : decode cX8_readNumber 17 = .ok (.aload_n 0, 1) := by decide +kernel
theorem dX8_readNumber_18 : decode cX8_readNumber 18 = .ok (.iconst 1, 1) := by decide +kernel
theorem dX8_readNumber_19 : decode cX8_readNumber 19 = .ok (.invokevirtual 92, 3) := by decide +kernel
theorem dX8_readNumber_22 : decode cX8_readNumber 22 = .ok (.iload_n 1, 1) := by decide +kernel
theorem dX8_readNumber_23 : decode cX8_readNumber 23 = .ok (.ireturn, 1) := by decide +kernel
theorem dX8_readNumber_24 : decode cX8_readNumber 24 = .ok (.aload_n 0, 1) := by decide +kernel
theorem dX8_readNumber_25 : decode cX8_readNumber 25 = .ok (.getfield 180, 3) := by decide +kernel
theorem dX8_readNumber_28 : decode cX8_readNumber 28 = .ok (.iload_n 1, 1) := by decide +kernel
theorem dX8_readNumber_29 : decode cX8_readNumber 29 = .ok (.if_icmp .lt 11, 3) := by decide +kernel
theorem dX8_readNumber_32 : decode cX8_readNumber 32 = .ok (.aload_n 0, 1) := by decide +kernel
theorem dX8_readNumber_33 : decode cX8_readNumber 33 = .ok (.getfield 180, 3) := by decide +kernel
theorem dX8_readNumber_36 : decode cX8_readNumber 36 = .ok (.iload_n 2, 1) := by decide +kernel
theorem dX8_readNumber_37 : decode cX8_readNumber 37 = .ok (.if_icmp .le 10, 3) := by decide +kernel
theorem dX8_readNumber_40 : decode cX8_readNumber 40 = .ok (.aload_n 0, 1) := by decide +kernel
theorem dX8_readNumber_41 : decode cX8_readNumber 41 = .ok (.iconst 2, 1) := by decide +kernel
theorem dX8_readNumber_42 : decode cX8_readNumber 42 = .ok (.invokevirtual 92, 3) := by decide +kernel
theorem dX8_readNumber_45 : decode cX8_readNumber 45 = .ok (.iload_n 1, 1) := by decide +kernel
theorem dX8_readNumber_46 : decode cX8_readNumber 46 = .ok (.ireturn, 1) := by decide +kernel
theorem dX8_readNumber_47 : decode cX8_readNumber 47 = .ok (.aload_n 0, 1) := by decide +kernel
theorem dX8_readNumber_48 : decode cX8_readNumber 48 = .ok (.getfield 180, 3) := by decide +kernel
theorem dX8_readNumber_51 : decode cX8_readNumber 51 = .ok (.iload_n 3, 1) := by decide +kernel
theorem dX8_readNumber_52 : decode cX8_readNumber 52 = .ok (.if_icmp .ge 10, 3) := by decide +kernel
theorem dX8_readNumber_55 : decode cX8_readNumber 55 = .ok (.aload_n 0, 1) := by decide +kernel
theorem dX8_readNumber_56 : decode cX8_readNumber 56 = .ok (.iconst 3, 1) := by decide +kernel
theorem dX8_readNumber_57 : decode cX8_readNumber 57 = .ok (.invokevirtual 92, 3) := by decide +kernel
theorem dX8_readNumber_60 : decode cX8_readNumber 60 = .ok (.iload_n 1, 1) := by decide +kernel
theorem dX8_readNumber_61 : decode cX8_readNumber 61 = .ok (.ireturn, 1) := by decide +kernel
theorem dX8_readNumber_62 : decode cX8_readNumber 62 = .ok (.aload_n 0, 1) := by decide +kernel
theorem dX8_readNumber_63 : decode cX8_readNumber 63 = .ok (.getfield 180, 3) := by decide +kernel
theorem dX8_readNumber_66 : decode cX8_readNumber 66 = .ok (.istore 4, 2) := by decide +kernel
theorem dX8_readNumber_68 : decode cX8_readNumber 68 = .ok (.aload_n 0, 1) := by decide +kernel
theorem dX8_readNumber_69 : decode cX8_readNumber 69 = .ok (.invokevirtual 54, 3) := by decide +kernel
theorem dX8_readNumber_72 : decode cX8_readNumber 72 = .ok (.iload 4, 2) := by decide +kernel
theorem dX8_readNumber_74 : decode cX8_readNumber 74 = .ok (.ireturn, 1) := by decide +kernel
theorem dX8_readSign_0 : decode cX8_readSign 0 = .ok (.aload_n 0, 1) := by decide +kernel
theorem dX8_readSign_1 : decode cX8_readSign 1 = .ok (.getfield 48, 3) := by decide +kernel
theorem dX8_readSign_4 : decode cX8_readSign 4 = .ok (.ifCond .eq 4, 3) := by decide +kernel
theorem dX8_readSign_7 : decode cX8_readSign 7 = .ok (.return_, 1) := by decide +kernel
theorem dX8_readSign_8 : decode cX8_readSign 8 = .ok (.aload_n 0, 1) := by decide +kernel
theorem dX8_readSign_9 : decode cX8_readSign 9 = .ok (.getfield 57, 3) := by decide +kernel
theorem dX8_readSign_12 : decode cX8_readSign 12 = .ok (.iconst 2, 1) := by decide +kernel
theorem dX8_readSign_13 : decode cX8_readSign 13 = .ok (.if_icmp .eq 9, 3) := by decide +kernel
theorem dX8_readSign_16 : decode cX8_readSign 16 = .ok (.aload_n 0, 1) := by decide +kernel
theorem dX8_readSign_17 : decode cX8_readSign 17 = .ok (.iconst 1, 1) := by decide +kernel
theorem dX8_readSign_18 : decode cX8_readSign 18 = .ok (.invokevirtual 92, 3) := by decide +kernel
theorem dX8_readSign_21 : decode cX8_readSign 21 = .ok (.return_, 1) := by decide +kernel
theorem dX8_readSign_22 : decode cX8_readSign 22 = .ok (.aload_n 0, 1) := by decide +kernel
theorem dX8_readSign_23 : decode cX8_readSign 23 = .ok (.invokevirtual 54, 3) := by decide +kernel
theorem dX8_readSign_26 : decode cX8_readSign 26 = .ok (.return_, 1) := by decide +kernel
theorem dX8_refuse_0 : decode cX8_refuse 0 = .ok (.aload_n 0, 1) := by decide +kernel
theorem dX8_refuse_1 : decode cX8_refuse 1 = .ok (.iload_n 1, 1) := by decide +kernel
theorem dX8_refuse_2 : decode cX8_refuse 2 = .ok (.putfield 48, 3) := by decide +kernel
theorem dX8_refuse_5 : decode cX8_refuse 5 = .ok (.aload_n 0, 1) := by decide +kernel
theorem dX8_refuse_6 : decode cX8_refuse 6 = .ok (.aload_n 0, 1) := by decide +kernel
theorem dX8_refuse_7 : decode cX8_refuse 7 = .ok (.getfield 183, 3) := by decide +kernel
theorem dX8_refuse_10 : decode cX8_refuse 10 = .ok (.putfield 22, 3) := by decide +kernel
theorem dX8_refuse_13 : decode cX8_refuse 13 = .ok (.return_, 1) := by decide +kernel
theorem dX8_isWord_0 : decode cX8_isWord 0 = .ok (.aload_n 0, 1) := by decide +kernel
theorem dX8_isWord_1 : decode cX8_isWord 1 = .ok (.getfield 48, 3) := by decide +kernel
theorem dX8_isWord_4 : decode cX8_isWord 4 = .ok (.ifCond .ne 26, 3) := by decide +kernel
theorem dX8_isWord_7 : decode cX8_isWord 7 = .ok (.aload_n 0, 1) := by decide +kernel
theorem dX8_isWord_8 : decode cX8_isWord 8 = .ok (.getfield 57, 3) := by decide +kernel
theorem dX8_isWord_11 : decode cX8_isWord 11 = .ok (.ifCond .ne 19, 3) := by decide +kernel
theorem dX8_isWord_14 : decode cX8_isWord 14 = .ok (.aload_n 0, 1) := by decide +kernel
theorem dX8_isWord_15 : decode cX8_isWord 15 = .ok (.getfield 51, 3) := by decide +kernel
theorem dX8_isWord_18 : decode cX8_isWord 18 = .ok (.aload_n 0, 1) := by decide +kernel
theorem dX8_isWord_19 : decode cX8_isWord 19 = .ok (.getfield 183, 3) := by decide +kernel
theorem dX8_isWord_22 : decode cX8_isWord 22 = .ok (.isub, 1) := by decide +kernel
theorem dX8_isWord_23 : decode cX8_isWord 23 = .ok (.aload_n 1, 1) := by decide +kernel
theorem dX8_isWord_24 : decode cX8_isWord 24 = .ok (.invokevirtual 186, 3) := by decide +kernel
theorem dX8_isWord_27 : decode cX8_isWord 27 = .ok (.if_icmp .eq 5, 3) := by decide +kernel
theorem dX8_isWord_30 : decode cX8_isWord 30 = .ok (.iconst 0, 1) := by decide +kernel
theorem dX8_isWord_31 : decode cX8_isWord 31 = .ok (.ireturn, 1) := by decide +kernel
theorem dX8_isWord_32 : decode cX8_isWord 32 = .ok (.iconst 0, 1) := by decide +kernel
theorem dX8_isWord_33 : decode cX8_isWord 33 = .ok (.istore_n 2, 1) := by decide +kernel
theorem dX8_isWord_34 : decode cX8_isWord 34 = .ok (.iload_n 2, 1) := by decide +kernel
theorem dX8_isWord_35 : decode cX8_isWord 35 = .ok (.aload_n 1, 1) := by decide +kernel
theorem dX8_isWord_36 : decode cX8_isWord 36 = .ok (.invokevirtual 186, 3) := by decide +kernel
theorem dX8_isWord_39 : decode cX8_isWord 39 = .ok (.if_icmp .ge 30, 3) := by decide +kernel
theorem dX8_isWord_42 : decode cX8_isWord 42 = .ok (.aload_n 0, 1) := by decide +kernel
theorem dX8_isWord_43 : decode cX8_isWord 43 = .ok (.getfield 9, 3) := by decide +kernel
theorem dX8_isWord_46 : decode cX8_isWord 46 = .ok (.aload_n 0, 1) := by decide +kernel
theorem dX8_isWord_47 : decode cX8_isWord 47 = .ok (.getfield 183, 3) := by decide +kernel
theorem dX8_isWord_50 : decode cX8_isWord 50 = .ok (.iload_n 2, 1) := by decide +kernel
theorem dX8_isWord_51 : decode cX8_isWord 51 = .ok (.iadd, 1) := by decide +kernel
theorem dX8_isWord_52 : decode cX8_isWord 52 = .ok (.baload, 1) := by decide +kernel
theorem dX8_isWord_53 : decode cX8_isWord 53 = .ok (.aload_n 1, 1) := by decide +kernel
theorem dX8_isWord_54 : decode cX8_isWord 54 = .ok (.iload_n 2, 1) := by decide +kernel
theorem dX8_isWord_55 : decode cX8_isWord 55 = .ok (.invokevirtual 190, 3) := by decide +kernel
theorem dX8_isWord_58 : decode cX8_isWord 58 = .ok (.if_icmp .eq 5, 3) := by decide +kernel
theorem dX8_isWord_61 : decode cX8_isWord 61 = .ok (.iconst 0, 1) := by decide +kernel
theorem dX8_isWord_62 : decode cX8_isWord 62 = .ok (.ireturn, 1) := by decide +kernel
theorem dX8_isWord_63 : decode cX8_isWord 63 = .ok (.iinc 2 1, 3) := by decide +kernel
theorem dX8_isWord_66 : decode cX8_isWord 66 = .ok (.goto (-32), 3) := by decide +kernel
theorem dX8_isWord_69 : decode cX8_isWord 69 = .ok (.iconst 1, 1) := by decide +kernel
theorem dX8_isWord_70 : decode cX8_isWord 70 = .ok (.ireturn, 1) := by decide +kernel
theorem dX8_takeToken_0 : decode cX8_takeToken 0 = .ok (.aload_n 0, 1) := by decide +kernel
theorem dX8_takeToken_1 : decode cX8_takeToken 1 = .ok (.getfield 51, 3) := by decide +kernel
theorem dX8_takeToken_4 : decode cX8_takeToken 4 = .ok (.istore_n 1, 1) := by decide +kernel
theorem dX8_takeToken_5 : decode cX8_takeToken 5 = .ok (.iload_n 1, 1) := by decide +kernel
theorem dX8_takeToken_6 : decode cX8_takeToken 6 = .ok (.aload_n 0, 1) := by decide +kernel
theorem dX8_takeToken_7 : decode cX8_takeToken 7 = .ok (.getfield 35, 3) := by decide +kernel
theorem dX8_takeToken_10 : decode cX8_takeToken 10 = .ok (.if_icmp .ge 31, 3) := by decide +kernel
theorem dX8_takeToken_13 : decode cX8_takeToken 13 = .ok (.aload_n 0, 1) := by decide +kernel
theorem dX8_takeToken_14 : decode cX8_takeToken 14 = .ok (.getfield 9, 3) := by decide +kernel
theorem dX8_takeToken_17 : decode cX8_takeToken 17 = .ok (.iload_n 1, 1) := by decide +kernel
theorem dX8_takeToken_18 : decode cX8_takeToken 18 = .ok (.baload, 1) := by decide +kernel
theorem dX8_takeToken_19 : decode cX8_takeToken 19 = .ok (.bipush 32, 2) := by decide +kernel
theorem dX8_takeToken_21 : decode cX8_takeToken 21 = .ok (.if_icmp .eq 14, 3) := by decide +kernel
theorem dX8_takeToken_24 : decode cX8_takeToken 24 = .ok (.aload_n 0, 1) := by decide +kernel
theorem dX8_takeToken_25 : decode cX8_takeToken 25 = .ok (.getfield 9, 3) := by decide +kernel
theorem dX8_takeToken_28 : decode cX8_takeToken 28 = .ok (.iload_n 1, 1) := by decide +kernel
theorem dX8_takeToken_29 : decode cX8_takeToken 29 = .ok (.baload, 1) := by decide +kernel
theorem dX8_takeToken_30 : decode cX8_takeToken 30 = .ok (.bipush 10, 2) := by decide +kernel
theorem dX8_takeToken_32 : decode cX8_takeToken 32 = .ok (.if_icmp .ne 9, 3) := by decide +kernel
theorem dX8_takeToken_35 : decode cX8_takeToken 35 = .ok (.iinc 1 1, 3) := by decide +kernel
theorem dX8_takeToken_38 : decode cX8_takeToken 38 = .ok (.goto (-33), 3) := by decide +kernel
theorem dX8_takeToken_41 : decode cX8_takeToken 41 = .ok (.aload_n 0, 1) := by decide +kernel
theorem dX8_takeToken_42 : decode cX8_takeToken 42 = .ok (.iload_n 1, 1) := by decide +kernel
theorem dX8_takeToken_43 : decode cX8_takeToken 43 = .ok (.putfield 183, 3) := by decide +kernel
theorem dX8_takeToken_46 : decode cX8_takeToken 46 = .ok (.aload_n 0, 1) := by decide +kernel
theorem dX8_takeToken_47 : decode cX8_takeToken 47 = .ok (.iconst 0, 1) := by decide +kernel
theorem dX8_takeToken_48 : decode cX8_takeToken 48 = .ok (.putfield 180, 3) := by decide +kernel
theorem dX8_takeToken_51 : decode cX8_takeToken 51 = .ok (.aload_n 0, 1) := by decide +kernel
theorem dX8_takeToken_52 : decode cX8_takeToken 52 = .ok (.iload_n 1, 1) := by decide +kernel
theorem dX8_takeToken_53 : decode cX8_takeToken 53 = .ok (.aload_n 0, 1) := by decide +kernel
theorem dX8_takeToken_54 : decode cX8_takeToken 54 = .ok (.getfield 35, 3) := by decide +kernel
theorem dX8_takeToken_57 : decode cX8_takeToken 57 = .ok (.if_icmp .ge 15, 3) := by decide +kernel
theorem dX8_takeToken_60 : decode cX8_takeToken 60 = .ok (.aload_n 0, 1) := by decide +kernel
theorem dX8_takeToken_61 : decode cX8_takeToken 61 = .ok (.getfield 9, 3) := by decide +kernel
theorem dX8_takeToken_64 : decode cX8_takeToken 64 = .ok (.iload_n 1, 1) := by decide +kernel
theorem dX8_takeToken_65 : decode cX8_takeToken 65 = .ok (.baload, 1) := by decide +kernel
theorem dX8_takeToken_66 : decode cX8_takeToken 66 = .ok (.invokestatic 194, 3) := by decide +kernel
theorem dX8_takeToken_69 : decode cX8_takeToken 69 = .ok (.goto 4, 3) := by decide +kernel
theorem dX8_takeToken_72 : decode cX8_takeToken 72 = .ok (.iconst 4, 1) := by decide +kernel
theorem dX8_takeToken_73 : decode cX8_takeToken 73 = .ok (.putfield 57, 3) := by decide +kernel
theorem dX8_takeToken_76 : decode cX8_takeToken 76 = .ok (.aload_n 0, 1) := by decide +kernel
theorem dX8_takeToken_77 : decode cX8_takeToken 77 = .ok (.getfield 57, 3) := by decide +kernel
theorem dX8_takeToken_80 : decode cX8_takeToken 80 = .ok (.iconst 2, 1) := by decide +kernel
theorem dX8_takeToken_81 : decode cX8_takeToken 81 = .ok (.if_icmp .eq 11, 3) := by decide +kernel
theorem dX8_takeToken_84 : decode cX8_takeToken 84 = .ok (.aload_n 0, 1) := by decide +kernel
theorem dX8_takeToken_85 : decode cX8_takeToken 85 = .ok (.getfield 57, 3) := by decide +kernel
theorem dX8_takeToken_88 : decode cX8_takeToken 88 = .ok (.iconst 3, 1) := by decide +kernel
theorem dX8_takeToken_89 : decode cX8_takeToken 89 = .ok (.if_icmp .ne 6, 3) := by decide +kernel
theorem dX8_takeToken_92 : decode cX8_takeToken 92 = .ok (.iinc 1 1, 3) := by decide +kernel
theorem dX8_takeToken_95 : decode cX8_takeToken 95 = .ok (.iload_n 1, 1) := by decide +kernel
theorem dX8_takeToken_96 : decode cX8_takeToken 96 = .ok (.aload_n 0, 1) := by decide +kernel
theorem dX8_takeToken_97 : decode cX8_takeToken 97 = .ok (.getfield 35, 3) := by decide +kernel
theorem dX8_takeToken_100 : decode cX8_takeToken 100 = .ok (.if_icmp .ge 77, 3) := by decide +kernel
theorem dX8_takeToken_103 : decode cX8_takeToken 103 = .ok (.aload_n 0, 1) := by decide +kernel
theorem dX8_takeToken_104 : decode cX8_takeToken 104 = .ok (.getfield 57, 3) := by decide +kernel
theorem dX8_takeToken_107 : decode cX8_takeToken 107 = .ok (.ifCond .eq 11, 3) := by decide +kernel
theorem dX8_takeToken_110 : decode cX8_takeToken 110 = .ok (.aload_n 0, 1) := by decide +kernel
theorem dX8_takeToken_111 : decode cX8_takeToken 111 = .ok (.getfield 57, 3) := by decide +kernel
theorem dX8_takeToken_114 : decode cX8_takeToken 114 = .ok (.iconst 1, 1) := by decide +kernel
theorem dX8_takeToken_115 : decode cX8_takeToken 115 = .ok (.if_icmp .ne 62, 3) := by decide +kernel
theorem dX8_takeToken_118 : decode cX8_takeToken 118 = .ok (.aload_n 0, 1) := by decide +kernel
theorem dX8_takeToken_119 : decode cX8_takeToken 119 = .ok (.getfield 9, 3) := by decide +kernel
theorem dX8_takeToken_122 : decode cX8_takeToken 122 = .ok (.iload_n 1, 1) := by decide +kernel
theorem dX8_takeToken_123 : decode cX8_takeToken 123 = .ok (.baload, 1) := by decide +kernel
theorem dX8_takeToken_124 : decode cX8_takeToken 124 = .ok (.invokestatic 194, 3) := by decide +kernel
theorem dX8_takeToken_127 : decode cX8_takeToken 127 = .ok (.aload_n 0, 1) := by decide +kernel
theorem dX8_takeToken_128 : decode cX8_takeToken 128 = .ok (.getfield 57, 3) := by decide +kernel
theorem dX8_takeToken_131 : decode cX8_takeToken 131 = .ok (.if_icmp .ne 46, 3) := by decide +kernel
theorem dX8_takeToken_134 : decode cX8_takeToken 134 = .ok (.aload_n 0, 1) := by decide +kernel
theorem dX8_takeToken_135 : decode cX8_takeToken 135 = .ok (.iload_n 1, 1) := by decide +kernel
theorem dX8_takeToken_136 : decode cX8_takeToken 136 = .ok (.aload_n 0, 1) := by decide +kernel
theorem dX8_takeToken_137 : decode cX8_takeToken 137 = .ok (.getfield 183, 3) := by decide +kernel
theorem dX8_takeToken_140 : decode cX8_takeToken 140 = .ok (.isub, 1) := by decide +kernel
theorem dX8_takeToken_141 : decode cX8_takeToken 141 = .ok (.iconst 4, 1) := by decide +kernel
theorem dX8_takeToken_142 : decode cX8_takeToken 142 = .ok (.if_icmp .ge 23, 3) := by decide +kernel
theorem dX8_takeToken_145 : decode cX8_takeToken 145 = .ok (.aload_n 0, 1) := by decide +kernel
theorem dX8_takeToken_146 : decode cX8_takeToken 146 = .ok (.getfield 180, 3) := by decide +kernel
theorem dX8_takeToken_149 : decode cX8_takeToken 149 = .ok (.bipush 10, 2) := by decide +kernel
theorem dX8_takeToken_151 : decode cX8_takeToken 151 = .ok (.imul, 1) := by decide +kernel
theorem dX8_takeToken_152 : decode cX8_takeToken 152 = .ok (.aload_n 0, 1) := by decide +kernel
theorem dX8_takeToken_153 : decode cX8_takeToken 153 = .ok (.getfield 9, 3) := by decide +kernel
theorem dX8_takeToken_156 : decode cX8_takeToken 156 = .ok (.iload_n 1, 1) := by decide +kernel
theorem dX8_takeToken_157 : decode cX8_takeToken 157 = .ok (.baload, 1) := by decide +kernel
theorem dX8_takeToken_158 : decode cX8_takeToken 158 = .ok (.iadd, 1) := by decide +kernel
theorem dX8_takeToken_159 : decode cX8_takeToken 159 = .ok (.bipush 48, 2) := by decide +kernel
theorem dX8_takeToken_161 : decode cX8_takeToken 161 = .ok (.isub, 1) := by decide +kernel
theorem dX8_takeToken_162 : decode cX8_takeToken 162 = .ok (.goto 6, 3) := by decide +kernel
theorem dX8_takeToken_165 : decode cX8_takeToken 165 = .ok (.sipush 10000, 3) := by decide +kernel
theorem dX8_takeToken_168 : decode cX8_takeToken 168 = .ok (.putfield 180, 3) := by decide +kernel
theorem dX8_takeToken_171 : decode cX8_takeToken 171 = .ok (.iinc 1 1, 3) := by decide +kernel
theorem dX8_takeToken_174 : decode cX8_takeToken 174 = .ok (.goto (-79), 3) := by decide +kernel
theorem dX8_takeToken_177 : decode cX8_takeToken 177 = .ok (.aload_n 0, 1) := by decide +kernel
theorem dX8_takeToken_178 : decode cX8_takeToken 178 = .ok (.iload_n 1, 1) := by decide +kernel
theorem dX8_takeToken_179 : decode cX8_takeToken 179 = .ok (.putfield 51, 3) := by decide +kernel
theorem dX8_takeToken_182 : decode cX8_takeToken 182 = .ok (.return_, 1) := by decide +kernel
theorem dX8_kindOf_0 : decode cX8_kindOf 0 = .ok (.iload_n 0, 1) := by decide +kernel
theorem dX8_kindOf_1 : decode cX8_kindOf 1 = .ok (.bipush 97, 2) := by decide +kernel
theorem dX8_kindOf_3 : decode cX8_kindOf 3 = .ok (.if_icmp .lt 11, 3) := by decide +kernel
theorem dX8_kindOf_6 : decode cX8_kindOf 6 = .ok (.iload_n 0, 1) := by decide +kernel
theorem dX8_kindOf_7 : decode cX8_kindOf 7 = .ok (.bipush 122, 2) := by decide +kernel
theorem dX8_kindOf_9 : decode cX8_kindOf 9 = .ok (.if_icmp .gt 5, 3) := by decide +kernel
theorem dX8_kindOf_12 : decode cX8_kindOf 12 = .ok (.iconst 0, 1) := by decide +kernel
theorem dX8_kindOf_13 : decode cX8_kindOf 13 = .ok (.ireturn, 1) := by decide +kernel
theorem dX8_kindOf_14 : decode cX8_kindOf 14 = .ok (.iload_n 0, 1) := by decide +kernel
theorem dX8_kindOf_15 : decode cX8_kindOf 15 = .ok (.bipush 48, 2) := by decide +kernel
theorem dX8_kindOf_17 : decode cX8_kindOf 17 = .ok (.if_icmp .lt 11, 3) := by decide +kernel
theorem dX8_kindOf_20 : decode cX8_kindOf 20 = .ok (.iload_n 0, 1) := by decide +kernel
theorem dX8_kindOf_21 : decode cX8_kindOf 21 = .ok (.bipush 57, 2) := by decide +kernel
theorem dX8_kindOf_23 : decode cX8_kindOf 23 = .ok (.if_icmp .gt 5, 3) := by decide +kernel
theorem dX8_kindOf_26 : decode cX8_kindOf 26 = .ok (.iconst 1, 1) := by decide +kernel
theorem dX8_kindOf_27 : decode cX8_kindOf 27 = .ok (.ireturn, 1) := by decide +kernel
theorem dX8_kindOf_28 : decode cX8_kindOf 28 = .ok (.iload_n 0, 1) := by decide +kernel
theorem dX8_kindOf_29 : decode cX8_kindOf 29 = .ok (.bipush 59, 2) := by decide +kernel
theorem dX8_kindOf_31 : decode cX8_kindOf 31 = .ok (.if_icmp .ne 7, 3) := by decide +kernel
theorem dX8_kindOf_34 : decode cX8_kindOf 34 = .ok (.iconst 2, 1) := by decide +kernel
theorem dX8_kindOf_35 : decode cX8_kindOf 35 = .ok (.goto 4, 3) := by decide +kernel
theorem dX8_kindOf_38 : decode cX8_kindOf 38 = .ok (.iconst 3, 1) := by decide +kernel
theorem dX8_kindOf_39 : decode cX8_kindOf 39 = .ok (.ireturn, 1) := by decide +kernel
theorem dX9_init_0 : decode cX9_init 0 = .ok (.aload_n 0, 1) := by decide +kernel
theorem dX9_init_1 : decode cX9_init 1 = .ok (.invokespecial 1, 3) := by decide +kernel
theorem dX9_init_4 : decode cX9_init 4 = .ok (.return_, 1) := by decide +kernel
theorem dX9_holds_0 : decode cX9_holds 0 = .ok (.iload_n 1, 1) := by decide +kernel
theorem dX9_holds_1 : decode cX9_holds 1 = .ok (.aload_n 0, 1) := by decide +kernel
theorem dX9_holds_2 : decode cX9_holds 2 = .ok (.getfield 7, 3) := by decide +kernel
theorem dX9_holds_5 : decode cX9_holds 5 = .ok (.if_icmp .lt 15, 3) := by decide +kernel
theorem dX9_holds_8 : decode cX9_holds 8 = .ok (.iload_n 1, 1) := by decide +kernel
theorem dX9_holds_9 : decode cX9_holds 9 = .ok (.aload_n 0, 1) := by decide +kernel
theorem dX9_holds_10 : decode cX9_holds 10 = .ok (.getfield 13, 3) := by decide +kernel
theorem dX9_holds_13 : decode cX9_holds 13 = .ok (.if_icmp .gt 7, 3) := by decide +kernel
theorem dX9_holds_16 : decode cX9_holds 16 = .ok (.iconst 1, 1) := by decide +kernel
theorem dX9_holds_17 : decode cX9_holds 17 = .ok (.goto 4, 3) := by decide +kernel
theorem dX9_holds_20 : decode cX9_holds 20 = .ok (.iconst 0, 1) := by decide +kernel
theorem dX9_holds_21 : decode cX9_holds 21 = .ok (.ireturn, 1) := by decide +kernel
theorem dX9_footX_0 : decode cX9_footX 0 = .ok (.aload_n 0, 1) := by decide +kernel
theorem dX9_footX_1 : decode cX9_footX 1 = .ok (.getfield 16, 3) := by decide +kernel
theorem dX9_footX_4 : decode cX9_footX 4 = .ok (.ifCond .eq 10, 3) := by decide +kernel
theorem dX9_footX_7 : decode cX9_footX 7 = .ok (.aload_n 0, 1) := by decide +kernel
theorem dX9_footX_8 : decode cX9_footX 8 = .ok (.getfield 20, 3) := by decide +kernel
theorem dX9_footX_11 : decode cX9_footX 11 = .ok (.goto 4, 3) := by decide +kernel
theorem dX9_footX_14 : decode cX9_footX 14 = .ok (.iload_n 1, 1) := by decide +kernel
theorem dX9_footX_15 : decode cX9_footX 15 = .ok (.ireturn, 1) := by decide +kernel
theorem dX9_footY_0 : decode cX9_footY 0 = .ok (.aload_n 0, 1) := by decide +kernel
theorem dX9_footY_1 : decode cX9_footY 1 = .ok (.getfield 16, 3) := by decide +kernel
theorem dX9_footY_4 : decode cX9_footY 4 = .ok (.ifCond .eq 7, 3) := by decide +kernel
theorem dX9_footY_7 : decode cX9_footY 7 = .ok (.iload_n 1, 1) := by decide +kernel
theorem dX9_footY_8 : decode cX9_footY 8 = .ok (.goto 7, 3) := by decide +kernel
theorem dX9_footY_11 : decode cX9_footY 11 = .ok (.aload_n 0, 1) := by decide +kernel
theorem dX9_footY_12 : decode cX9_footY 12 = .ok (.getfield 20, 3) := by decide +kernel
theorem dX9_footY_15 : decode cX9_footY 15 = .ok (.ireturn, 1) := by decide +kernel
theorem dX9_standsBetween_0 : decode cX9_standsBetween 0 = .ok (.aload_n 0, 1) := by decide +kernel
theorem dX9_standsBetween_1 : decode cX9_standsBetween 1 = .ok (.getfield 16, 3) := by decide +kernel
theorem dX9_standsBetween_4 : decode cX9_standsBetween 4 = .ok (.ifCond .eq 7, 3) := by decide +kernel
theorem dX9_standsBetween_7 : decode cX9_standsBetween 7 = .ok (.iload_n 1, 1) := by decide +kernel
theorem dX9_standsBetween_8 : decode cX9_standsBetween 8 = .ok (.goto 4, 3) := by decide +kernel
theorem dX9_standsBetween_11 : decode cX9_standsBetween 11 = .ok (.iload_n 2, 1) := by decide +kernel
theorem dX9_standsBetween_12 : decode cX9_standsBetween 12 = .ok (.istore 5, 2) := by decide +kernel
theorem dX9_standsBetween_14 : decode cX9_standsBetween 14 = .ok (.aload_n 0, 1) := by decide +kernel
theorem dX9_standsBetween_15 : decode cX9_standsBetween 15 = .ok (.getfield 16, 3) := by decide +kernel
theorem dX9_standsBetween_18 : decode cX9_standsBetween 18 = .ok (.ifCond .eq 7, 3) := by decide +kernel
theorem dX9_standsBetween_21 : decode cX9_standsBetween 21 = .ok (.iload_n 3, 1) := by decide +kernel
theorem dX9_standsBetween_22 : decode cX9_standsBetween 22 = .ok (.goto 5, 3) := by decide +kernel
theorem dX9_standsBetween_25 : decode cX9_standsBetween 25 = .ok (.iload 4, 2) := by decide +kernel
theorem dX9_standsBetween_27 : decode cX9_standsBetween 27 = .ok (.istore 6, 2) := by decide +kernel
theorem dX9_standsBetween_29 : decode cX9_standsBetween 29 = .ok (.aload_n 0, 1) := by decide +kernel
theorem dX9_standsBetween_30 : decode cX9_standsBetween 30 = .ok (.getfield 20, 3) := by decide +kernel
theorem dX9_standsBetween_33 : decode cX9_standsBetween 33 = .ok (.iload 5, 2) := by decide +kernel
theorem dX9_standsBetween_35 : decode cX9_standsBetween 35 = .ok (.iload 6, 2) := by decide +kernel
theorem dX9_standsBetween_37 : decode cX9_standsBetween 37 = .ok (.invokestatic 23, 3) := by decide +kernel
theorem dX9_standsBetween_40 : decode cX9_standsBetween 40 = .ok (.if_icmp .le 17, 3) := by decide +kernel
theorem dX9_standsBetween_43 : decode cX9_standsBetween 43 = .ok (.aload_n 0, 1) := by decide +kernel
theorem dX9_standsBetween_44 : decode cX9_standsBetween 44 = .ok (.getfield 20, 3) := by decide +kernel
theorem dX9_standsBetween_47 : decode cX9_standsBetween 47 = .ok (.iload 5, 2) := by decide +kernel
theorem dX9_standsBetween_49 : decode cX9_standsBetween 49 = .ok (.iload 6, 2) := by decide +kernel
theorem dX9_standsBetween_51 : decode cX9_standsBetween 51 = .ok (.invokestatic 29, 3) := by decide +kernel
theorem dX9_standsBetween_54 : decode cX9_standsBetween 54 = .ok (.if_icmp .lt 5, 3) := by decide +kernel
theorem dX9_standsBetween_57 : decode cX9_standsBetween 57 = .ok (.iconst 0, 1) := by decide +kernel
theorem dX9_standsBetween_58 : decode cX9_standsBetween 58 = .ok (.ireturn, 1) := by decide +kernel
theorem dX9_standsBetween_59 : decode cX9_standsBetween 59 = .ok (.aload_n 0, 1) := by decide +kernel
theorem dX9_standsBetween_60 : decode cX9_standsBetween 60 = .ok (.getfield 16, 3) := by decide +kernel
theorem dX9_standsBetween_63 : decode cX9_standsBetween 63 = .ok (.ifCond .eq 7, 3) := by decide +kernel
theorem dX9_standsBetween_66 : decode cX9_standsBetween 66 = .ok (.iload_n 2, 1) := by decide +kernel
theorem dX9_standsBetween_67 : decode cX9_standsBetween 67 = .ok (.goto 4, 3) := by decide +kernel
theorem dX9_standsBetween_70 : decode cX9_standsBetween 70 = .ok (.iload_n 1, 1) := by decide +kernel
theorem dX9_standsBetween_71 : decode cX9_standsBetween 71 = .ok (.istore 7, 2) := by decide +kernel
theorem dX9_standsBetween_73 : decode cX9_standsBetween 73 = .ok (.aload_n 0, 1) := by decide +kernel
theorem dX9_standsBetween_74 : decode cX9_standsBetween 74 = .ok (.getfield 16, 3) := by decide +kernel
theorem dX9_standsBetween_77 : decode cX9_standsBetween 77 = .ok (.ifCond .eq 8, 3) := by decide +kernel
theorem dX9_standsBetween_80 : decode cX9_standsBetween 80 = .ok (.iload 4, 2) := by decide +kernel
theorem dX9_standsBetween_82 : decode cX9_standsBetween 82 = .ok (.goto 4, 3) := by decide +kernel
theorem dX9_standsBetween_85 : decode cX9_standsBetween 85 = .ok (.iload_n 3, 1) := by decide +kernel
theorem dX9_standsBetween_86 : decode cX9_standsBetween 86 = .ok (.istore 8, 2) := by decide +kernel
theorem dX9_standsBetween_88 : decode cX9_standsBetween 88 = .ok (.iload 6, 2) := by decide +kernel
theorem dX9_standsBetween_90 : decode cX9_standsBetween 90 = .ok (.iload 5, 2) := by decide +kernel
theorem dX9_standsBetween_92 : decode cX9_standsBetween 92 = .ok (.isub, 1) := by decide +kernel
theorem dX9_standsBetween_93 : decode cX9_standsBetween 93 = .ok (.invokestatic 32, 3) := by decide +kernel
theorem dX9_standsBetween_96 : decode cX9_standsBetween 96 = .ok (.istore 9, 2) := by decide +kernel
theorem dX9_standsBetween_98 : decode cX9_standsBetween 98 = .ok (.aload_n 0, 1) := by decide +kernel
theorem dX9_standsBetween_99 : decode cX9_standsBetween 99 = .ok (.getfield 20, 3) := by decide +kernel
theorem dX9_standsBetween_102 : decode cX9_standsBetween 102 = .ok (.iload 5, 2) := by decide +kernel
theorem dX9_standsBetween_104 : decode cX9_standsBetween 104 = .ok (.isub, 1) := by decide +kernel
theorem dX9_standsBetween_105 : decode cX9_standsBetween 105 = .ok (.invokestatic 32, 3) := by decide +kernel
theorem dX9_standsBetween_108 : decode cX9_standsBetween 108 = .ok (.istore 10, 2) := by decide +kernel
theorem dX9_standsBetween_110 : decode cX9_standsBetween 110 = .ok (.iload 7, 2) := by decide +kernel
theorem dX9_standsBetween_112 : decode cX9_standsBetween 112 = .ok (.iload 9, 2) := by decide +kernel
theorem dX9_standsBetween_114 : decode cX9_standsBetween 114 = .ok (.imul, 1) := by decide +kernel
theorem dX9_standsBetween_115 : decode cX9_standsBetween 115 = .ok (.iload 8, 2) := by decide +kernel
theorem dX9_standsBetween_117 : decode cX9_standsBetween 117 = .ok (.iload 7, 2) := by decide +kernel
theorem dX9_standsBetween_119 : decode cX9_standsBetween 119 = .ok (.isub, 1) := by decide +kernel
theorem dX9_standsBetween_120 : decode cX9_standsBetween 120 = .ok (.iload 10, 2) := by decide +kernel
theorem dX9_standsBetween_122 : decode cX9_standsBetween 122 = .ok (.imul, 1) := by decide +kernel
theorem dX9_standsBetween_123 : decode cX9_standsBetween 123 = .ok (.iadd, 1) := by decide +kernel
theorem dX9_standsBetween_124 : decode cX9_standsBetween 124 = .ok (.istore 11, 2) := by decide +kernel
theorem dX9_standsBetween_126 : decode cX9_standsBetween 126 = .ok (.iload 11, 2) := by decide +kernel
theorem dX9_standsBetween_128 : decode cX9_standsBetween 128 = .ok (.aload_n 0, 1) := by decide +kernel
theorem dX9_standsBetween_129 : decode cX9_standsBetween 129 = .ok (.getfield 7, 3) := by decide +kernel
theorem dX9_standsBetween_132 : decode cX9_standsBetween 132 = .ok (.iload 9, 2) := by decide +kernel
theorem dX9_standsBetween_134 : decode cX9_standsBetween 134 = .ok (.imul, 1) := by decide +kernel
theorem dX9_standsBetween_135 : decode cX9_standsBetween 135 = .ok (.if_icmp .lt 19, 3) := by decide +kernel
theorem dX9_standsBetween_138 : decode cX9_standsBetween 138 = .ok (.iload 11, 2) := by decide +kernel
theorem dX9_standsBetween_140 : decode cX9_standsBetween 140 = .ok (.aload_n 0, 1) := by decide +kernel
theorem dX9_standsBetween_141 : decode cX9_standsBetween 141 = .ok (.getfield 13, 3) := by decide +kernel
theorem dX9_standsBetween_144 : decode cX9_standsBetween 144 = .ok (.iload 9, 2) := by decide +kernel
theorem dX9_standsBetween_146 : decode cX9_standsBetween 146 = .ok (.imul, 1) := by decide +kernel
theorem dX9_standsBetween_147 : decode cX9_standsBetween 147 = .ok (.if_icmp .gt 7, 3) := by decide +kernel
theorem dX9_standsBetween_150 : decode cX9_standsBetween 150 = .ok (.iconst 1, 1) := by decide +kernel
theorem dX9_standsBetween_151 : decode cX9_standsBetween 151 = .ok (.goto 4, 3) := by decide +kernel
theorem dX9_standsBetween_154 : decode cX9_standsBetween 154 = .ok (.iconst 0, 1) := by decide +kernel
theorem dX9_standsBetween_155 : decode cX9_standsBetween 155 = .ok (.ireturn, 1) := by decide +kernel
theorem dX10_init_0 : decode cX10_init 0 = .ok (.aload_n 0, 1) := by decide +kernel
theorem dX10_init_1 : decode cX10_init 1 = .ok (.invokespecial 3, 3) := by decide +kernel
theorem dX10_init_4 : decode cX10_init 4 = .ok (.aload_n 0, 1) := by decide +kernel
theorem dX10_init_5 : decode cX10_init 5 = .ok (.iconst 3, 1) := by decide +kernel
theorem dX10_init_6 : decode cX10_init 6 = .ok (.newarray .int, 2) := by decide +kernel
theorem dX10_init_8 : decode cX10_init 8 = .ok (.putfield 9, 3) := by decide +kernel
theorem dX10_init_11 : decode cX10_init 11 = .ok (.return_, 1) := by decide +kernel
theorem dX10_meets_0 : decode cX10_meets 0 = .ok (.iload_n 1, 1) := by decide +kernel
theorem dX10_meets_1 : decode cX10_meets 1 = .ok (.iload_n 3, 1) := by decide +kernel
theorem dX10_meets_2 : decode cX10_meets 2 = .ok (.invokestatic 15, 3) := by decide +kernel
theorem dX10_meets_5 : decode cX10_meets 5 = .ok (.aload_n 0, 1) := by decide +kernel
theorem dX10_meets_6 : decode cX10_meets 6 = .ok (.getfield 21, 3) := by decide +kernel
theorem dX10_meets_9 : decode cX10_meets 9 = .ok (.if_icmp .lt 41, 3) := by decide +kernel
theorem dX10_meets_12 : decode cX10_meets 12 = .ok (.iload_n 1, 1) := by decide +kernel
theorem dX10_meets_13 : decode cX10_meets 13 = .ok (.iload_n 3, 1) := by decide +kernel
theorem dX10_meets_14 : decode cX10_meets 14 = .ok (.invokestatic 25, 3) := by decide +kernel
theorem dX10_meets_17 : decode cX10_meets 17 = .ok (.aload_n 0, 1) := by decide +kernel
theorem dX10_meets_18 : decode cX10_meets 18 = .ok (.getfield 28, 3) := by decide +kernel
theorem dX10_meets_21 : decode cX10_meets 21 = .ok (.if_icmp .gt 29, 3) := by decide +kernel
theorem dX10_meets_24 : decode cX10_meets 24 = .ok (.iload_n 2, 1) := by decide +kernel
theorem dX10_meets_25 : decode cX10_meets 25 = .ok (.iload 4, 2) := by decide +kernel
theorem dX10_meets_27 : decode cX10_meets 27 = .ok (.invokestatic 15, 3) := by decide +kernel
theorem dX10_meets_30 : decode cX10_meets 30 = .ok (.aload_n 0, 1) := by decide +kernel
theorem dX10_meets_31 : decode cX10_meets 31 = .ok (.getfield 31, 3) := by decide +kernel
theorem dX10_meets_34 : decode cX10_meets 34 = .ok (.if_icmp .lt 16, 3) := by decide +kernel
theorem dX10_meets_37 : decode cX10_meets 37 = .ok (.iload_n 2, 1) := by decide +kernel
theorem dX10_meets_38 : decode cX10_meets 38 = .ok (.iload 4, 2) := by decide +kernel
theorem dX10_meets_40 : decode cX10_meets 40 = .ok (.invokestatic 25, 3) := by decide +kernel
theorem dX10_meets_43 : decode cX10_meets 43 = .ok (.aload_n 0, 1) := by decide +kernel
theorem dX10_meets_44 : decode cX10_meets 44 = .ok (.getfield 34, 3) := by decide +kernel
theorem dX10_meets_47 : decode cX10_meets 47 = .ok (.if_icmp .le 5, 3) := by decide +kernel
theorem dX10_meets_50 : decode cX10_meets 50 = .ok (.iconst 0, 1) := by decide +kernel
theorem dX10_meets_51 : decode cX10_meets 51 = .ok (.ireturn, 1) := by decide +kernel
theorem dX10_meets_52 : decode cX10_meets 52 = .ok (.iload_n 3, 1) := by decide +kernel
theorem dX10_meets_53 : decode cX10_meets 53 = .ok (.iload_n 1, 1) := by decide +kernel
theorem dX10_meets_54 : decode cX10_meets 54 = .ok (.isub, 1) := by decide +kernel
theorem dX10_meets_55 : decode cX10_meets 55 = .ok (.istore 5, 2) := by decide +kernel
theorem dX10_meets_57 : decode cX10_meets 57 = .ok (.iload 4, 2) := by decide +kernel
theorem dX10_meets_59 : decode cX10_meets 59 = .ok (.iload_n 2, 1) := by decide +kernel
theorem dX10_meets_60 : decode cX10_meets 60 = .ok (.isub, 1) := by decide +kernel
theorem dX10_meets_61 : decode cX10_meets 61 = .ok (.istore 6, 2) := by decide +kernel
theorem dX10_meets_63 : decode cX10_meets 63 = .ok (.iload 5, 2) := by decide +kernel
theorem dX10_meets_65 : decode cX10_meets 65 = .ok (.aload_n 0, 1) := by decide +kernel
theorem dX10_meets_66 : decode cX10_meets 66 = .ok (.getfield 31, 3) := by decide +kernel
theorem dX10_meets_69 : decode cX10_meets 69 = .ok (.iload_n 2, 1) := by decide +kernel
theorem dX10_meets_70 : decode cX10_meets 70 = .ok (.isub, 1) := by decide +kernel
theorem dX10_meets_71 : decode cX10_meets 71 = .ok (.imul, 1) := by decide +kernel
theorem dX10_meets_72 : decode cX10_meets 72 = .ok (.istore 7, 2) := by decide +kernel
theorem dX10_meets_74 : decode cX10_meets 74 = .ok (.iload 5, 2) := by decide +kernel
theorem dX10_meets_76 : decode cX10_meets 76 = .ok (.aload_n 0, 1) := by decide +kernel
theorem dX10_meets_77 : decode cX10_meets 77 = .ok (.getfield 34, 3) := by decide +kernel
theorem dX10_meets_80 : decode cX10_meets 80 = .ok (.iload_n 2, 1) := by decide +kernel
theorem dX10_meets_81 : decode cX10_meets 81 = .ok (.isub, 1) := by decide +kernel
theorem dX10_meets_82 : decode cX10_meets 82 = .ok (.imul, 1) := by decide +kernel
theorem dX10_meets_83 : decode cX10_meets 83 = .ok (.istore 8, 2) := by decide +kernel
theorem dX10_meets_85 : decode cX10_meets 85 = .ok (.iload 6, 2) := by decide +kernel
theorem dX10_meets_87 : decode cX10_meets 87 = .ok (.aload_n 0, 1) := by decide +kernel
theorem dX10_meets_88 : decode cX10_meets 88 = .ok (.getfield 21, 3) := by decide +kernel
theorem dX10_meets_91 : decode cX10_meets 91 = .ok (.iload_n 1, 1) := by decide +kernel
theorem dX10_meets_92 : decode cX10_meets 92 = .ok (.isub, 1) := by decide +kernel
theorem dX10_meets_93 : decode cX10_meets 93 = .ok (.imul, 1) := by decide +kernel
theorem dX10_meets_94 : decode cX10_meets 94 = .ok (.istore 9, 2) := by decide +kernel
theorem dX10_meets_96 : decode cX10_meets 96 = .ok (.iload 6, 2) := by decide +kernel
theorem dX10_meets_98 : decode cX10_meets 98 = .ok (.aload_n 0, 1) := by decide +kernel
theorem dX10_meets_99 : decode cX10_meets 99 = .ok (.getfield 28, 3) := by decide +kernel
theorem dX10_meets_102 : decode cX10_meets 102 = .ok (.iload_n 1, 1) := by decide +kernel
theorem dX10_meets_103 : decode cX10_meets 103 = .ok (.isub, 1) := by decide +kernel
theorem dX10_meets_104 : decode cX10_meets 104 = .ok (.imul, 1) := by decide +kernel
theorem dX10_meets_105 : decode cX10_meets 105 = .ok (.istore 10, 2) := by decide +kernel
theorem dX10_meets_107 : decode cX10_meets 107 = .ok (.iload 7, 2) := by decide +kernel
theorem dX10_meets_109 : decode cX10_meets 109 = .ok (.iload 8, 2) := by decide +kernel
theorem dX10_meets_111 : decode cX10_meets 111 = .ok (.invokestatic 25, 3) := by decide +kernel
theorem dX10_meets_114 : decode cX10_meets 114 = .ok (.iload 9, 2) := by decide +kernel
theorem dX10_meets_116 : decode cX10_meets 116 = .ok (.iload 10, 2) := by decide +kernel
theorem dX10_meets_118 : decode cX10_meets 118 = .ok (.invokestatic 15, 3) := by decide +kernel
theorem dX10_meets_121 : decode cX10_meets 121 = .ok (.if_icmp .gt 24, 3) := by decide +kernel
theorem dX10_meets_124 : decode cX10_meets 124 = .ok (.iload 7, 2) := by decide +kernel
theorem dX10_meets_126 : decode cX10_meets 126 = .ok (.iload 8, 2) := by decide +kernel
theorem dX10_meets_128 : decode cX10_meets 128 = .ok (.invokestatic 15, 3) := by decide +kernel
theorem dX10_meets_131 : decode cX10_meets 131 = .ok (.iload 9, 2) := by decide +kernel
theorem dX10_meets_133 : decode cX10_meets 133 = .ok (.iload 10, 2) := by decide +kernel
theorem dX10_meets_135 : decode cX10_meets 135 = .ok (.invokestatic 25, 3) := by decide +kernel
theorem dX10_meets_138 : decode cX10_meets 138 = .ok (.if_icmp .lt 7, 3) := by decide +kernel
theorem dX10_meets_141 : decode cX10_meets 141 = .ok (.iconst 1, 1) := by decide +kernel
theorem dX10_meets_142 : decode cX10_meets 142 = .ok (.goto 4, 3) := by decide +kernel
theorem dX10_meets_145 : decode cX10_meets 145 = .ok (.iconst 0, 1) := by decide +kernel
theorem dX10_meets_146 : decode cX10_meets 146 = .ok (.ireturn, 1) := by decide +kernel
theorem dX11_init_0 : decode cX11_init 0 = .ok (.aload_n 0, 1) := by decide +kernel
theorem dX11_init_1 : decode cX11_init 1 = .ok (.invokespecial 3, 3) := by decide +kernel
theorem dX11_init_4 : decode cX11_init 4 = .ok (.aload_n 0, 1) := by decide +kernel
theorem dX11_init_5 : decode cX11_init 5 = .ok (.new 9, 3) := by decide +kernel
theorem dX11_init_8 : decode cX11_init 8 = .ok (.dup, 1) := by decide +kernel
theorem dX11_init_9 : decode cX11_init 9 = .ok (.invokespecial 11, 3) := by decide +kernel
theorem dX11_init_12 : decode cX11_init 12 = .ok (.putfield 12, 3) := by decide +kernel
theorem dX11_init_15 : decode cX11_init 15 = .ok (.aload_n 0, 1) := by decide +kernel
theorem dX11_init_16 : decode cX11_init 16 = .ok (.bipush 6, 2) := by decide +kernel
theorem dX11_init_18 : decode cX11_init 18 = .ok (.anewarray 16, 3) := by decide +kernel
theorem dX11_init_21 : decode cX11_init 21 = .ok (.putfield 18, 3) := by decide +kernel
theorem dX11_init_24 : decode cX11_init 24 = .ok (.iconst 0, 1) := by decide +kernel
theorem dX11_init_25 : decode cX11_init 25 = .ok (.istore_n 1, 1) := by decide +kernel
theorem dX11_init_26 : decode cX11_init 26 = .ok (.iload_n 1, 1) := by decide +kernel
theorem dX11_init_27 : decode cX11_init 27 = .ok (.bipush 6, 2) := by decide +kernel
theorem dX11_init_29 : decode cX11_init 29 = .ok (.if_icmp .ge 22, 3) := by decide +kernel
theorem dX11_init_32 : decode cX11_init 32 = .ok (.aload_n 0, 1) := by decide +kernel
theorem dX11_init_33 : decode cX11_init 33 = .ok (.getfield 18, 3) := by decide +kernel
theorem dX11_init_36 : decode cX11_init 36 = .ok (.iload_n 1, 1) := by decide +kernel
theorem dX11_init_37 : decode cX11_init 37 = .ok (.new 16, 3) := by decide +kernel
theorem dX11_init_40 : decode cX11_init 40 = .ok (.dup, 1) := by decide +kernel
theorem dX11_init_41 : decode cX11_init 41 = .ok (.invokespecial 22, 3) := by decide +kernel
theorem dX11_init_44 : decode cX11_init 44 = .ok (.aastore, 1) := by decide +kernel
theorem dX11_init_45 : decode cX11_init 45 = .ok (.iinc 1 1, 3) := by decide +kernel
theorem dX11_init_48 : decode cX11_init 48 = .ok (.goto (-22), 3) := by decide +kernel
theorem dX11_init_51 : decode cX11_init 51 = .ok (.aload_n 0, 1) := by decide +kernel
theorem dX11_init_52 : decode cX11_init 52 = .ok (.new 23, 3) := by decide +kernel
theorem dX11_init_55 : decode cX11_init 55 = .ok (.dup, 1) := by decide +kernel
theorem dX11_init_56 : decode cX11_init 56 = .ok (.invokespecial 25, 3) := by decide +kernel
theorem dX11_init_59 : decode cX11_init 59 = .ok (.putfield 26, 3) := by decide +kernel
theorem dX11_init_62 : decode cX11_init 62 = .ok (.aload_n 0, 1) := by decide +kernel
theorem dX11_init_63 : decode cX11_init 63 = .ok (.new 23, 3) := by decide +kernel
theorem dX11_init_66 : decode cX11_init 66 = .ok (.dup, 1) := by decide +kernel
theorem dX11_init_67 : decode cX11_init 67 = .ok (.invokespecial 25, 3) := by decide +kernel
theorem dX11_init_70 : decode cX11_init 70 = .ok (.putfield 30, 3) := by decide +kernel
theorem dX11_init_73 : decode cX11_init 73 = .ok (.aload_n 0, 1) := by decide +kernel
theorem dX11_init_74 : decode cX11_init 74 = .ok (.iconst 0, 1) := by decide +kernel
theorem dX11_init_75 : decode cX11_init 75 = .ok (.putfield 33, 3) := by decide +kernel
theorem dX11_init_78 : decode cX11_init 78 = .ok (.aload_n 0, 1) := by decide +kernel
theorem dX11_init_79 : decode cX11_init 79 = .ok (.new 37, 3) := by decide +kernel
theorem dX11_init_82 : decode cX11_init 82 = .ok (.dup, 1) := by decide +kernel
theorem dX11_init_83 : decode cX11_init 83 = .ok (.invokespecial 39, 3) := by decide +kernel
theorem dX11_init_86 : decode cX11_init 86 = .ok (.putfield 40, 3) := by decide +kernel
theorem dX11_init_89 : decode cX11_init 89 = .ok (.aload_n 0, 1) := by decide +kernel
theorem dX11_init_90 : decode cX11_init 90 = .ok (.bipush 20, 2) := by decide +kernel
theorem dX11_init_92 : decode cX11_init 92 = .ok (.anewarray 37, 3) := by decide +kernel
theorem dX11_init_95 : decode cX11_init 95 = .ok (.putfield 44, 3) := by decide +kernel
theorem dX11_init_98 : decode cX11_init 98 = .ok (.iconst 0, 1) := by decide +kernel
theorem dX11_init_99 : decode cX11_init 99 = .ok (.istore_n 1, 1) := by decide +kernel
theorem dX11_init_100 : decode cX11_init 100 = .ok (.iload_n 1, 1) := by decide +kernel
theorem dX11_init_101 : decode cX11_init 101 = .ok (.bipush 20, 2) := by decide +kernel
theorem dX11_init_103 : decode cX11_init 103 = .ok (.if_icmp .ge 22, 3) := by decide +kernel
theorem dX11_init_106 : decode cX11_init 106 = .ok (.aload_n 0, 1) := by decide +kernel
theorem dX11_init_107 : decode cX11_init 107 = .ok (.getfield 44, 3) := by decide +kernel
theorem dX11_init_110 : decode cX11_init 110 = .ok (.iload_n 1, 1) := by decide +kernel
theorem dX11_init_111 : decode cX11_init 111 = .ok (.new 37, 3) := by decide +kernel
theorem dX11_init_114 : decode cX11_init 114 = .ok (.dup, 1) := by decide +kernel
theorem dX11_init_115 : decode cX11_init 115 = .ok (.invokespecial 39, 3) := by decide +kernel
theorem dX11_init_118 : decode cX11_init 118 = .ok (.aastore, 1) := by decide +kernel
theorem dX11_init_119 : decode cX11_init 119 = .ok (.iinc 1 1, 3) := by decide +kernel
theorem dX11_init_122 : decode cX11_init 122 = .ok (.goto (-22), 3) := by decide +kernel
theorem dX11_init_125 : decode cX11_init 125 = .ok (.aload_n 0, 1) := by decide +kernel
theorem dX11_init_126 : decode cX11_init 126 = .ok (.new 48, 3) := by decide +kernel
theorem dX11_init_129 : decode cX11_init 129 = .ok (.dup, 1) := by decide +kernel
theorem dX11_init_130 : decode cX11_init 130 = .ok (.invokespecial 50, 3) := by decide +kernel
theorem dX11_init_133 : decode cX11_init 133 = .ok (.putfield 51, 3) := by decide +kernel
theorem dX11_init_136 : decode cX11_init 136 = .ok (.aload_n 0, 1) := by decide +kernel
theorem dX11_init_137 : decode cX11_init 137 = .ok (.new 55, 3) := by decide +kernel
theorem dX11_init_140 : decode cX11_init 140 = .ok (.dup, 1) := by decide +kernel
theorem dX11_init_141 : decode cX11_init 141 = .ok (.invokespecial 57, 3) := by decide +kernel
theorem dX11_init_144 : decode cX11_init 144 = .ok (.putfield 58, 3) := by decide +kernel
theorem dX11_init_147 : decode cX11_init 147 = .ok (.aload_n 0, 1) := by decide +kernel
theorem dX11_init_148 : decode cX11_init 148 = .ok (.new 62, 3) := by decide +kernel
theorem dX11_init_151 : decode cX11_init 151 = .ok (.dup, 1) := by decide +kernel
theorem dX11_init_152 : decode cX11_init 152 = .ok (.invokespecial 64, 3) := by decide +kernel
theorem dX11_init_155 : decode cX11_init 155 = .ok (.putfield 65, 3) := by decide +kernel
theorem dX11_init_158 : decode cX11_init 158 = .ok (.aload_n 0, 1) := by decide +kernel
theorem dX11_init_159 : decode cX11_init 159 = .ok (.bipush 16, 2) := by decide +kernel
theorem dX11_init_161 : decode cX11_init 161 = .ok (.newarray .int, 2) := by decide +kernel
theorem dX11_init_163 : decode cX11_init 163 = .ok (.putfield 69, 3) := by decide +kernel
theorem dX11_init_166 : decode cX11_init 166 = .ok (.aload_n 0, 1) := by decide +kernel
theorem dX11_init_167 : decode cX11_init 167 = .ok (.bipush 16, 2) := by decide +kernel
theorem dX11_init_169 : decode cX11_init 169 = .ok (.newarray .int, 2) := by decide +kernel
theorem dX11_init_171 : decode cX11_init 171 = .ok (.putfield 73, 3) := by decide +kernel
theorem dX11_init_174 : decode cX11_init 174 = .ok (.return_, 1) := by decide +kernel
theorem dX11_feed_0 : decode cX11_feed 0 = .ok (.aload_n 0, 1) := by decide +kernel
theorem dX11_feed_1 : decode cX11_feed 1 = .ok (.getfield 12, 3) := by decide +kernel
theorem dX11_feed_4 : decode cX11_feed 4 = .ok (.getfield 76, 3) := by decide +kernel
theorem dX11_feed_7 : decode cX11_feed 7 = .ok (.bipush 20, 2) := by decide +kernel
theorem dX11_feed_9 : decode cX11_feed 9 = .ok (.iadd, 1) := by decide +kernel
theorem dX11_feed_10 : decode cX11_feed 10 = .ok (.sipush 700, 3) := by decide +kernel
theorem dX11_feed_13 : decode cX11_feed 13 = .ok (.if_icmp .le 5, 3) := by decide +kernel
theorem dX11_feed_16 : decode cX11_feed 16 = .ok (.iconst (-1), 1) := by decide +kernel
theorem dX11_feed_17 : decode cX11_feed 17 = .ok (.ireturn, 1) := by decide +kernel
theorem dX11_feed_18 : decode cX11_feed 18 = .ok (.aload_n 0, 1) := by decide +kernel
theorem dX11_feed_19 : decode cX11_feed 19 = .ok (.getfield 12, 3) := by decide +kernel
theorem dX11_feed_22 : decode cX11_feed 22 = .ok (.iload_n 1, 1) := by decide +kernel
theorem dX11_feed_23 : decode cX11_feed 23 = .ok (.invokevirtual 80, 3) := by decide +kernel
theorem dX11_feed_26 : decode cX11_feed 26 = .ok (.aload_n 0, 1) := by decide +kernel
theorem dX11_feed_27 : decode cX11_feed 27 = .ok (.getfield 12, 3) := by decide +kernel
theorem dX11_feed_30 : decode cX11_feed 30 = .ok (.iload_n 2, 1) := by decide +kernel
theorem dX11_feed_31 : decode cX11_feed 31 = .ok (.invokevirtual 80, 3) := by decide +kernel
theorem dX11_feed_34 : decode cX11_feed 34 = .ok (.aload_n 0, 1) := by decide +kernel
theorem dX11_feed_35 : decode cX11_feed 35 = .ok (.getfield 12, 3) := by decide +kernel
theorem dX11_feed_38 : decode cX11_feed 38 = .ok (.iload_n 3, 1) := by decide +kernel
theorem dX11_feed_39 : decode cX11_feed 39 = .ok (.invokevirtual 80, 3) := by decide +kernel
theorem dX11_feed_42 : decode cX11_feed 42 = .ok (.aload_n 0, 1) := by decide +kernel
theorem dX11_feed_43 : decode cX11_feed 43 = .ok (.getfield 12, 3) := by decide +kernel
theorem dX11_feed_46 : decode cX11_feed 46 = .ok (.iload 4, 2) := by decide +kernel
theorem dX11_feed_48 : decode cX11_feed 48 = .ok (.invokevirtual 80, 3) := by decide +kernel
theorem dX11_feed_51 : decode cX11_feed 51 = .ok (.aload_n 0, 1) := by decide +kernel
theorem dX11_feed_52 : decode cX11_feed 52 = .ok (.getfield 12, 3) := by decide +kernel
theorem dX11_feed_55 : decode cX11_feed 55 = .ok (.iload 5, 2) := by decide +kernel
theorem dX11_feed_57 : decode cX11_feed 57 = .ok (.invokevirtual 80, 3) := by decide +kernel
theorem dX11_feed_60 : decode cX11_feed 60 = .ok (.aload_n 0, 1) := by decide +kernel
theorem dX11_feed_61 : decode cX11_feed 61 = .ok (.getfield 12, 3) := by decide +kernel
theorem dX11_feed_64 : decode cX11_feed 64 = .ok (.getfield 76, 3) := by decide +kernel
theorem dX11_feed_67 : decode cX11_feed 67 = .ok (.ireturn, 1) := by decide +kernel
theorem dX11_land_0 : decode cX11_land 0 = .ok (.aload_n 0, 1) := by decide +kernel
theorem dX11_land_1 : decode cX11_land 1 = .ok (.iload_n 1, 1) := by decide +kernel
theorem dX11_land_2 : decode cX11_land 2 = .ok (.invokevirtual 84, 3) := by decide +kernel
theorem dX11_land_5 : decode cX11_land 5 = .ok (.astore_n 3, 1) := by decide +kernel
theorem dX11_land_6 : decode cX11_land 6 = .ok (.iload_n 2, 1) := by decide +kernel
theorem dX11_land_7 : decode cX11_land 7 = .ok (.ifCond .lt 14, 3) := by decide +kernel
theorem dX11_land_10 : decode cX11_land 10 = .ok (.iload_n 2, 1) := by decide +kernel
theorem dX11_land_11 : decode cX11_land 11 = .ok (.aload_n 0, 1) := by decide +kernel
theorem dX11_land_12 : decode cX11_land 12 = .ok (.getfield 12, 3) := by decide +kernel
theorem dX11_land_15 : decode cX11_land 15 = .ok (.getfield 76, 3) := by decide +kernel
theorem dX11_land_18 : decode cX11_land 18 = .ok (.if_icmp .le 13, 3) := by decide +kernel
theorem dX11_land_21 : decode cX11_land 21 = .ok (.new 88, 3) := by decide +kernel
theorem dX11_land_24 : decode cX11_land 24 = .ok (.dup, 1) := by decide +kernel
theorem dX11_land_25 : decode cX11_land 25 = .ok (.ldc 90, 2) := by decide +kernel
theorem dX11_land_27 : decode cX11_land 27 = .ok (.invokespecial 92, 3) := by decide +kernel
theorem dX11_land_30 : decode cX11_land 30 = .ok (.athrow, 1) := by decide +kernel
theorem dX11_land_31 : decode cX11_land 31 = .ok (.aload_n 0, 1) := by decide +kernel
theorem dX11_land_32 : decode cX11_land 32 = .ok (.getfield 12, 3) := by decide +kernel
theorem dX11_land_35 : decode cX11_land 35 = .ok (.iload_n 2, 1) := by decide +kernel
theorem dX11_land_36 : decode cX11_land 36 = .ok (.invokevirtual 95, 3) := by decide +kernel
theorem dX11_land_39 : decode cX11_land 39 = .ok (.istore 4, 2) := by decide +kernel
theorem dX11_land_41 : decode cX11_land 41 = .ok (.iload 4, 2) := by decide +kernel
theorem dX11_land_43 : decode cX11_land 43 = .ok (.ifCond .eq 19, 3) := by decide +kernel
theorem dX11_land_46 : decode cX11_land 46 = .ok (.aload_n 0, 1) := by decide +kernel
theorem dX11_land_47 : decode cX11_land 47 = .ok (.getfield 26, 3) := by decide +kernel
theorem dX11_land_50 : decode cX11_land 50 = .ok (.getfield 99, 3) := by decide +kernel
theorem dX11_land_53 : decode cX11_land 53 = .ok (.iconst 0, 1) := by decide +kernel
theorem dX11_land_54 : decode cX11_land 54 = .ok (.dup2, 1) := by decide +kernel
theorem dX11_land_55 : decode cX11_land 55 = .ok (.iaload, 1) := by decide +kernel
theorem dX11_land_56 : decode cX11_land 56 = .ok (.iconst 1, 1) := by decide +kernel
theorem dX11_land_57 : decode cX11_land 57 = .ok (.iadd, 1) := by decide +kernel
theorem dX11_land_58 : decode cX11_land 58 = .ok (.iastore, 1) := by decide +kernel
theorem dX11_land_59 : decode cX11_land 59 = .ok (.iload 4, 2) := by decide +kernel
theorem dX11_land_61 : decode cX11_land 61 = .ok (.ireturn, 1) := by decide +kernel
theorem dX11_land_62 : decode cX11_land 62 = .ok (.aload_n 0, 1) := by decide +kernel
theorem dX11_land_63 : decode cX11_land 63 = .ok (.getfield 18, 3) := by decide +kernel
theorem dX11_land_66 : decode cX11_land 66 = .ok (.iload_n 1, 1) := by decide +kernel
theorem dX11_land_67 : decode cX11_land 67 = .ok (.aload_n 0, 1) := by decide +kernel
theorem dX11_land_68 : decode cX11_land 68 = .ok (.getfield 12, 3) := by decide +kernel
theorem dX11_land_71 : decode cX11_land 71 = .ok (.aload_n 3, 1) := by decide +kernel
theorem dX11_land_72 : decode cX11_land 72 = .ok (.invokevirtual 102, 3) := by decide +kernel
theorem dX11_land_75 : decode cX11_land 75 = .ok (.aastore, 1) := by decide +kernel
theorem dX11_land_76 : decode cX11_land 76 = .ok (.iconst 0, 1) := by decide +kernel
theorem dX11_land_77 : decode cX11_land 77 = .ok (.ireturn, 1) := by decide +kernel
theorem dX11_fault_0 : decode cX11_fault 0 = .ok (.aload_n 0, 1) := by decide +kernel
theorem dX11_fault_1 : decode cX11_fault 1 = .ok (.getfield 12, 3) := by decide +kernel
theorem dX11_fault_4 : decode cX11_fault 4 = .ok (.getfield 106, 3) := by decide +kernel
theorem dX11_fault_7 : decode cX11_fault 7 = .ok (.ireturn, 1) := by decide +kernel
theorem dX11_count_0 : decode cX11_count 0 = .ok (.iload_n 1, 1) := by decide +kernel
theorem dX11_count_1 : decode cX11_count 1 = .ok (.tableswitch 107 0 6 #[43, 51, 59, 67, 77, 87, 97], 43) := by decide +kernel
theorem dX11_count_44 : decode cX11_count 44 = .ok (.aload_n 0, 1) := by decide +kernel
theorem dX11_count_45 : decode cX11_count 45 = .ok (.getfield 12, 3) := by decide +kernel
theorem dX11_count_48 : decode cX11_count 48 = .ok (.getfield 76, 3) := by decide +kernel
theorem dX11_count_51 : decode cX11_count 51 = .ok (.ireturn, 1) := by decide +kernel
theorem dX11_count_52 : decode cX11_count 52 = .ok (.aload_n 0, 1) := by decide +kernel
theorem dX11_count_53 : decode cX11_count 53 = .ok (.getfield 26, 3) := by decide +kernel
theorem dX11_count_56 : decode cX11_count 56 = .ok (.getfield 109, 3) := by decide +kernel
theorem dX11_count_59 : decode cX11_count 59 = .ok (.ireturn, 1) := by decide +kernel
theorem dX11_count_60 : decode cX11_count 60 = .ok (.aload_n 0, 1) := by decide +kernel
theorem dX11_count_61 : decode cX11_count 61 = .ok (.getfield 26, 3) := by decide +kernel
theorem dX11_count_64 : decode cX11_count 64 = .ok (.getfield 112, 3) := by decide +kernel
theorem dX11_count_67 : decode cX11_count 67 = .ok (.ireturn, 1) := by decide +kernel
theorem dX11_count_68 : decode cX11_count 68 = .ok (.aload_n 0, 1) := by decide +kernel
theorem dX11_count_69 : decode cX11_count 69 = .ok (.getfield 26, 3) := by decide +kernel
theorem dX11_count_72 : decode cX11_count 72 = .ok (.getfield 99, 3) := by decide +kernel
theorem dX11_count_75 : decode cX11_count 75 = .ok (.iconst 0, 1) := by decide +kernel
theorem dX11_count_76 : decode cX11_count 76 = .ok (.iaload, 1) := by decide +kernel
theorem dX11_count_77 : decode cX11_count 77 = .ok (.ireturn, 1) := by decide +kernel
theorem dX11_count_78 : decode cX11_count 78 = .ok (.aload_n 0, 1) := by decide +kernel
theorem dX11_count_79 : decode cX11_count 79 = .ok (.getfield 26, 3) := by decide +kernel
theorem dX11_count_82 : decode cX11_count 82 = .ok (.getfield 99, 3) := by decide +kernel
theorem dX11_count_85 : decode cX11_count 85 = .ok (.iconst 1, 1) := by decide +kernel
theorem dX11_count_86 : decode cX11_count 86 = .ok (.iaload, 1) := by decide +kernel
theorem dX11_count_87 : decode cX11_count 87 = .ok (.ireturn, 1) := by decide +kernel
theorem dX11_count_88 : decode cX11_count 88 = .ok (.aload_n 0, 1) := by decide +kernel
theorem dX11_count_89 : decode cX11_count 89 = .ok (.getfield 26, 3) := by decide +kernel
theorem dX11_count_92 : decode cX11_count 92 = .ok (.getfield 99, 3) := by decide +kernel
theorem dX11_count_95 : decode cX11_count 95 = .ok (.iconst 2, 1) := by decide +kernel
theorem dX11_count_96 : decode cX11_count 96 = .ok (.iaload, 1) := by decide +kernel
theorem dX11_count_97 : decode cX11_count 97 = .ok (.ireturn, 1) := by decide +kernel
theorem dX11_count_98 : decode cX11_count 98 = .ok (.aload_n 0, 1) := by decide +kernel
theorem dX11_count_99 : decode cX11_count 99 = .ok (.getfield 26, 3) := by decide +kernel
theorem dX11_count_102 : decode cX11_count 102 = .ok (.getfield 99, 3) := by decide +kernel
theorem dX11_count_105 : decode cX11_count 105 = .ok (.iconst 3, 1) := by decide +kernel
theorem dX11_count_106 : decode cX11_count 106 = .ok (.iaload, 1) := by decide +kernel
theorem dX11_count_107 : decode cX11_count 107 = .ok (.ireturn, 1) := by decide +kernel
theorem dX11_count_108 : decode cX11_count 108 = .ok (.new 115, 3) := by decide +kernel
theorem dX11_count_111 : decode cX11_count 111 = .ok (.dup, 1) := by decide +kernel
theorem dX11_count_112 : decode cX11_count 112 = .ok (.ldc 117, 2) := by decide +kernel
theorem dX11_count_114 : decode cX11_count 114 = .ok (.invokespecial 119, 3) := by decide +kernel
theorem dX11_count_117 : decode cX11_count 117 = .ok (.athrow, 1) := by decide +kernel
theorem dX11_about_0 : decode cX11_about 0 = .ok (.aload_n 0, 1) := by decide +kernel
theorem dX11_about_1 : decode cX11_about 1 = .ok (.iload_n 1, 1) := by decide +kernel
theorem dX11_about_2 : decode cX11_about 2 = .ok (.invokevirtual 84, 3) := by decide +kernel
theorem dX11_about_5 : decode cX11_about 5 = .ok (.astore_n 3, 1) := by decide +kernel
theorem dX11_about_6 : decode cX11_about 6 = .ok (.iload_n 2, 1) := by decide +kernel
theorem dX11_about_7 : decode cX11_about 7 = .ok (.tableswitch 58 0 4 #[33, 38, 43, 48, 53], 33) := by decide +kernel
theorem dX11_about_40 : decode cX11_about 40 = .ok (.aload_n 3, 1) := by decide +kernel
theorem dX11_about_41 : decode cX11_about 41 = .ok (.getfield 120, 3) := by decide +kernel
theorem dX11_about_44 : decode cX11_about 44 = .ok (.ireturn, 1) := by decide +kernel
theorem dX11_about_45 : decode cX11_about 45 = .ok (.aload_n 3, 1) := by decide +kernel
theorem dX11_about_46 : decode cX11_about 46 = .ok (.getfield 123, 3) := by decide +kernel
theorem dX11_about_49 : decode cX11_about 49 = .ok (.ireturn, 1) := by decide +kernel
theorem dX11_about_50 : decode cX11_about 50 = .ok (.aload_n 3, 1) := by decide +kernel
theorem dX11_about_51 : decode cX11_about 51 = .ok (.getfield 126, 3) := by decide +kernel
theorem dX11_about_54 : decode cX11_about 54 = .ok (.ireturn, 1) := by decide +kernel
theorem dX11_about_55 : decode cX11_about 55 = .ok (.aload_n 3, 1) := by decide +kernel
theorem dX11_about_56 : decode cX11_about 56 = .ok (.getfield 129, 3) := by decide +kernel
theorem dX11_about_59 : decode cX11_about 59 = .ok (.ireturn, 1) := by decide +kernel
theorem dX11_about_60 : decode cX11_about 60 = .ok (.aload_n 3, 1) := by decide +kernel
theorem dX11_about_61 : decode cX11_about 61 = .ok (.getfield 132, 3) := by decide +kernel
theorem dX11_about_64 : decode cX11_about 64 = .ok (.ireturn, 1) := by decide +kernel
theorem dX11_about_65 : decode cX11_about 65 = .ok (.new 115, 3) := by decide +kernel
theorem dX11_about_68 : decode cX11_about 68 = .ok (.dup, 1) := by decide +kernel
theorem dX11_about_69 : decode cX11_about 69 = .ok (.ldc 135, 2) := by decide +kernel
theorem dX11_about_71 : decode cX11_about 71 = .ok (.invokespecial 119, 3) := by decide +kernel
theorem dX11_about_74 : decode cX11_about 74 = .ok (.athrow, 1) := by decide +kernel
theorem dX11_clap_0 : decode cX11_clap 0 = .ok (.aload_n 0, 1) := by decide +kernel
theorem dX11_clap_1 : decode cX11_clap 1 = .ok (.iload_n 1, 1) := by decide +kernel
theorem dX11_clap_2 : decode cX11_clap 2 = .ok (.iload_n 2, 1) := by decide +kernel
theorem dX11_clap_3 : decode cX11_clap 3 = .ok (.iload_n 3, 1) := by decide +kernel
theorem dX11_clap_4 : decode cX11_clap 4 = .ok (.iload 4, 2) := by decide +kernel
theorem dX11_clap_6 : decode cX11_clap 6 = .ok (.iload 5, 2) := by decide +kernel
theorem dX11_clap_8 : decode cX11_clap 8 = .ok (.invokevirtual 137, 3) := by decide +kernel
theorem dX11_clap_11 : decode cX11_clap 11 = .ok (.astore 7, 2) := by decide +kernel
theorem dX11_clap_13 : decode cX11_clap 13 = .ok (.aload_n 0, 1) := by decide +kernel
theorem dX11_clap_14 : decode cX11_clap 14 = .ok (.getfield 40, 3) := by decide +kernel
theorem dX11_clap_17 : decode cX11_clap 17 = .ok (.aload 7, 2) := by decide +kernel
theorem dX11_clap_19 : decode cX11_clap 19 = .ok (.iload_n 2, 1) := by decide +kernel
theorem dX11_clap_20 : decode cX11_clap 20 = .ok (.iload_n 3, 1) := by decide +kernel
theorem dX11_clap_21 : decode cX11_clap 21 = .ok (.iload 4, 2) := by decide +kernel
theorem dX11_clap_23 : decode cX11_clap 23 = .ok (.iload 5, 2) := by decide +kernel
theorem dX11_clap_25 : decode cX11_clap 25 = .ok (.invokevirtual 141, 3) := by decide +kernel
theorem dX11_clap_28 : decode cX11_clap 28 = .ok (.aload_n 0, 1) := by decide +kernel
theorem dX11_clap_29 : decode cX11_clap 29 = .ok (.getfield 51, 3) := by decide +kernel
theorem dX11_clap_32 : decode cX11_clap 32 = .ok (.aload_n 0, 1) := by decide +kernel
theorem dX11_clap_33 : decode cX11_clap 33 = .ok (.getfield 40, 3) := by decide +kernel
theorem dX11_clap_36 : decode cX11_clap 36 = .ok (.aload 7, 2) := by decide +kernel
theorem dX11_clap_38 : decode cX11_clap 38 = .ok (.iconst 0, 1) := by decide +kernel
theorem dX11_clap_39 : decode cX11_clap 39 = .ok (.invokevirtual 145, 3) := by decide +kernel
theorem dX11_clap_42 : decode cX11_clap 42 = .ok (.aload_n 0, 1) := by decide +kernel
theorem dX11_clap_43 : decode cX11_clap 43 = .ok (.getfield 51, 3) := by decide +kernel
theorem dX11_clap_46 : decode cX11_clap 46 = .ok (.aload 7, 2) := by decide +kernel
theorem dX11_clap_48 : decode cX11_clap 48 = .ok (.getfield 129, 3) := by decide +kernel
theorem dX11_clap_51 : decode cX11_clap 51 = .ok (.invokevirtual 149, 3) := by decide +kernel
theorem dX11_clap_54 : decode cX11_clap 54 = .ok (.istore 8, 2) := by decide +kernel
theorem dX11_clap_56 : decode cX11_clap 56 = .ok (.iload 6, 2) := by decide +kernel
theorem dX11_clap_58 : decode cX11_clap 58 = .ok (.iconst (-1), 1) := by decide +kernel
theorem dX11_clap_59 : decode cX11_clap 59 = .ok (.if_icmp .ne 6, 3) := by decide +kernel
theorem dX11_clap_62 : decode cX11_clap 62 = .ok (.iload 8, 2) := by decide +kernel
theorem dX11_clap_64 : decode cX11_clap 64 = .ok (.ireturn, 1) := by decide +kernel
theorem dX11_clap_65 : decode cX11_clap 65 = .ok (.iload 6, 2) := by decide +kernel
theorem dX11_clap_67 : decode cX11_clap 67 = .ok (.ifCond .lt 10, 3) := by decide +kernel
theorem dX11_clap_70 : decode cX11_clap 70 = .ok (.iload 6, 2) := by decide +kernel
theorem dX11_clap_72 : decode cX11_clap 72 = .ok (.iload 8, 2) := by decide +kernel
theorem dX11_clap_74 : decode cX11_clap 74 = .ok (.if_icmp .lt 13, 3) := by decide +kernel
theorem dX11_clap_77 : decode cX11_clap 77 = .ok (.new 115, 3) := by decide +kernel
theorem dX11_clap_80 : decode cX11_clap 80 = .ok (.dup, 1) := by decide +kernel
theorem dX11_clap_81 : decode cX11_clap 81 = .ok (.ldc 152, 2) := by decide +kernel
theorem dX11_clap_83 : decode cX11_clap 83 = .ok (.invokespecial 119, 3) := by decide +kernel
theorem dX11_clap_86 : decode cX11_clap 86 = .ok (.athrow, 1) := by decide +kernel
theorem dX11_clap_87 : decode cX11_clap 87 = .ok (.aload_n 0, 1) := by decide +kernel
theorem dX11_clap_88 : decode cX11_clap 88 = .ok (.getfield 51, 3) := by decide +kernel
theorem dX11_clap_91 : decode cX11_clap 91 = .ok (.getfield 154, 3) := by decide +kernel
theorem dX11_clap_94 : decode cX11_clap 94 = .ok (.iload 6, 2) := by decide +kernel
theorem dX11_clap_96 : decode cX11_clap 96 = .ok (.iaload, 1) := by decide +kernel
theorem dX11_clap_97 : decode cX11_clap 97 = .ok (.aload 7, 2) := by decide +kernel
theorem dX11_clap_99 : decode cX11_clap 99 = .ok (.getfield 132, 3) := by decide +kernel
theorem dX11_clap_102 : decode cX11_clap 102 = .ok (.invokestatic 157, 3) := by decide +kernel
theorem dX11_clap_105 : decode cX11_clap 105 = .ok (.ireturn, 1) := by decide +kernel
theorem dX11_strength_0 : decode cX11_strength 0 = .ok (.aload_n 0, 1) := by decide +kernel
theorem dX11_strength_1 : decode cX11_strength 1 = .ok (.iload_n 1, 1) := by decide +kernel
theorem dX11_strength_2 : decode cX11_strength 2 = .ok (.iload_n 2, 1) := by decide +kernel
theorem dX11_strength_3 : decode cX11_strength 3 = .ok (.iload_n 3, 1) := by decide +kernel
theorem dX11_strength_4 : decode cX11_strength 4 = .ok (.iload 4, 2) := by decide +kernel
theorem dX11_strength_6 : decode cX11_strength 6 = .ok (.iload 5, 2) := by decide +kernel
theorem dX11_strength_8 : decode cX11_strength 8 = .ok (.invokevirtual 137, 3) := by decide +kernel
theorem dX11_strength_11 : decode cX11_strength 11 = .ok (.astore 7, 2) := by decide +kernel
theorem dX11_strength_13 : decode cX11_strength 13 = .ok (.iload 6, 2) := by decide +kernel
theorem dX11_strength_15 : decode cX11_strength 15 = .ok (.ifCond .lt 10, 3) := by decide +kernel
theorem dX11_strength_18 : decode cX11_strength 18 = .ok (.iload 6, 2) := by decide +kernel
theorem dX11_strength_20 : decode cX11_strength 20 = .ok (.bipush 80, 2) := by decide +kernel
theorem dX11_strength_22 : decode cX11_strength 22 = .ok (.if_icmp .lt 13, 3) := by decide +kernel
theorem dX11_strength_25 : decode cX11_strength 25 = .ok (.new 115, 3) := by decide +kernel
theorem dX11_strength_28 : decode cX11_strength 28 = .ok (.dup, 1) := by decide +kernel
theorem dX11_strength_29 : decode cX11_strength 29 = .ok (.ldc 161, 2) := by decide +kernel
theorem dX11_strength_31 : decode cX11_strength 31 = .ok (.invokespecial 119, 3) := by decide +kernel
theorem dX11_strength_34 : decode cX11_strength 34 = .ok (.athrow, 1) := by decide +kernel
theorem dX11_strength_35 : decode cX11_strength 35 = .ok (.aload_n 0, 1) := by decide +kernel
theorem dX11_strength_36 : decode cX11_strength 36 = .ok (.getfield 40, 3) := by decide +kernel
theorem dX11_strength_39 : decode cX11_strength 39 = .ok (.aload 7, 2) := by decide +kernel
theorem dX11_strength_41 : decode cX11_strength 41 = .ok (.iload_n 2, 1) := by decide +kernel
theorem dX11_strength_42 : decode cX11_strength 42 = .ok (.iload_n 3, 1) := by decide +kernel
theorem dX11_strength_43 : decode cX11_strength 43 = .ok (.iload 4, 2) := by decide +kernel
theorem dX11_strength_45 : decode cX11_strength 45 = .ok (.iload 5, 2) := by decide +kernel
theorem dX11_strength_47 : decode cX11_strength 47 = .ok (.invokevirtual 141, 3) := by decide +kernel
theorem dX11_strength_50 : decode cX11_strength 50 = .ok (.aload_n 0, 1) := by decide +kernel
theorem dX11_strength_51 : decode cX11_strength 51 = .ok (.getfield 51, 3) := by decide +kernel
theorem dX11_strength_54 : decode cX11_strength 54 = .ok (.aload_n 0, 1) := by decide +kernel
theorem dX11_strength_55 : decode cX11_strength 55 = .ok (.getfield 40, 3) := by decide +kernel
theorem dX11_strength_58 : decode cX11_strength 58 = .ok (.aload 7, 2) := by decide +kernel
theorem dX11_strength_60 : decode cX11_strength 60 = .ok (.iconst 0, 1) := by decide +kernel
theorem dX11_strength_61 : decode cX11_strength 61 = .ok (.invokevirtual 145, 3) := by decide +kernel
theorem dX11_strength_64 : decode cX11_strength 64 = .ok (.aload_n 0, 1) := by decide +kernel
theorem dX11_strength_65 : decode cX11_strength 65 = .ok (.getfield 51, 3) := by decide +kernel
theorem dX11_strength_68 : decode cX11_strength 68 = .ok (.iload 6, 2) := by decide +kernel
theorem dX11_strength_70 : decode cX11_strength 70 = .ok (.invokevirtual 163, 3) := by decide +kernel
theorem dX11_strength_73 : decode cX11_strength 73 = .ok (.ireturn, 1) := by decide +kernel
theorem dX11_station_0 : decode cX11_station 0 = .ok (.iload_n 1, 1) := by decide +kernel
theorem dX11_station_1 : decode cX11_station 1 = .ok (.iload_n 2, 1) := by decide +kernel
theorem dX11_station_2 : decode cX11_station 2 = .ok (.invokestatic 166, 3) := by decide +kernel
theorem dX11_station_5 : decode cX11_station 5 = .ok (.ifCond .ne 13, 3) := by decide +kernel
theorem dX11_station_8 : decode cX11_station 8 = .ok (.iload_n 1, 1) := by decide +kernel
theorem dX11_station_9 : decode cX11_station 9 = .ok (.iconst (-1), 1) := by decide +kernel
theorem dX11_station_10 : decode cX11_station 10 = .ok (.if_icmp .ne 12, 3) := by decide +kernel
theorem dX11_station_13 : decode cX11_station 13 = .ok (.iload_n 2, 1) := by decide +kernel
theorem dX11_station_14 : decode cX11_station 14 = .ok (.iconst (-1), 1) := by decide +kernel
theorem dX11_station_15 : decode cX11_station 15 = .ok (.if_icmp .ne 7, 3) := by decide +kernel
theorem dX11_station_18 : decode cX11_station 18 = .ok (.iconst 1, 1) := by decide +kernel
theorem dX11_station_19 : decode cX11_station 19 = .ok (.goto 4, 3) := by decide +kernel
theorem dX11_station_22 : decode cX11_station 22 = .ok (.iconst 0, 1) := by decide +kernel
theorem dX11_station_23 : decode cX11_station 23 = .ok (.istore 5, 2) := by decide +kernel
theorem dX11_station_25 : decode cX11_station 25 = .ok (.iload 5, 2) := by decide +kernel
theorem dX11_station_27 : decode cX11_station 27 = .ok (.ifCond .eq 30, 3) := by decide +kernel
theorem dX11_station_30 : decode cX11_station 30 = .ok (.iload_n 3, 1) := by decide +kernel
theorem dX11_station_31 : decode cX11_station 31 = .ok (.invokestatic 170, 3) := by decide +kernel
theorem dX11_station_34 : decode cX11_station 34 = .ok (.ifCond .eq 23, 3) := by decide +kernel
theorem dX11_station_37 : decode cX11_station 37 = .ok (.iload 4, 2) := by decide +kernel
theorem dX11_station_39 : decode cX11_station 39 = .ok (.invokestatic 174, 3) := by decide +kernel
theorem dX11_station_42 : decode cX11_station 42 = .ok (.ifCond .eq 15, 3) := by decide +kernel
theorem dX11_station_45 : decode cX11_station 45 = .ok (.aload_n 0, 1) := by decide +kernel
theorem dX11_station_46 : decode cX11_station 46 = .ok (.getfield 26, 3) := by decide +kernel
theorem dX11_station_49 : decode cX11_station 49 = .ok (.getfield 109, 3) := by decide +kernel
theorem dX11_station_52 : decode cX11_station 52 = .ok (.bipush 20, 2) := by decide +kernel
theorem dX11_station_54 : decode cX11_station 54 = .ok (.if_icmp .lt 18, 3) := by decide +kernel
theorem dX11_station_57 : decode cX11_station 57 = .ok (.aload_n 0, 1) := by decide +kernel
theorem dX11_station_58 : decode cX11_station 58 = .ok (.getfield 26, 3) := by decide +kernel
theorem dX11_station_61 : decode cX11_station 61 = .ok (.getfield 99, 3) := by decide +kernel
theorem dX11_station_64 : decode cX11_station 64 = .ok (.iconst 1, 1) := by decide +kernel
theorem dX11_station_65 : decode cX11_station 65 = .ok (.dup2, 1) := by decide +kernel
theorem dX11_station_66 : decode cX11_station 66 = .ok (.iaload, 1) := by decide +kernel
theorem dX11_station_67 : decode cX11_station 67 = .ok (.iconst 1, 1) := by decide +kernel
theorem dX11_station_68 : decode cX11_station 68 = .ok (.iadd, 1) := by decide +kernel
theorem dX11_station_69 : decode cX11_station 69 = .ok (.iastore, 1) := by decide +kernel
theorem dX11_station_70 : decode cX11_station 70 = .ok (.iconst (-1), 1) := by decide +kernel
theorem dX11_station_71 : decode cX11_station 71 = .ok (.ireturn, 1) := by decide +kernel
theorem dX11_station_72 : decode cX11_station 72 = .ok (.aload_n 0, 1) := by decide +kernel
theorem dX11_station_73 : decode cX11_station 73 = .ok (.getfield 26, 3) := by decide +kernel
theorem dX11_station_76 : decode cX11_station 76 = .ok (.getfield 109, 3) := by decide +kernel
theorem dX11_station_79 : decode cX11_station 79 = .ok (.istore 6, 2) := by decide +kernel
theorem dX11_station_81 : decode cX11_station 81 = .ok (.aload_n 0, 1) := by decide +kernel
theorem dX11_station_82 : decode cX11_station 82 = .ok (.getfield 26, 3) := by decide +kernel
theorem dX11_station_85 : decode cX11_station 85 = .ok (.getfield 177, 3) := by decide +kernel
theorem dX11_station_88 : decode cX11_station 88 = .ok (.iload 6, 2) := by decide +kernel
theorem dX11_station_90 : decode cX11_station 90 = .ok (.aaload, 1) := by decide +kernel
theorem dX11_station_91 : decode cX11_station 91 = .ok (.iload_n 1, 1) := by decide +kernel
theorem dX11_station_92 : decode cX11_station 92 = .ok (.iload_n 2, 1) := by decide +kernel
theorem dX11_station_93 : decode cX11_station 93 = .ok (.iload_n 3, 1) := by decide +kernel
theorem dX11_station_94 : decode cX11_station 94 = .ok (.iload 4, 2) := by decide +kernel
theorem dX11_station_96 : decode cX11_station 96 = .ok (.invokevirtual 181, 3) := by decide +kernel
theorem dX11_station_99 : decode cX11_station 99 = .ok (.aload_n 0, 1) := by decide +kernel
theorem dX11_station_100 : decode cX11_station 100 = .ok (.getfield 26, 3) := by decide +kernel
theorem dX11_station_103 : decode cX11_station 103 = .ok (.dup, 1) := by decide +kernel
theorem dX11_station_104 : decode cX11_station 104 = .ok (.getfield 109, 3) := by decide +kernel
theorem dX11_station_107 : decode cX11_station 107 = .ok (.iconst 1, 1) := by decide +kernel
theorem dX11_station_108 : decode cX11_station 108 = .ok (.iadd, 1) := by decide +kernel
theorem dX11_station_109 : decode cX11_station 109 = .ok (.putfield 109, 3) := by decide +kernel
theorem dX11_station_112 : decode cX11_station 112 = .ok (.iload 6, 2) := by decide +kernel
theorem dX11_station_114 : decode cX11_station 114 = .ok (.ireturn, 1) := by decide +kernel
theorem dX11_tick_0 : decode cX11_tick 0 = .ok (.aload_n 0, 1) := by decide +kernel
theorem dX11_tick_1 : decode cX11_tick 1 = .ok (.iload_n 1, 1) := by decide +kernel
theorem dX11_tick_2 : decode cX11_tick 2 = .ok (.invokevirtual 187, 3) := by decide +kernel
theorem dX11_tick_5 : decode cX11_tick 5 = .ok (.astore_n 3, 1) := by decide +kernel
theorem dX11_tick_6 : decode cX11_tick 6 = .ok (.iload_n 2, 1) := by decide +kernel
theorem dX11_tick_7 : decode cX11_tick 7 = .ok (.ifCond .lt 19, 3) := by decide +kernel
theorem dX11_tick_10 : decode cX11_tick 10 = .ok (.iload_n 2, 1) := by decide +kernel
theorem dX11_tick_11 : decode cX11_tick 11 = .ok (.sipush 9999, 3) := by decide +kernel
theorem dX11_tick_14 : decode cX11_tick 14 = .ok (.if_icmp .gt 12, 3) := by decide +kernel
theorem dX11_tick_17 : decode cX11_tick 17 = .ok (.aload_n 3, 1) := by decide +kernel
theorem dX11_tick_18 : decode cX11_tick 18 = .ok (.getfield 191, 3) := by decide +kernel
theorem dX11_tick_21 : decode cX11_tick 21 = .ok (.bipush 12, 2) := by decide +kernel
theorem dX11_tick_23 : decode cX11_tick 23 = .ok (.if_icmp .lt 18, 3) := by decide +kernel
theorem dX11_tick_26 : decode cX11_tick 26 = .ok (.aload_n 0, 1) := by decide +kernel
theorem dX11_tick_27 : decode cX11_tick 27 = .ok (.getfield 26, 3) := by decide +kernel
theorem dX11_tick_30 : decode cX11_tick 30 = .ok (.getfield 99, 3) := by decide +kernel
theorem dX11_tick_33 : decode cX11_tick 33 = .ok (.iconst 2, 1) := by decide +kernel
theorem dX11_tick_34 : decode cX11_tick 34 = .ok (.dup2, 1) := by decide +kernel
theorem dX11_tick_35 : decode cX11_tick 35 = .ok (.iaload, 1) := by decide +kernel
theorem dX11_tick_36 : decode cX11_tick 36 = .ok (.iconst 1, 1) := by decide +kernel
theorem dX11_tick_37 : decode cX11_tick 37 = .ok (.iadd, 1) := by decide +kernel
theorem dX11_tick_38 : decode cX11_tick 38 = .ok (.iastore, 1) := by decide +kernel
theorem dX11_tick_39 : decode cX11_tick 39 = .ok (.iconst (-1), 1) := by decide +kernel
theorem dX11_tick_40 : decode cX11_tick 40 = .ok (.ireturn, 1) := by decide +kernel
theorem dX11_tick_41 : decode cX11_tick 41 = .ok (.aload_n 3, 1) := by decide +kernel
theorem dX11_tick_42 : decode cX11_tick 42 = .ok (.iload_n 2, 1) := by decide +kernel
theorem dX11_tick_43 : decode cX11_tick 43 = .ok (.invokevirtual 194, 3) := by decide +kernel
theorem dX11_tick_46 : decode cX11_tick 46 = .ok (.aload_n 3, 1) := by decide +kernel
theorem dX11_tick_47 : decode cX11_tick 47 = .ok (.getfield 191, 3) := by decide +kernel
theorem dX11_tick_50 : decode cX11_tick 50 = .ok (.ireturn, 1) := by decide +kernel
theorem dX11_told_0 : decode cX11_told 0 = .ok (.aload_n 0, 1) := by decide +kernel
theorem dX11_told_1 : decode cX11_told 1 = .ok (.iload_n 1, 1) := by decide +kernel
theorem dX11_told_2 : decode cX11_told 2 = .ok (.invokevirtual 187, 3) := by decide +kernel
theorem dX11_told_5 : decode cX11_told 5 = .ok (.astore_n 3, 1) := by decide +kernel
theorem dX11_told_6 : decode cX11_told 6 = .ok (.iload_n 2, 1) := by decide +kernel
theorem dX11_told_7 : decode cX11_told 7 = .ok (.tableswitch 58 0 4 #[33, 38, 43, 48, 53], 33) := by decide +kernel
theorem dX11_told_40 : decode cX11_told 40 = .ok (.aload_n 3, 1) := by decide +kernel
theorem dX11_told_41 : decode cX11_told 41 = .ok (.getfield 197, 3) := by decide +kernel
theorem dX11_told_44 : decode cX11_told 44 = .ok (.ireturn, 1) := by decide +kernel
theorem dX11_told_45 : decode cX11_told 45 = .ok (.aload_n 3, 1) := by decide +kernel
theorem dX11_told_46 : decode cX11_told 46 = .ok (.getfield 200, 3) := by decide +kernel
theorem dX11_told_49 : decode cX11_told 49 = .ok (.ireturn, 1) := by decide +kernel
theorem dX11_told_50 : decode cX11_told 50 = .ok (.aload_n 3, 1) := by decide +kernel
theorem dX11_told_51 : decode cX11_told 51 = .ok (.getfield 203, 3) := by decide +kernel
theorem dX11_told_54 : decode cX11_told 54 = .ok (.ireturn, 1) := by decide +kernel
theorem dX11_told_55 : decode cX11_told 55 = .ok (.aload_n 3, 1) := by decide +kernel
theorem dX11_told_56 : decode cX11_told 56 = .ok (.getfield 206, 3) := by decide +kernel
theorem dX11_told_59 : decode cX11_told 59 = .ok (.ireturn, 1) := by decide +kernel
theorem dX11_told_60 : decode cX11_told 60 = .ok (.aload_n 3, 1) := by decide +kernel
theorem dX11_told_61 : decode cX11_told 61 = .ok (.getfield 191, 3) := by decide +kernel
theorem dX11_told_64 : decode cX11_told 64 = .ok (.ireturn, 1) := by decide +kernel
theorem dX11_told_65 : decode cX11_told 65 = .ok (.aload_n 3, 1) := by decide +kernel
theorem dX11_told_66 : decode cX11_told 66 = .ok (.iload_n 2, 1) := by decide +kernel
theorem dX11_told_67 : decode cX11_told 67 = .ok (.bipush 10, 2) := by decide +kernel
theorem dX11_told_69 : decode cX11_told 69 = .ok (.if_icmp .ge 7, 3) := by decide +kernel
theorem dX11_told_72 : decode cX11_told 72 = .ok (.iconst (-1), 1) := by decide +kernel
theorem dX11_told_73 : decode cX11_told 73 = .ok (.goto 7, 3) := by decide +kernel
theorem dX11_told_76 : decode cX11_told 76 = .ok (.iload_n 2, 1) := by decide +kernel
theorem dX11_told_77 : decode cX11_told 77 = .ok (.bipush 10, 2) := by decide +kernel
theorem dX11_told_79 : decode cX11_told 79 = .ok (.isub, 1) := by decide +kernel
theorem dX11_told_80 : decode cX11_told 80 = .ok (.invokestatic 209, 3) := by decide +kernel
theorem dX11_told_83 : decode cX11_told 83 = .ok (.ireturn, 1) := by decide +kernel
theorem dX11_fits_0 : decode cX11_fits 0 = .ok (.aload_n 0, 1) := by decide +kernel
theorem dX11_fits_1 : decode cX11_fits 1 = .ok (.iload_n 1, 1) := by decide +kernel
theorem dX11_fits_2 : decode cX11_fits 2 = .ok (.invokevirtual 84, 3) := by decide +kernel
theorem dX11_fits_5 : decode cX11_fits 5 = .ok (.astore_n 3, 1) := by decide +kernel
theorem dX11_fits_6 : decode cX11_fits 6 = .ok (.aload_n 0, 1) := by decide +kernel
theorem dX11_fits_7 : decode cX11_fits 7 = .ok (.iload_n 2, 1) := by decide +kernel
theorem dX11_fits_8 : decode cX11_fits 8 = .ok (.invokevirtual 187, 3) := by decide +kernel
theorem dX11_fits_11 : decode cX11_fits 11 = .ok (.astore 4, 2) := by decide +kernel
theorem dX11_fits_13 : decode cX11_fits 13 = .ok (.aload 4, 2) := by decide +kernel
theorem dX11_fits_15 : decode cX11_fits 15 = .ok (.invokevirtual 213, 3) := by decide +kernel
theorem dX11_fits_18 : decode cX11_fits 18 = .ok (.ifCond .eq 27, 3) := by decide +kernel
theorem dX11_fits_21 : decode cX11_fits 21 = .ok (.aload_n 0, 1) := by decide +kernel
theorem dX11_fits_22 : decode cX11_fits 22 = .ok (.aload_n 3, 1) := by decide +kernel
theorem dX11_fits_23 : decode cX11_fits 23 = .ok (.aload 4, 2) := by decide +kernel
theorem dX11_fits_25 : decode cX11_fits 25 = .ok (.aload 4, 2) := by decide +kernel
theorem dX11_fits_27 : decode cX11_fits 27 = .ok (.getfield 197, 3) := by decide +kernel
theorem dX11_fits_30 : decode cX11_fits 30 = .ok (.aload 4, 2) := by decide +kernel
theorem dX11_fits_32 : decode cX11_fits 32 = .ok (.getfield 200, 3) := by decide +kernel
theorem dX11_fits_35 : decode cX11_fits 35 = .ok (.invokevirtual 217, 3) := by decide +kernel
theorem dX11_fits_38 : decode cX11_fits 38 = .ok (.ifCond .eq 7, 3) := by decide +kernel
theorem dX11_fits_41 : decode cX11_fits 41 = .ok (.iconst 1, 1) := by decide +kernel
theorem dX11_fits_42 : decode cX11_fits 42 = .ok (.goto 4, 3) := by decide +kernel
theorem dX11_fits_45 : decode cX11_fits 45 = .ok (.iconst 0, 1) := by decide +kernel
theorem dX11_fits_46 : decode cX11_fits 46 = .ok (.ireturn, 1) := by decide +kernel
theorem dX11_where_0 : decode cX11_where 0 = .ok (.aload_n 0, 1) := by decide +kernel
theorem dX11_where_1 : decode cX11_where 1 = .ok (.iload_n 1, 1) := by decide +kernel
theorem dX11_where_2 : decode cX11_where 2 = .ok (.invokevirtual 84, 3) := by decide +kernel
theorem dX11_where_5 : decode cX11_where 5 = .ok (.astore 4, 2) := by decide +kernel
theorem dX11_where_7 : decode cX11_where 7 = .ok (.aload_n 0, 1) := by decide +kernel
theorem dX11_where_8 : decode cX11_where 8 = .ok (.iload_n 2, 1) := by decide +kernel
theorem dX11_where_9 : decode cX11_where 9 = .ok (.invokevirtual 187, 3) := by decide +kernel
theorem dX11_where_12 : decode cX11_where 12 = .ok (.astore 5, 2) := by decide +kernel
theorem dX11_where_14 : decode cX11_where 14 = .ok (.iconst 0, 1) := by decide +kernel
theorem dX11_where_15 : decode cX11_where 15 = .ok (.istore 6, 2) := by decide +kernel
theorem dX11_where_17 : decode cX11_where 17 = .ok (.iconst 0, 1) := by decide +kernel
theorem dX11_where_18 : decode cX11_where 18 = .ok (.istore 7, 2) := by decide +kernel
theorem dX11_where_20 : decode cX11_where 20 = .ok (.iload 7, 2) := by decide +kernel
theorem dX11_where_22 : decode cX11_where 22 = .ok (.sipush 1681, 3) := by decide +kernel
theorem dX11_where_25 : decode cX11_where 25 = .ok (.if_icmp .ge 42, 3) := by decide +kernel
theorem dX11_where_28 : decode cX11_where 28 = .ok (.aload_n 0, 1) := by decide +kernel
theorem dX11_where_29 : decode cX11_where 29 = .ok (.aload 4, 2) := by decide +kernel
theorem dX11_where_31 : decode cX11_where 31 = .ok (.aload 5, 2) := by decide +kernel
theorem dX11_where_33 : decode cX11_where 33 = .ok (.iload 7, 2) := by decide +kernel
theorem dX11_where_35 : decode cX11_where 35 = .ok (.bipush 41, 2) := by decide +kernel
theorem dX11_where_37 : decode cX11_where 37 = .ok (.irem, 1) := by decide +kernel
theorem dX11_where_38 : decode cX11_where 38 = .ok (.iload 7, 2) := by decide +kernel
theorem dX11_where_40 : decode cX11_where 40 = .ok (.bipush 41, 2) := by decide +kernel
theorem dX11_where_42 : decode cX11_where 42 = .ok (.idiv, 1) := by decide +kernel
theorem dX11_where_43 : decode cX11_where 43 = .ok (.invokevirtual 217, 3) := by decide +kernel
theorem dX11_where_46 : decode cX11_where 46 = .ok (.ifCond .eq 15, 3) := by decide +kernel
theorem dX11_where_49 : decode cX11_where 49 = .ok (.iload 6, 2) := by decide +kernel
theorem dX11_where_51 : decode cX11_where 51 = .ok (.iload_n 3, 1) := by decide +kernel
theorem dX11_where_52 : decode cX11_where 52 = .ok (.if_icmp .ne 6, 3) := by decide +kernel
theorem dX11_where_55 : decode cX11_where 55 = .ok (.iload 7, 2) := by decide +kernel
theorem dX11_where_57 : decode cX11_where 57 = .ok (.ireturn, 1) := by decide +kernel
theorem dX11_where_58 : decode cX11_where 58 = .ok (.iinc 6 1, 3) := by decide +kernel
theorem dX11_where_61 : decode cX11_where 61 = .ok (.iinc 7 1, 3) := by decide +kernel
theorem dX11_where_64 : decode cX11_where 64 = .ok (.goto (-44), 3) := by decide +kernel
theorem dX11_where_67 : decode cX11_where 67 = .ok (.iload_n 3, 1) := by decide +kernel
theorem dX11_where_68 : decode cX11_where 68 = .ok (.iconst (-1), 1) := by decide +kernel
theorem dX11_where_69 : decode cX11_where 69 = .ok (.if_icmp .eq 13, 3) := by decide +kernel
theorem dX11_where_72 : decode cX11_where 72 = .ok (.new 115, 3) := by decide +kernel
theorem dX11_where_75 : decode cX11_where 75 = .ok (.dup, 1) := by decide +kernel
theorem dX11_where_76 : decode cX11_where 76 = .ok (.ldc 221, 2) := by decide +kernel
theorem dX11_where_78 : decode cX11_where 78 = .ok (.invokespecial 119, 3) := by decide +kernel
theorem dX11_where_81 : decode cX11_where 81 = .ok (.athrow, 1) := by decide +kernel
theorem dX11_where_82 : decode cX11_where 82 = .ok (.iload 6, 2) := by decide +kernel
theorem dX11_where_84 : decode cX11_where 84 = .ok (.ireturn, 1) := by decide +kernel
theorem dX11_airs_0 : decode cX11_airs 0 = .ok (.aload_n 0, 1) := by decide +kernel
theorem dX11_airs_1 : decode cX11_airs 1 = .ok (.iload_n 1, 1) := by decide +kernel
theorem dX11_airs_2 : decode cX11_airs 2 = .ok (.invokevirtual 84, 3) := by decide +kernel
theorem dX11_airs_5 : decode cX11_airs 5 = .ok (.astore 4, 2) := by decide +kernel
theorem dX11_airs_7 : decode cX11_airs 7 = .ok (.aload_n 0, 1) := by decide +kernel
theorem dX11_airs_8 : decode cX11_airs 8 = .ok (.iload_n 2, 1) := by decide +kernel
theorem dX11_airs_9 : decode cX11_airs 9 = .ok (.invokevirtual 223, 3) := by decide +kernel
theorem dX11_airs_12 : decode cX11_airs 12 = .ok (.astore 5, 2) := by decide +kernel
theorem dX11_airs_14 : decode cX11_airs 14 = .ok (.iload_n 3, 1) := by decide +kernel
theorem dX11_airs_15 : decode cX11_airs 15 = .ok (.ifCond .lt 8, 3) := by decide +kernel
theorem dX11_airs_18 : decode cX11_airs 18 = .ok (.iload_n 3, 1) := by decide +kernel
theorem dX11_airs_19 : decode cX11_airs 19 = .ok (.iconst 2, 1) := by decide +kernel
theorem dX11_airs_20 : decode cX11_airs 20 = .ok (.if_icmp .le 13, 3) := by decide +kernel
theorem dX11_airs_23 : decode cX11_airs 23 = .ok (.new 115, 3) := by decide +kernel
theorem dX11_airs_26 : decode cX11_airs 26 = .ok (.dup, 1) := by decide +kernel
theorem dX11_airs_27 : decode cX11_airs 27 = .ok (.ldc 226, 2) := by decide +kernel
theorem dX11_airs_29 : decode cX11_airs 29 = .ok (.invokespecial 119, 3) := by decide +kernel
theorem dX11_airs_32 : decode cX11_airs 32 = .ok (.athrow, 1) := by decide +kernel
theorem dX11_airs_33 : decode cX11_airs 33 = .ok (.aload_n 0, 1) := by decide +kernel
theorem dX11_airs_34 : decode cX11_airs 34 = .ok (.getfield 40, 3) := by decide +kernel
theorem dX11_airs_37 : decode cX11_airs 37 = .ok (.aload 4, 2) := by decide +kernel
theorem dX11_airs_39 : decode cX11_airs 39 = .ok (.aload 5, 2) := by decide +kernel
theorem dX11_airs_41 : decode cX11_airs 41 = .ok (.getfield 197, 3) := by decide +kernel
theorem dX11_airs_44 : decode cX11_airs 44 = .ok (.aload 5, 2) := by decide +kernel
theorem dX11_airs_46 : decode cX11_airs 46 = .ok (.getfield 200, 3) := by decide +kernel
theorem dX11_airs_49 : decode cX11_airs 49 = .ok (.aload 5, 2) := by decide +kernel
theorem dX11_airs_51 : decode cX11_airs 51 = .ok (.getfield 203, 3) := by decide +kernel
theorem dX11_airs_54 : decode cX11_airs 54 = .ok (.aload 5, 2) := by decide +kernel
theorem dX11_airs_56 : decode cX11_airs 56 = .ok (.getfield 206, 3) := by decide +kernel
theorem dX11_airs_59 : decode cX11_airs 59 = .ok (.invokevirtual 141, 3) := by decide +kernel
theorem dX11_airs_62 : decode cX11_airs 62 = .ok (.aload_n 0, 1) := by decide +kernel
theorem dX11_airs_63 : decode cX11_airs 63 = .ok (.getfield 51, 3) := by decide +kernel
theorem dX11_airs_66 : decode cX11_airs 66 = .ok (.aload_n 0, 1) := by decide +kernel
theorem dX11_airs_67 : decode cX11_airs 67 = .ok (.getfield 40, 3) := by decide +kernel
theorem dX11_airs_70 : decode cX11_airs 70 = .ok (.aload 4, 2) := by decide +kernel
theorem dX11_airs_72 : decode cX11_airs 72 = .ok (.iconst 0, 1) := by decide +kernel
theorem dX11_airs_73 : decode cX11_airs 73 = .ok (.invokevirtual 145, 3) := by decide +kernel
theorem dX11_airs_76 : decode cX11_airs 76 = .ok (.aload_n 0, 1) := by decide +kernel
theorem dX11_airs_77 : decode cX11_airs 77 = .ok (.getfield 51, 3) := by decide +kernel
theorem dX11_airs_80 : decode cX11_airs 80 = .ok (.aload 4, 2) := by decide +kernel
theorem dX11_airs_82 : decode cX11_airs 82 = .ok (.getfield 129, 3) := by decide +kernel
theorem dX11_airs_85 : decode cX11_airs 85 = .ok (.invokevirtual 149, 3) := by decide +kernel
theorem dX11_airs_88 : decode cX11_airs 88 = .ok (.istore 6, 2) := by decide +kernel
theorem dX11_airs_90 : decode cX11_airs 90 = .ok (.iconst 0, 1) := by decide +kernel
theorem dX11_airs_91 : decode cX11_airs 91 = .ok (.istore 7, 2) := by decide +kernel
theorem dX11_airs_93 : decode cX11_airs 93 = .ok (.iconst (-1), 1) := by decide +kernel
theorem dX11_airs_94 : decode cX11_airs 94 = .ok (.istore 8, 2) := by decide +kernel
theorem dX11_airs_96 : decode cX11_airs 96 = .ok (.iconst (-1), 1) := by decide +kernel
theorem dX11_airs_97 : decode cX11_airs 97 = .ok (.istore 9, 2) := by decide +kernel
theorem dX11_airs_99 : decode cX11_airs 99 = .ok (.bipush 50, 2) := by decide +kernel
theorem dX11_airs_101 : decode cX11_airs 101 = .ok (.istore 10, 2) := by decide +kernel
theorem dX11_airs_103 : decode cX11_airs 103 = .ok (.iload 10, 2) := by decide +kernel
theorem dX11_airs_105 : decode cX11_airs 105 = .ok (.sipush 150, 3) := by decide +kernel
theorem dX11_airs_108 : decode cX11_airs 108 = .ok (.if_icmp .gt 58, 3) := by decide +kernel
theorem dX11_airs_111 : decode cX11_airs 111 = .ok (.iload 6, 2) := by decide +kernel
theorem dX11_airs_113 : decode cX11_airs 113 = .ok (.aload 5, 2) := by decide +kernel
theorem dX11_airs_115 : decode cX11_airs 115 = .ok (.getfield 191, 3) := by decide +kernel
theorem dX11_airs_118 : decode cX11_airs 118 = .ok (.if_icmp .ne 48, 3) := by decide +kernel
theorem dX11_airs_121 : decode cX11_airs 121 = .ok (.aload_n 0, 1) := by decide +kernel
theorem dX11_airs_122 : decode cX11_airs 122 = .ok (.getfield 51, 3) := by decide +kernel
theorem dX11_airs_125 : decode cX11_airs 125 = .ok (.aload 5, 2) := by decide +kernel
theorem dX11_airs_127 : decode cX11_airs 127 = .ok (.getfield 228, 3) := by decide +kernel
theorem dX11_airs_130 : decode cX11_airs 130 = .ok (.iload 10, 2) := by decide +kernel
theorem dX11_airs_132 : decode cX11_airs 132 = .ok (.invokevirtual 231, 3) := by decide +kernel
theorem dX11_airs_135 : decode cX11_airs 135 = .ok (.ifCond .eq 25, 3) := by decide +kernel
theorem dX11_airs_138 : decode cX11_airs 138 = .ok (.iinc 7 1, 3) := by decide +kernel
theorem dX11_airs_141 : decode cX11_airs 141 = .ok (.iload 8, 2) := by decide +kernel
theorem dX11_airs_143 : decode cX11_airs 143 = .ok (.iconst (-1), 1) := by decide +kernel
theorem dX11_airs_144 : decode cX11_airs 144 = .ok (.if_icmp .ne 8, 3) := by decide +kernel
theorem dX11_airs_147 : decode cX11_airs 147 = .ok (.iload 10, 2) := by decide +kernel
theorem dX11_airs_149 : decode cX11_airs 149 = .ok (.goto 5, 3) := by decide +kernel
theorem dX11_airs_152 : decode cX11_airs 152 = .ok (.iload 8, 2) := by decide +kernel
theorem dX11_airs_154 : decode cX11_airs 154 = .ok (.istore 8, 2) := by decide +kernel
theorem dX11_airs_156 : decode cX11_airs 156 = .ok (.iload 10, 2) := by decide +kernel
theorem dX11_airs_158 : decode cX11_airs 158 = .ok (.istore 9, 2) := by decide +kernel
theorem dX11_airs_160 : decode cX11_airs 160 = .ok (.iinc 10 1, 3) := by decide +kernel
theorem dX11_airs_163 : decode cX11_airs 163 = .ok (.goto (-60), 3) := by decide +kernel
theorem dX11_airs_166 : decode cX11_airs 166 = .ok (.iload_n 3, 1) := by decide +kernel
theorem dX11_airs_167 : decode cX11_airs 167 = .ok (.ifCond .ne 8, 3) := by decide +kernel
theorem dX11_airs_170 : decode cX11_airs 170 = .ok (.iload 7, 2) := by decide +kernel
theorem dX11_airs_172 : decode cX11_airs 172 = .ok (.goto 15, 3) := by decide +kernel
theorem dX11_airs_175 : decode cX11_airs 175 = .ok (.iload_n 3, 1) := by decide +kernel
theorem dX11_airs_176 : decode cX11_airs 176 = .ok (.iconst 1, 1) := by decide +kernel
theorem dX11_airs_177 : decode cX11_airs 177 = .ok (.if_icmp .ne 8, 3) := by decide +kernel
theorem dX11_airs_180 : decode cX11_airs 180 = .ok (.iload 8, 2) := by decide +kernel
theorem dX11_airs_182 : decode cX11_airs 182 = .ok (.goto 5, 3) := by decide +kernel
theorem dX11_airs_185 : decode cX11_airs 185 = .ok (.iload 9, 2) := by decide +kernel
theorem dX11_airs_187 : decode cX11_airs 187 = .ok (.ireturn, 1) := by decide +kernel
theorem dX11_whose_0 : decode cX11_whose 0 = .ok (.aload_n 0, 1) := by decide +kernel
theorem dX11_whose_1 : decode cX11_whose 1 = .ok (.iload_n 1, 1) := by decide +kernel
theorem dX11_whose_2 : decode cX11_whose 2 = .ok (.invokevirtual 84, 3) := by decide +kernel
theorem dX11_whose_5 : decode cX11_whose 5 = .ok (.astore 5, 2) := by decide +kernel
theorem dX11_whose_7 : decode cX11_whose 7 = .ok (.aload_n 0, 1) := by decide +kernel
theorem dX11_whose_8 : decode cX11_whose 8 = .ok (.iload_n 2, 1) := by decide +kernel
theorem dX11_whose_9 : decode cX11_whose 9 = .ok (.invokevirtual 223, 3) := by decide +kernel
theorem dX11_whose_12 : decode cX11_whose 12 = .ok (.astore 6, 2) := by decide +kernel
theorem dX11_whose_14 : decode cX11_whose 14 = .ok (.aload 6, 2) := by decide +kernel
theorem dX11_whose_16 : decode cX11_whose 16 = .ok (.iload_n 3, 1) := by decide +kernel
theorem dX11_whose_17 : decode cX11_whose 17 = .ok (.invokestatic 209, 3) := by decide +kernel
theorem dX11_whose_20 : decode cX11_whose 20 = .ok (.istore 7, 2) := by decide +kernel
theorem dX11_whose_22 : decode cX11_whose 22 = .ok (.iload 4, 2) := by decide +kernel
theorem dX11_whose_24 : decode cX11_whose 24 = .ok (.ifCond .eq 19, 3) := by decide +kernel
theorem dX11_whose_27 : decode cX11_whose 27 = .ok (.iload 4, 2) := by decide +kernel
theorem dX11_whose_29 : decode cX11_whose 29 = .ok (.iconst 1, 1) := by decide +kernel
theorem dX11_whose_30 : decode cX11_whose 30 = .ok (.if_icmp .eq 13, 3) := by decide +kernel
theorem dX11_whose_33 : decode cX11_whose 33 = .ok (.new 115, 3) := by decide +kernel
theorem dX11_whose_36 : decode cX11_whose 36 = .ok (.dup, 1) := by decide +kernel
theorem dX11_whose_37 : decode cX11_whose 37 = .ok (.ldc 235, 2) := by decide +kernel
theorem dX11_whose_39 : decode cX11_whose 39 = .ok (.invokespecial 119, 3) := by decide +kernel
theorem dX11_whose_42 : decode cX11_whose 42 = .ok (.athrow, 1) := by decide +kernel
theorem dX11_whose_43 : decode cX11_whose 43 = .ok (.aload_n 0, 1) := by decide +kernel
theorem dX11_whose_44 : decode cX11_whose 44 = .ok (.getfield 40, 3) := by decide +kernel
theorem dX11_whose_47 : decode cX11_whose 47 = .ok (.aload 5, 2) := by decide +kernel
theorem dX11_whose_49 : decode cX11_whose 49 = .ok (.aload 6, 2) := by decide +kernel
theorem dX11_whose_51 : decode cX11_whose 51 = .ok (.getfield 197, 3) := by decide +kernel
theorem dX11_whose_54 : decode cX11_whose 54 = .ok (.aload 6, 2) := by decide +kernel
theorem dX11_whose_56 : decode cX11_whose 56 = .ok (.getfield 200, 3) := by decide +kernel
theorem dX11_whose_59 : decode cX11_whose 59 = .ok (.aload 6, 2) := by decide +kernel
theorem dX11_whose_61 : decode cX11_whose 61 = .ok (.getfield 203, 3) := by decide +kernel
theorem dX11_whose_64 : decode cX11_whose 64 = .ok (.aload 6, 2) := by decide +kernel
theorem dX11_whose_66 : decode cX11_whose 66 = .ok (.getfield 206, 3) := by decide +kernel
theorem dX11_whose_69 : decode cX11_whose 69 = .ok (.invokevirtual 141, 3) := by decide +kernel
theorem dX11_whose_72 : decode cX11_whose 72 = .ok (.aload_n 0, 1) := by decide +kernel
theorem dX11_whose_73 : decode cX11_whose 73 = .ok (.getfield 51, 3) := by decide +kernel
theorem dX11_whose_76 : decode cX11_whose 76 = .ok (.aload_n 0, 1) := by decide +kernel
theorem dX11_whose_77 : decode cX11_whose 77 = .ok (.getfield 40, 3) := by decide +kernel
theorem dX11_whose_80 : decode cX11_whose 80 = .ok (.aload 5, 2) := by decide +kernel
theorem dX11_whose_82 : decode cX11_whose 82 = .ok (.iconst 0, 1) := by decide +kernel
theorem dX11_whose_83 : decode cX11_whose 83 = .ok (.invokevirtual 145, 3) := by decide +kernel
theorem dX11_whose_86 : decode cX11_whose 86 = .ok (.iload 4, 2) := by decide +kernel
theorem dX11_whose_88 : decode cX11_whose 88 = .ok (.ifCond .ne 17, 3) := by decide +kernel
theorem dX11_whose_91 : decode cX11_whose 91 = .ok (.aload_n 0, 1) := by decide +kernel
theorem dX11_whose_92 : decode cX11_whose 92 = .ok (.getfield 51, 3) := by decide +kernel
theorem dX11_whose_95 : decode cX11_whose 95 = .ok (.iload 7, 2) := by decide +kernel
theorem dX11_whose_97 : decode cX11_whose 97 = .ok (.aload 5, 2) := by decide +kernel
theorem dX11_whose_99 : decode cX11_whose 99 = .ok (.invokevirtual 237, 3) := by decide +kernel
theorem dX11_whose_102 : decode cX11_whose 102 = .ok (.goto 14, 3) := by decide +kernel
theorem dX11_whose_105 : decode cX11_whose 105 = .ok (.aload_n 0, 1) := by decide +kernel
theorem dX11_whose_106 : decode cX11_whose 106 = .ok (.getfield 51, 3) := by decide +kernel
theorem dX11_whose_109 : decode cX11_whose 109 = .ok (.iload 7, 2) := by decide +kernel
theorem dX11_whose_111 : decode cX11_whose 111 = .ok (.aload 5, 2) := by decide +kernel
theorem dX11_whose_113 : decode cX11_whose 113 = .ok (.invokevirtual 241, 3) := by decide +kernel
theorem dX11_whose_116 : decode cX11_whose 116 = .ok (.ireturn, 1) := by decide +kernel
theorem dX11_fitsAt_0 : decode cX11_fitsAt 0 = .ok (.aload_n 0, 1) := by decide +kernel
theorem dX11_fitsAt_1 : decode cX11_fitsAt 1 = .ok (.getfield 40, 3) := by decide +kernel
theorem dX11_fitsAt_4 : decode cX11_fitsAt 4 = .ok (.aload_n 1, 1) := by decide +kernel
theorem dX11_fitsAt_5 : decode cX11_fitsAt 5 = .ok (.iload_n 3, 1) := by decide +kernel
theorem dX11_fitsAt_6 : decode cX11_fitsAt 6 = .ok (.iload 4, 2) := by decide +kernel
theorem dX11_fitsAt_8 : decode cX11_fitsAt 8 = .ok (.aload_n 2, 1) := by decide +kernel
theorem dX11_fitsAt_9 : decode cX11_fitsAt 9 = .ok (.getfield 203, 3) := by decide +kernel
theorem dX11_fitsAt_12 : decode cX11_fitsAt 12 = .ok (.aload_n 2, 1) := by decide +kernel
theorem dX11_fitsAt_13 : decode cX11_fitsAt 13 = .ok (.getfield 206, 3) := by decide +kernel
theorem dX11_fitsAt_16 : decode cX11_fitsAt 16 = .ok (.invokevirtual 141, 3) := by decide +kernel
theorem dX11_fitsAt_19 : decode cX11_fitsAt 19 = .ok (.aload_n 0, 1) := by decide +kernel
theorem dX11_fitsAt_20 : decode cX11_fitsAt 20 = .ok (.getfield 51, 3) := by decide +kernel
theorem dX11_fitsAt_23 : decode cX11_fitsAt 23 = .ok (.aload_n 0, 1) := by decide +kernel
theorem dX11_fitsAt_24 : decode cX11_fitsAt 24 = .ok (.getfield 40, 3) := by decide +kernel
theorem dX11_fitsAt_27 : decode cX11_fitsAt 27 = .ok (.aload_n 1, 1) := by decide +kernel
theorem dX11_fitsAt_28 : decode cX11_fitsAt 28 = .ok (.iconst 0, 1) := by decide +kernel
theorem dX11_fitsAt_29 : decode cX11_fitsAt 29 = .ok (.invokevirtual 145, 3) := by decide +kernel
theorem dX11_fitsAt_32 : decode cX11_fitsAt 32 = .ok (.aload_n 0, 1) := by decide +kernel
theorem dX11_fitsAt_33 : decode cX11_fitsAt 33 = .ok (.getfield 51, 3) := by decide +kernel
theorem dX11_fitsAt_36 : decode cX11_fitsAt 36 = .ok (.aload_n 2, 1) := by decide +kernel
theorem dX11_fitsAt_37 : decode cX11_fitsAt 37 = .ok (.aload_n 1, 1) := by decide +kernel
theorem dX11_fitsAt_38 : decode cX11_fitsAt 38 = .ok (.invokevirtual 244, 3) := by decide +kernel
theorem dX11_fitsAt_41 : decode cX11_fitsAt 41 = .ok (.ireturn, 1) := by decide +kernel
theorem dX11_writtenTick_0 : decode cX11_writtenTick 0 = .ok (.iload_n 1, 1) := by decide +kernel
theorem dX11_writtenTick_1 : decode cX11_writtenTick 1 = .ok (.ifCond .lt 11, 3) := by decide +kernel
theorem dX11_writtenTick_4 : decode cX11_writtenTick 4 = .ok (.iload_n 1, 1) := by decide +kernel
theorem dX11_writtenTick_5 : decode cX11_writtenTick 5 = .ok (.aload_n 0, 1) := by decide +kernel
theorem dX11_writtenTick_6 : decode cX11_writtenTick 6 = .ok (.getfield 191, 3) := by decide +kernel
theorem dX11_writtenTick_9 : decode cX11_writtenTick 9 = .ok (.if_icmp .lt 13, 3) := by decide +kernel
theorem dX11_writtenTick_12 : decode cX11_writtenTick 12 = .ok (.new 115, 3) := by decide +kernel
theorem dX11_writtenTick_15 : decode cX11_writtenTick 15 = .ok (.dup, 1) := by decide +kernel
theorem dX11_writtenTick_16 : decode cX11_writtenTick 16 = .ok (.ldc 248, 2) := by decide +kernel
theorem dX11_writtenTick_18 : decode cX11_writtenTick 18 = .ok (.invokespecial 119, 3) := by decide +kernel
theorem dX11_writtenTick_21 : decode cX11_writtenTick 21 = .ok (.athrow, 1) := by decide +kernel
theorem dX11_writtenTick_22 : decode cX11_writtenTick 22 = .ok (.aload_n 0, 1) := by decide +kernel
theorem dX11_writtenTick_23 : decode cX11_writtenTick 23 = .ok (.getfield 250, 3) := by decide +kernel
theorem dX11_writtenTick_26 : decode cX11_writtenTick 26 = .ok (.iload_n 1, 1) := by decide +kernel
theorem dX11_writtenTick_27 : decode cX11_writtenTick 27 = .ok (.iaload, 1) := by decide +kernel
theorem dX11_writtenTick_28 : decode cX11_writtenTick 28 = .ok (.ireturn, 1) := by decide +kernel
