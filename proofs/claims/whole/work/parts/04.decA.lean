theorem dX0_init_0 : decode cX0_init 0 = .ok (.aload_n 0, 1) := by decide +kernel
theorem dX0_init_1 : decode cX0_init 1 = .ok (.invokespecial 3, 3) := by decide +kernel
theorem dX0_init_4 : decode cX0_init 4 = .ok (.aload_n 0, 1) := by decide +kernel
theorem dX0_init_5 : decode cX0_init 5 = .ok (.iconst 4, 1) := by decide +kernel
theorem dX0_init_6 : decode cX0_init 6 = .ok (.newarray .int, 2) := by decide +kernel
theorem dX0_init_8 : decode cX0_init 8 = .ok (.putfield 9, 3) := by decide +kernel
theorem dX0_init_11 : decode cX0_init 11 = .ok (.aload_n 0, 1) := by decide +kernel
theorem dX0_init_12 : decode cX0_init 12 = .ok (.bipush 8, 2) := by decide +kernel
theorem dX0_init_14 : decode cX0_init 14 = .ok (.newarray .int, 2) := by decide +kernel
theorem dX0_init_16 : decode cX0_init 16 = .ok (.putfield 15, 3) := by decide +kernel
theorem dX0_init_19 : decode cX0_init 19 = .ok (.aload_n 0, 1) := by decide +kernel
theorem dX0_init_20 : decode cX0_init 20 = .ok (.bipush 64, 2) := by decide +kernel
theorem dX0_init_22 : decode cX0_init 22 = .ok (.newarray .int, 2) := by decide +kernel
theorem dX0_init_24 : decode cX0_init 24 = .ok (.putfield 18, 3) := by decide +kernel
theorem dX0_init_27 : decode cX0_init 27 = .ok (.aload_n 0, 1) := by decide +kernel
theorem dX0_init_28 : decode cX0_init 28 = .ok (.bipush 64, 2) := by decide +kernel
theorem dX0_init_30 : decode cX0_init 30 = .ok (.newarray .int, 2) := by decide +kernel
theorem dX0_init_32 : decode cX0_init 32 = .ok (.putfield 21, 3) := by decide +kernel
theorem dX0_init_35 : decode cX0_init 35 = .ok (.aload_n 0, 1) := by decide +kernel
theorem dX0_init_36 : decode cX0_init 36 = .ok (.bipush 64, 2) := by decide +kernel
theorem dX0_init_38 : decode cX0_init 38 = .ok (.newarray .int, 2) := by decide +kernel
theorem dX0_init_40 : decode cX0_init 40 = .ok (.putfield 24, 3) := by decide +kernel
theorem dX0_init_43 : decode cX0_init 43 = .ok (.aload_n 0, 1) := by decide +kernel
theorem dX0_init_44 : decode cX0_init 44 = .ok (.iconst (-1), 1) := by decide +kernel
theorem dX0_init_45 : decode cX0_init 45 = .ok (.putfield 27, 3) := by decide +kernel
theorem dX0_init_48 : decode cX0_init 48 = .ok (.aload_n 0, 1) := by decide +kernel
theorem dX0_init_49 : decode cX0_init 49 = .ok (.iconst (-1), 1) := by decide +kernel
theorem dX0_init_50 : decode cX0_init 50 = .ok (.putfield 31, 3) := by decide +kernel
theorem dX0_init_53 : decode cX0_init 53 = .ok (.return_, 1) := by decide +kernel
theorem dX0_begin_0 : decode cX0_begin 0 = .ok (.aload_n 0, 1) := by decide +kernel
theorem dX0_begin_1 : decode cX0_begin 1 = .ok (.iload_n 1, 1) := by decide +kernel
theorem dX0_begin_2 : decode cX0_begin 2 = .ok (.putfield 27, 3) := by decide +kernel
theorem dX0_begin_5 : decode cX0_begin 5 = .ok (.aload_n 0, 1) := by decide +kernel
theorem dX0_begin_6 : decode cX0_begin 6 = .ok (.iconst (-1), 1) := by decide +kernel
theorem dX0_begin_7 : decode cX0_begin 7 = .ok (.putfield 31, 3) := by decide +kernel
theorem dX0_begin_10 : decode cX0_begin 10 = .ok (.aload_n 0, 1) := by decide +kernel
theorem dX0_begin_11 : decode cX0_begin 11 = .ok (.iconst 0, 1) := by decide +kernel
theorem dX0_begin_12 : decode cX0_begin 12 = .ok (.putfield 34, 3) := by decide +kernel
theorem dX0_begin_15 : decode cX0_begin 15 = .ok (.aload_n 0, 1) := by decide +kernel
theorem dX0_begin_16 : decode cX0_begin 16 = .ok (.getfield 9, 3) := by decide +kernel
theorem dX0_begin_19 : decode cX0_begin 19 = .ok (.iconst (-1), 1) := by decide +kernel
theorem dX0_begin_20 : decode cX0_begin 20 = .ok (.invokestatic 37, 3) := by decide +kernel
theorem dX0_begin_23 : decode cX0_begin 23 = .ok (.aload_n 0, 1) := by decide +kernel
theorem dX0_begin_24 : decode cX0_begin 24 = .ok (.getfield 15, 3) := by decide +kernel
theorem dX0_begin_27 : decode cX0_begin 27 = .ok (.iconst (-1), 1) := by decide +kernel
theorem dX0_begin_28 : decode cX0_begin 28 = .ok (.invokestatic 37, 3) := by decide +kernel
theorem dX0_begin_31 : decode cX0_begin 31 = .ok (.aload_n 0, 1) := by decide +kernel
theorem dX0_begin_32 : decode cX0_begin 32 = .ok (.getfield 18, 3) := by decide +kernel
theorem dX0_begin_35 : decode cX0_begin 35 = .ok (.iconst 0, 1) := by decide +kernel
theorem dX0_begin_36 : decode cX0_begin 36 = .ok (.invokestatic 37, 3) := by decide +kernel
theorem dX0_begin_39 : decode cX0_begin 39 = .ok (.aload_n 0, 1) := by decide +kernel
theorem dX0_begin_40 : decode cX0_begin 40 = .ok (.getfield 21, 3) := by decide +kernel
theorem dX0_begin_43 : decode cX0_begin 43 = .ok (.iconst (-1), 1) := by decide +kernel
theorem dX0_begin_44 : decode cX0_begin 44 = .ok (.invokestatic 37, 3) := by decide +kernel
theorem dX0_begin_47 : decode cX0_begin 47 = .ok (.aload_n 0, 1) := by decide +kernel
theorem dX0_begin_48 : decode cX0_begin 48 = .ok (.getfield 24, 3) := by decide +kernel
theorem dX0_begin_51 : decode cX0_begin 51 = .ok (.iconst (-1), 1) := by decide +kernel
theorem dX0_begin_52 : decode cX0_begin 52 = .ok (.invokestatic 37, 3) := by decide +kernel
theorem dX0_begin_55 : decode cX0_begin 55 = .ok (.return_, 1) := by decide +kernel
theorem dX1_init_0 : decode cX1_init 0 = .ok (.aload_n 0, 1) := by decide +kernel
theorem dX1_init_1 : decode cX1_init 1 = .ok (.invokespecial 1, 3) := by decide +kernel
theorem dX1_init_4 : decode cX1_init 4 = .ok (.aload_n 0, 1) := by decide +kernel
theorem dX1_init_5 : decode cX1_init 5 = .ok (.bipush 20, 2) := by decide +kernel
theorem dX1_init_7 : decode cX1_init 7 = .ok (.anewarray 9, 3) := by decide +kernel
theorem dX1_init_10 : decode cX1_init 10 = .ok (.putfield 11, 3) := by decide +kernel
theorem dX1_init_13 : decode cX1_init 13 = .ok (.iconst 0, 1) := by decide +kernel
theorem dX1_init_14 : decode cX1_init 14 = .ok (.istore_n 1, 1) := by decide +kernel
theorem dX1_init_15 : decode cX1_init 15 = .ok (.iload_n 1, 1) := by decide +kernel
theorem dX1_init_16 : decode cX1_init 16 = .ok (.bipush 20, 2) := by decide +kernel
theorem dX1_init_18 : decode cX1_init 18 = .ok (.if_icmp .ge 22, 3) := by decide +kernel
theorem dX1_init_21 : decode cX1_init 21 = .ok (.aload_n 0, 1) := by decide +kernel
theorem dX1_init_22 : decode cX1_init 22 = .ok (.getfield 11, 3) := by decide +kernel
theorem dX1_init_25 : decode cX1_init 25 = .ok (.iload_n 1, 1) := by decide +kernel
theorem dX1_init_26 : decode cX1_init 26 = .ok (.new 9, 3) := by decide +kernel
theorem dX1_init_29 : decode cX1_init 29 = .ok (.dup, 1) := by decide +kernel
theorem dX1_init_30 : decode cX1_init 30 = .ok (.invokespecial 15, 3) := by decide +kernel
theorem dX1_init_33 : decode cX1_init 33 = .ok (.aastore, 1) := by decide +kernel
theorem dX1_init_34 : decode cX1_init 34 = .ok (.iinc 1 1, 3) := by decide +kernel
theorem dX1_init_37 : decode cX1_init 37 = .ok (.goto (-22), 3) := by decide +kernel
theorem dX1_init_40 : decode cX1_init 40 = .ok (.aload_n 0, 1) := by decide +kernel
theorem dX1_init_41 : decode cX1_init 41 = .ok (.sipush 256, 3) := by decide +kernel
theorem dX1_init_44 : decode cX1_init 44 = .ok (.anewarray 9, 3) := by decide +kernel
theorem dX1_init_47 : decode cX1_init 47 = .ok (.putfield 16, 3) := by decide +kernel
theorem dX1_init_50 : decode cX1_init 50 = .ok (.aload_n 0, 1) := by decide +kernel
theorem dX1_init_51 : decode cX1_init 51 = .ok (.sipush 256, 3) := by decide +kernel
theorem dX1_init_54 : decode cX1_init 54 = .ok (.newarray .boolean, 2) := by decide +kernel
theorem dX1_init_56 : decode cX1_init 56 = .ok (.putfield 19, 3) := by decide +kernel
theorem dX1_init_59 : decode cX1_init 59 = .ok (.aload_n 0, 1) := by decide +kernel
theorem dX1_init_60 : decode cX1_init 60 = .ok (.bipush 20, 2) := by decide +kernel
theorem dX1_init_62 : decode cX1_init 62 = .ok (.newarray .int, 2) := by decide +kernel
theorem dX1_init_64 : decode cX1_init 64 = .ok (.putfield 23, 3) := by decide +kernel
theorem dX1_init_67 : decode cX1_init 67 = .ok (.aload_n 0, 1) := by decide +kernel
theorem dX1_init_68 : decode cX1_init 68 = .ok (.bipush 20, 2) := by decide +kernel
theorem dX1_init_70 : decode cX1_init 70 = .ok (.newarray .int, 2) := by decide +kernel
theorem dX1_init_72 : decode cX1_init 72 = .ok (.putfield 27, 3) := by decide +kernel
theorem dX1_init_75 : decode cX1_init 75 = .ok (.aload_n 0, 1) := by decide +kernel
theorem dX1_init_76 : decode cX1_init 76 = .ok (.iconst 2, 1) := by decide +kernel
theorem dX1_init_77 : decode cX1_init 77 = .ok (.putfield 30, 3) := by decide +kernel
theorem dX1_init_80 : decode cX1_init 80 = .ok (.return_, 1) := by decide +kernel
theorem dX1_depth_0 : decode cX1_depth 0 = .ok (.iload_n 1, 1) := by decide +kernel
theorem dX1_depth_1 : decode cX1_depth 1 = .ok (.iconst 2, 1) := by decide +kernel
theorem dX1_depth_2 : decode cX1_depth 2 = .ok (.if_icmp .lt 8, 3) := by decide +kernel
theorem dX1_depth_5 : decode cX1_depth 5 = .ok (.iload_n 1, 1) := by decide +kernel
theorem dX1_depth_6 : decode cX1_depth 6 = .ok (.iconst 4, 1) := by decide +kernel
theorem dX1_depth_7 : decode cX1_depth 7 = .ok (.if_icmp .le 13, 3) := by decide +kernel
theorem dX1_depth_10 : decode cX1_depth 10 = .ok (.new 34, 3) := by decide +kernel
theorem dX1_depth_13 : decode cX1_depth 13 = .ok (.dup, 1) := by decide +kernel
theorem dX1_depth_14 : decode cX1_depth 14 = .ok (.ldc 36, 2) := by decide +kernel
theorem dX1_depth_16 : decode cX1_depth 16 = .ok (.invokespecial 38, 3) := by decide +kernel
theorem dX1_depth_19 : decode cX1_depth 19 = .ok (.athrow, 1) := by decide +kernel
theorem dX1_depth_20 : decode cX1_depth 20 = .ok (.aload_n 0, 1) := by decide +kernel
theorem dX1_depth_21 : decode cX1_depth 21 = .ok (.getfield 41, 3) := by decide +kernel
theorem dX1_depth_24 : decode cX1_depth 24 = .ok (.ifCond .le 13, 3) := by decide +kernel
theorem dX1_depth_27 : decode cX1_depth 27 = .ok (.new 44, 3) := by decide +kernel
theorem dX1_depth_30 : decode cX1_depth 30 = .ok (.dup, 1) := by decide +kernel
theorem dX1_depth_31 : decode cX1_depth 31 = .ok (.ldc 46, 2) := by decide +kernel
theorem dX1_depth_33 : decode cX1_depth 33 = .ok (.invokespecial 48, 3) := by decide +kernel
theorem dX1_depth_36 : decode cX1_depth 36 = .ok (.athrow, 1) := by decide +kernel
theorem dX1_depth_37 : decode cX1_depth 37 = .ok (.aload_n 0, 1) := by decide +kernel
theorem dX1_depth_38 : decode cX1_depth 38 = .ok (.getfield 30, 3) := by decide +kernel
theorem dX1_depth_41 : decode cX1_depth 41 = .ok (.istore_n 2, 1) := by decide +kernel
theorem dX1_depth_42 : decode cX1_depth 42 = .ok (.aload_n 0, 1) := by decide +kernel
theorem dX1_depth_43 : decode cX1_depth 43 = .ok (.iload_n 1, 1) := by decide +kernel
theorem dX1_depth_44 : decode cX1_depth 44 = .ok (.putfield 30, 3) := by decide +kernel
theorem dX1_depth_47 : decode cX1_depth 47 = .ok (.iload_n 2, 1) := by decide +kernel
theorem dX1_depth_48 : decode cX1_depth 48 = .ok (.ireturn, 1) := by decide +kernel
theorem dX1_found_0 : decode cX1_found 0 = .ok (.iload_n 1, 1) := by decide +kernel
theorem dX1_found_1 : decode cX1_found 1 = .ok (.invokestatic 49, 3) := by decide +kernel
theorem dX1_found_4 : decode cX1_found 4 = .ok (.aload_n 0, 1) := by decide +kernel
theorem dX1_found_5 : decode cX1_found 5 = .ok (.getfield 53, 3) := by decide +kernel
theorem dX1_found_8 : decode cX1_found 8 = .ok (.ifCond .eq 13, 3) := by decide +kernel
theorem dX1_found_11 : decode cX1_found 11 = .ok (.new 44, 3) := by decide +kernel
theorem dX1_found_14 : decode cX1_found 14 = .ok (.dup, 1) := by decide +kernel
theorem dX1_found_15 : decode cX1_found 15 = .ok (.ldc 57, 2) := by decide +kernel
theorem dX1_found_17 : decode cX1_found 17 = .ok (.invokespecial 48, 3) := by decide +kernel
theorem dX1_found_20 : decode cX1_found 20 = .ok (.athrow, 1) := by decide +kernel
theorem dX1_found_21 : decode cX1_found 21 = .ok (.aload_n 0, 1) := by decide +kernel
theorem dX1_found_22 : decode cX1_found 22 = .ok (.iload_n 1, 1) := by decide +kernel
theorem dX1_found_23 : decode cX1_found 23 = .ok (.invokevirtual 59, 3) := by decide +kernel
theorem dX1_found_26 : decode cX1_found 26 = .ok (.aload_n 0, 1) := by decide +kernel
theorem dX1_found_27 : decode cX1_found 27 = .ok (.iload_n 1, 1) := by decide +kernel
theorem dX1_found_28 : decode cX1_found 28 = .ok (.invokevirtual 62, 3) := by decide +kernel
theorem dX1_found_31 : decode cX1_found 31 = .ok (.pop, 1) := by decide +kernel
theorem dX1_found_32 : decode cX1_found 32 = .ok (.aload_n 0, 1) := by decide +kernel
theorem dX1_found_33 : decode cX1_found 33 = .ok (.getfield 41, 3) := by decide +kernel
theorem dX1_found_36 : decode cX1_found 36 = .ok (.ireturn, 1) := by decide +kernel
theorem dX1_open_0 : decode cX1_open 0 = .ok (.aload_n 0, 1) := by decide +kernel
theorem dX1_open_1 : decode cX1_open 1 = .ok (.getfield 53, 3) := by decide +kernel
theorem dX1_open_4 : decode cX1_open 4 = .ok (.ifCond .eq 13, 3) := by decide +kernel
theorem dX1_open_7 : decode cX1_open 7 = .ok (.new 44, 3) := by decide +kernel
theorem dX1_open_10 : decode cX1_open 10 = .ok (.dup, 1) := by decide +kernel
theorem dX1_open_11 : decode cX1_open 11 = .ok (.ldc 57, 2) := by decide +kernel
theorem dX1_open_13 : decode cX1_open 13 = .ok (.invokespecial 48, 3) := by decide +kernel
theorem dX1_open_16 : decode cX1_open 16 = .ok (.athrow, 1) := by decide +kernel
theorem dX1_open_17 : decode cX1_open 17 = .ok (.aload_n 0, 1) := by decide +kernel
theorem dX1_open_18 : decode cX1_open 18 = .ok (.getfield 41, 3) := by decide +kernel
theorem dX1_open_21 : decode cX1_open 21 = .ok (.aload_n 0, 1) := by decide +kernel
theorem dX1_open_22 : decode cX1_open 22 = .ok (.getfield 30, 3) := by decide +kernel
theorem dX1_open_25 : decode cX1_open 25 = .ok (.if_icmp .gt 13, 3) := by decide +kernel
theorem dX1_open_28 : decode cX1_open 28 = .ok (.new 44, 3) := by decide +kernel
theorem dX1_open_31 : decode cX1_open 31 = .ok (.dup, 1) := by decide +kernel
theorem dX1_open_32 : decode cX1_open 32 = .ok (.ldc 66, 2) := by decide +kernel
theorem dX1_open_34 : decode cX1_open 34 = .ok (.invokespecial 48, 3) := by decide +kernel
theorem dX1_open_37 : decode cX1_open 37 = .ok (.athrow, 1) := by decide +kernel
theorem dX1_open_38 : decode cX1_open 38 = .ok (.iconst 0, 1) := by decide +kernel
theorem dX1_open_39 : decode cX1_open 39 = .ok (.istore_n 1, 1) := by decide +kernel
theorem dX1_open_40 : decode cX1_open 40 = .ok (.iload_n 1, 1) := by decide +kernel
theorem dX1_open_41 : decode cX1_open 41 = .ok (.aload_n 0, 1) := by decide +kernel
theorem dX1_open_42 : decode cX1_open 42 = .ok (.getfield 41, 3) := by decide +kernel
theorem dX1_open_45 : decode cX1_open 45 = .ok (.if_icmp .ge 58, 3) := by decide +kernel
theorem dX1_open_48 : decode cX1_open 48 = .ok (.aload_n 0, 1) := by decide +kernel
theorem dX1_open_49 : decode cX1_open 49 = .ok (.getfield 11, 3) := by decide +kernel
theorem dX1_open_52 : decode cX1_open 52 = .ok (.iload_n 1, 1) := by decide +kernel
theorem dX1_open_53 : decode cX1_open 53 = .ok (.aaload, 1) := by decide +kernel
theorem dX1_open_54 : decode cX1_open 54 = .ok (.astore_n 2, 1) := by decide +kernel
theorem dX1_open_55 : decode cX1_open 55 = .ok (.iconst 0, 1) := by decide +kernel
theorem dX1_open_56 : decode cX1_open 56 = .ok (.istore_n 3, 1) := by decide +kernel
theorem dX1_open_57 : decode cX1_open 57 = .ok (.iload_n 3, 1) := by decide +kernel
theorem dX1_open_58 : decode cX1_open 58 = .ok (.aload_n 0, 1) := by decide +kernel
theorem dX1_open_59 : decode cX1_open 59 = .ok (.getfield 30, 3) := by decide +kernel
theorem dX1_open_62 : decode cX1_open 62 = .ok (.if_icmp .ge 24, 3) := by decide +kernel
theorem dX1_open_65 : decode cX1_open 65 = .ok (.aload_n 2, 1) := by decide +kernel
theorem dX1_open_66 : decode cX1_open 66 = .ok (.getfield 68, 3) := by decide +kernel
theorem dX1_open_69 : decode cX1_open 69 = .ok (.iload_n 3, 1) := by decide +kernel
theorem dX1_open_70 : decode cX1_open 70 = .ok (.aload_n 0, 1) := by decide +kernel
theorem dX1_open_71 : decode cX1_open 71 = .ok (.iload_n 1, 1) := by decide +kernel
theorem dX1_open_72 : decode cX1_open 72 = .ok (.iconst 1, 1) := by decide +kernel
theorem dX1_open_73 : decode cX1_open 73 = .ok (.iadd, 1) := by decide +kernel
theorem dX1_open_74 : decode cX1_open 74 = .ok (.iload_n 3, 1) := by decide +kernel
theorem dX1_open_75 : decode cX1_open 75 = .ok (.iadd, 1) := by decide +kernel
theorem dX1_open_76 : decode cX1_open 76 = .ok (.invokevirtual 71, 3) := by decide +kernel
theorem dX1_open_79 : decode cX1_open 79 = .ok (.iastore, 1) := by decide +kernel
theorem dX1_open_80 : decode cX1_open 80 = .ok (.iinc 3 1, 3) := by decide +kernel
theorem dX1_open_83 : decode cX1_open 83 = .ok (.goto (-26), 3) := by decide +kernel
theorem dX1_open_86 : decode cX1_open 86 = .ok (.aload_n 2, 1) := by decide +kernel
theorem dX1_open_87 : decode cX1_open 87 = .ok (.aload_n 0, 1) := by decide +kernel
theorem dX1_open_88 : decode cX1_open 88 = .ok (.iload_n 1, 1) := by decide +kernel
theorem dX1_open_89 : decode cX1_open 89 = .ok (.iconst 1, 1) := by decide +kernel
theorem dX1_open_90 : decode cX1_open 90 = .ok (.isub, 1) := by decide +kernel
theorem dX1_open_91 : decode cX1_open 91 = .ok (.invokevirtual 71, 3) := by decide +kernel
theorem dX1_open_94 : decode cX1_open 94 = .ok (.putfield 75, 3) := by decide +kernel
theorem dX1_open_97 : decode cX1_open 97 = .ok (.iinc 1 1, 3) := by decide +kernel
theorem dX1_open_100 : decode cX1_open 100 = .ok (.goto (-60), 3) := by decide +kernel
theorem dX1_open_103 : decode cX1_open 103 = .ok (.aload_n 0, 1) := by decide +kernel
theorem dX1_open_104 : decode cX1_open 104 = .ok (.iconst 1, 1) := by decide +kernel
theorem dX1_open_105 : decode cX1_open 105 = .ok (.putfield 53, 3) := by decide +kernel
theorem dX1_open_108 : decode cX1_open 108 = .ok (.aload_n 0, 1) := by decide +kernel
theorem dX1_open_109 : decode cX1_open 109 = .ok (.getfield 41, 3) := by decide +kernel
theorem dX1_open_112 : decode cX1_open 112 = .ok (.ireturn, 1) := by decide +kernel
theorem dX1_join_0 : decode cX1_join 0 = .ok (.aload_n 0, 1) := by decide +kernel
theorem dX1_join_1 : decode cX1_join 1 = .ok (.iload_n 2, 1) := by decide +kernel
theorem dX1_join_2 : decode cX1_join 2 = .ok (.invokevirtual 78, 3) := by decide +kernel
theorem dX1_join_5 : decode cX1_join 5 = .ok (.astore_n 3, 1) := by decide +kernel
theorem dX1_join_6 : decode cX1_join 6 = .ok (.iload_n 1, 1) := by decide +kernel
theorem dX1_join_7 : decode cX1_join 7 = .ok (.invokestatic 49, 3) := by decide +kernel
theorem dX1_join_10 : decode cX1_join 10 = .ok (.aload_n 0, 1) := by decide +kernel
theorem dX1_join_11 : decode cX1_join 11 = .ok (.iload_n 1, 1) := by decide +kernel
theorem dX1_join_12 : decode cX1_join 12 = .ok (.invokevirtual 59, 3) := by decide +kernel
theorem dX1_join_15 : decode cX1_join 15 = .ok (.aload_n 0, 1) := by decide +kernel
theorem dX1_join_16 : decode cX1_join 16 = .ok (.aload_n 3, 1) := by decide +kernel
theorem dX1_join_17 : decode cX1_join 17 = .ok (.iload_n 1, 1) := by decide +kernel
theorem dX1_join_18 : decode cX1_join 18 = .ok (.invokevirtual 81, 3) := by decide +kernel
theorem dX1_join_21 : decode cX1_join 21 = .ok (.astore 4, 2) := by decide +kernel
theorem dX1_join_23 : decode cX1_join 23 = .ok (.aload_n 0, 1) := by decide +kernel
theorem dX1_join_24 : decode cX1_join 24 = .ok (.aload_n 0, 1) := by decide +kernel
theorem dX1_join_25 : decode cX1_join 25 = .ok (.iload_n 1, 1) := by decide +kernel
theorem dX1_join_26 : decode cX1_join 26 = .ok (.invokevirtual 62, 3) := by decide +kernel
theorem dX1_join_29 : decode cX1_join 29 = .ok (.aload 4, 2) := by decide +kernel
theorem dX1_join_31 : decode cX1_join 31 = .ok (.invokevirtual 85, 3) := by decide +kernel
theorem dX1_join_34 : decode cX1_join 34 = .ok (.aload 4, 2) := by decide +kernel
theorem dX1_join_36 : decode cX1_join 36 = .ok (.getfield 89, 3) := by decide +kernel
theorem dX1_join_39 : decode cX1_join 39 = .ok (.ireturn, 1) := by decide +kernel
theorem dX1_fail_0 : decode cX1_fail 0 = .ok (.aload_n 0, 1) := by decide +kernel
theorem dX1_fail_1 : decode cX1_fail 1 = .ok (.iload_n 1, 1) := by decide +kernel
theorem dX1_fail_2 : decode cX1_fail 2 = .ok (.invokevirtual 78, 3) := by decide +kernel
theorem dX1_fail_5 : decode cX1_fail 5 = .ok (.astore_n 2, 1) := by decide +kernel
theorem dX1_fail_6 : decode cX1_fail 6 = .ok (.aload_n 0, 1) := by decide +kernel
theorem dX1_fail_7 : decode cX1_fail 7 = .ok (.getfield 41, 3) := by decide +kernel
theorem dX1_fail_10 : decode cX1_fail 10 = .ok (.iconst 1, 1) := by decide +kernel
theorem dX1_fail_11 : decode cX1_fail 11 = .ok (.isub, 1) := by decide +kernel
theorem dX1_fail_12 : decode cX1_fail 12 = .ok (.aload_n 0, 1) := by decide +kernel
theorem dX1_fail_13 : decode cX1_fail 13 = .ok (.getfield 30, 3) := by decide +kernel
theorem dX1_fail_16 : decode cX1_fail 16 = .ok (.if_icmp .gt 13, 3) := by decide +kernel
theorem dX1_fail_19 : decode cX1_fail 19 = .ok (.new 44, 3) := by decide +kernel
theorem dX1_fail_22 : decode cX1_fail 22 = .ok (.dup, 1) := by decide +kernel
theorem dX1_fail_23 : decode cX1_fail 23 = .ok (.ldc 92, 2) := by decide +kernel
theorem dX1_fail_25 : decode cX1_fail 25 = .ok (.invokespecial 48, 3) := by decide +kernel
theorem dX1_fail_28 : decode cX1_fail 28 = .ok (.athrow, 1) := by decide +kernel
theorem dX1_fail_29 : decode cX1_fail 29 = .ok (.iconst 0, 1) := by decide +kernel
theorem dX1_fail_30 : decode cX1_fail 30 = .ok (.istore_n 3, 1) := by decide +kernel
theorem dX1_fail_31 : decode cX1_fail 31 = .ok (.iload_n 3, 1) := by decide +kernel
theorem dX1_fail_32 : decode cX1_fail 32 = .ok (.aload_n 0, 1) := by decide +kernel
theorem dX1_fail_33 : decode cX1_fail 33 = .ok (.getfield 41, 3) := by decide +kernel
theorem dX1_fail_36 : decode cX1_fail 36 = .ok (.if_icmp .ge 43, 3) := by decide +kernel
theorem dX1_fail_39 : decode cX1_fail 39 = .ok (.aload_n 0, 1) := by decide +kernel
theorem dX1_fail_40 : decode cX1_fail 40 = .ok (.getfield 11, 3) := by decide +kernel
theorem dX1_fail_43 : decode cX1_fail 43 = .ok (.iload_n 3, 1) := by decide +kernel
theorem dX1_fail_44 : decode cX1_fail 44 = .ok (.aaload, 1) := by decide +kernel
theorem dX1_fail_45 : decode cX1_fail 45 = .ok (.aload_n 2, 1) := by decide +kernel
theorem dX1_fail_46 : decode cX1_fail 46 = .ok (.if_acmp .eq 27, 3) := by decide +kernel
theorem dX1_fail_49 : decode cX1_fail 49 = .ok (.aload_n 0, 1) := by decide +kernel
theorem dX1_fail_50 : decode cX1_fail 50 = .ok (.aload_n 0, 1) := by decide +kernel
theorem dX1_fail_51 : decode cX1_fail 51 = .ok (.getfield 11, 3) := by decide +kernel
theorem dX1_fail_54 : decode cX1_fail 54 = .ok (.iload_n 3, 1) := by decide +kernel
theorem dX1_fail_55 : decode cX1_fail 55 = .ok (.aaload, 1) := by decide +kernel
theorem dX1_fail_56 : decode cX1_fail 56 = .ok (.aload_n 2, 1) := by decide +kernel
theorem dX1_fail_57 : decode cX1_fail 57 = .ok (.invokevirtual 94, 3) := by decide +kernel
theorem dX1_fail_60 : decode cX1_fail 60 = .ok (.ifCond .ne 13, 3) := by decide +kernel
theorem dX1_fail_63 : decode cX1_fail 63 = .ok (.new 44, 3) := by decide +kernel
theorem dX1_fail_66 : decode cX1_fail 66 = .ok (.dup, 1) := by decide +kernel
theorem dX1_fail_67 : decode cX1_fail 67 = .ok (.ldc 98, 2) := by decide +kernel
theorem dX1_fail_69 : decode cX1_fail 69 = .ok (.invokespecial 48, 3) := by decide +kernel
theorem dX1_fail_72 : decode cX1_fail 72 = .ok (.athrow, 1) := by decide +kernel
theorem dX1_fail_73 : decode cX1_fail 73 = .ok (.iinc 3 1, 3) := by decide +kernel
theorem dX1_fail_76 : decode cX1_fail 76 = .ok (.goto (-45), 3) := by decide +kernel
theorem dX1_fail_79 : decode cX1_fail 79 = .ok (.aload_n 0, 1) := by decide +kernel
theorem dX1_fail_80 : decode cX1_fail 80 = .ok (.aload_n 2, 1) := by decide +kernel
theorem dX1_fail_81 : decode cX1_fail 81 = .ok (.invokevirtual 100, 3) := by decide +kernel
theorem dX1_fail_84 : decode cX1_fail 84 = .ok (.aload_n 0, 1) := by decide +kernel
theorem dX1_fail_85 : decode cX1_fail 85 = .ok (.getfield 41, 3) := by decide +kernel
theorem dX1_fail_88 : decode cX1_fail 88 = .ok (.ireturn, 1) := by decide +kernel
theorem dX1_stabilise_0 : decode cX1_stabilise 0 = .ok (.aload_n 0, 1) := by decide +kernel
theorem dX1_stabilise_1 : decode cX1_stabilise 1 = .ok (.iload_n 1, 1) := by decide +kernel
theorem dX1_stabilise_2 : decode cX1_stabilise 2 = .ok (.invokevirtual 78, 3) := by decide +kernel
theorem dX1_stabilise_5 : decode cX1_stabilise 5 = .ok (.astore_n 2, 1) := by decide +kernel
theorem dX1_stabilise_6 : decode cX1_stabilise 6 = .ok (.aload_n 0, 1) := by decide +kernel
theorem dX1_stabilise_7 : decode cX1_stabilise 7 = .ok (.aload_n 2, 1) := by decide +kernel
theorem dX1_stabilise_8 : decode cX1_stabilise 8 = .ok (.invokevirtual 104, 3) := by decide +kernel
theorem dX1_stabilise_11 : decode cX1_stabilise 11 = .ok (.aload_n 0, 1) := by decide +kernel
theorem dX1_stabilise_12 : decode cX1_stabilise 12 = .ok (.aload_n 2, 1) := by decide +kernel
theorem dX1_stabilise_13 : decode cX1_stabilise 13 = .ok (.invokevirtual 107, 3) := by decide +kernel
theorem dX1_stabilise_16 : decode cX1_stabilise 16 = .ok (.astore_n 3, 1) := by decide +kernel
theorem dX1_stabilise_17 : decode cX1_stabilise 17 = .ok (.aload_n 3, 1) := by decide +kernel
theorem dX1_stabilise_18 : decode cX1_stabilise 18 = .ok (.ifnonnull 7, 3) := by decide +kernel
theorem dX1_stabilise_21 : decode cX1_stabilise 21 = .ok (.iconst (-1), 1) := by decide +kernel
theorem dX1_stabilise_22 : decode cX1_stabilise 22 = .ok (.goto 7, 3) := by decide +kernel
theorem dX1_stabilise_25 : decode cX1_stabilise 25 = .ok (.aload_n 3, 1) := by decide +kernel
theorem dX1_stabilise_26 : decode cX1_stabilise 26 = .ok (.getfield 89, 3) := by decide +kernel
theorem dX1_stabilise_29 : decode cX1_stabilise 29 = .ok (.ireturn, 1) := by decide +kernel
theorem dX1_mend_0 : decode cX1_mend 0 = .ok (.aload_n 0, 1) := by decide +kernel
theorem dX1_mend_1 : decode cX1_mend 1 = .ok (.iload_n 1, 1) := by decide +kernel
theorem dX1_mend_2 : decode cX1_mend 2 = .ok (.invokevirtual 78, 3) := by decide +kernel
theorem dX1_mend_5 : decode cX1_mend 5 = .ok (.astore_n 3, 1) := by decide +kernel
theorem dX1_mend_6 : decode cX1_mend 6 = .ok (.iload_n 2, 1) := by decide +kernel
theorem dX1_mend_7 : decode cX1_mend 7 = .ok (.ifCond .lt 9, 3) := by decide +kernel
theorem dX1_mend_10 : decode cX1_mend 10 = .ok (.iload_n 2, 1) := by decide +kernel
theorem dX1_mend_11 : decode cX1_mend 11 = .ok (.bipush 8, 2) := by decide +kernel
theorem dX1_mend_13 : decode cX1_mend 13 = .ok (.if_icmp .lt 13, 3) := by decide +kernel
theorem dX1_mend_16 : decode cX1_mend 16 = .ok (.new 111, 3) := by decide +kernel
theorem dX1_mend_19 : decode cX1_mend 19 = .ok (.dup, 1) := by decide +kernel
theorem dX1_mend_20 : decode cX1_mend 20 = .ok (.ldc 113, 2) := by decide +kernel
theorem dX1_mend_22 : decode cX1_mend 22 = .ok (.invokespecial 115, 3) := by decide +kernel
theorem dX1_mend_25 : decode cX1_mend 25 = .ok (.athrow, 1) := by decide +kernel
theorem dX1_mend_26 : decode cX1_mend 26 = .ok (.aload_n 0, 1) := by decide +kernel
theorem dX1_mend_27 : decode cX1_mend 27 = .ok (.aload_n 3, 1) := by decide +kernel
theorem dX1_mend_28 : decode cX1_mend 28 = .ok (.iload_n 2, 1) := by decide +kernel
theorem dX1_mend_29 : decode cX1_mend 29 = .ok (.invokevirtual 116, 3) := by decide +kernel
theorem dX1_mend_32 : decode cX1_mend 32 = .ok (.aload_n 3, 1) := by decide +kernel
theorem dX1_mend_33 : decode cX1_mend 33 = .ok (.getfield 120, 3) := by decide +kernel
theorem dX1_mend_36 : decode cX1_mend 36 = .ok (.iload_n 2, 1) := by decide +kernel
theorem dX1_mend_37 : decode cX1_mend 37 = .ok (.iaload, 1) := by decide +kernel
theorem dX1_mend_38 : decode cX1_mend 38 = .ok (.ireturn, 1) := by decide +kernel
theorem dX1_handOver_0 : decode cX1_handOver 0 = .ok (.aload_n 0, 1) := by decide +kernel
theorem dX1_handOver_1 : decode cX1_handOver 1 = .ok (.aload_n 0, 1) := by decide +kernel
theorem dX1_handOver_2 : decode cX1_handOver 2 = .ok (.iload_n 1, 1) := by decide +kernel
theorem dX1_handOver_3 : decode cX1_handOver 3 = .ok (.invokevirtual 78, 3) := by decide +kernel
theorem dX1_handOver_6 : decode cX1_handOver 6 = .ok (.invokevirtual 123, 3) := by decide +kernel
theorem dX1_handOver_9 : decode cX1_handOver 9 = .ok (.ireturn, 1) := by decide +kernel
theorem dX1_spread_0 : decode cX1_spread 0 = .ok (.aload_n 0, 1) := by decide +kernel
theorem dX1_spread_1 : decode cX1_spread 1 = .ok (.aload_n 0, 1) := by decide +kernel
theorem dX1_spread_2 : decode cX1_spread 2 = .ok (.iload_n 1, 1) := by decide +kernel
theorem dX1_spread_3 : decode cX1_spread 3 = .ok (.invokevirtual 78, 3) := by decide +kernel
theorem dX1_spread_6 : decode cX1_spread 6 = .ok (.invokevirtual 127, 3) := by decide +kernel
theorem dX1_spread_9 : decode cX1_spread 9 = .ok (.ireturn, 1) := by decide +kernel
theorem dX1_rounds_0 : decode cX1_rounds 0 = .ok (.iload_n 1, 1) := by decide +kernel
theorem dX1_rounds_1 : decode cX1_rounds 1 = .ok (.ifCond .lt 9, 3) := by decide +kernel
theorem dX1_rounds_4 : decode cX1_rounds 4 = .ok (.iload_n 1, 1) := by decide +kernel
theorem dX1_rounds_5 : decode cX1_rounds 5 = .ok (.bipush 40, 2) := by decide +kernel
theorem dX1_rounds_7 : decode cX1_rounds 7 = .ok (.if_icmp .le 13, 3) := by decide +kernel
theorem dX1_rounds_10 : decode cX1_rounds 10 = .ok (.new 34, 3) := by decide +kernel
theorem dX1_rounds_13 : decode cX1_rounds 13 = .ok (.dup, 1) := by decide +kernel
theorem dX1_rounds_14 : decode cX1_rounds 14 = .ok (.ldc 130, 2) := by decide +kernel
theorem dX1_rounds_16 : decode cX1_rounds 16 = .ok (.invokespecial 38, 3) := by decide +kernel
theorem dX1_rounds_19 : decode cX1_rounds 19 = .ok (.athrow, 1) := by decide +kernel
theorem dX1_rounds_20 : decode cX1_rounds 20 = .ok (.aload_n 0, 1) := by decide +kernel
theorem dX1_rounds_21 : decode cX1_rounds 21 = .ok (.getfield 53, 3) := by decide +kernel
theorem dX1_rounds_24 : decode cX1_rounds 24 = .ok (.ifCond .ne 13, 3) := by decide +kernel
theorem dX1_rounds_27 : decode cX1_rounds 27 = .ok (.new 44, 3) := by decide +kernel
theorem dX1_rounds_30 : decode cX1_rounds 30 = .ok (.dup, 1) := by decide +kernel
theorem dX1_rounds_31 : decode cX1_rounds 31 = .ok (.ldc 132, 2) := by decide +kernel
theorem dX1_rounds_33 : decode cX1_rounds 33 = .ok (.invokespecial 48, 3) := by decide +kernel
theorem dX1_rounds_36 : decode cX1_rounds 36 = .ok (.athrow, 1) := by decide +kernel
theorem dX1_rounds_37 : decode cX1_rounds 37 = .ok (.iconst 0, 1) := by decide +kernel
theorem dX1_rounds_38 : decode cX1_rounds 38 = .ok (.istore_n 2, 1) := by decide +kernel
theorem dX1_rounds_39 : decode cX1_rounds 39 = .ok (.iconst 0, 1) := by decide +kernel
theorem dX1_rounds_40 : decode cX1_rounds 40 = .ok (.istore_n 3, 1) := by decide +kernel
theorem dX1_rounds_41 : decode cX1_rounds 41 = .ok (.iload_n 3, 1) := by decide +kernel
theorem dX1_rounds_42 : decode cX1_rounds 42 = .ok (.iload_n 1, 1) := by decide +kernel
theorem dX1_rounds_43 : decode cX1_rounds 43 = .ok (.if_icmp .ge 41, 3) := by decide +kernel
theorem dX1_rounds_46 : decode cX1_rounds 46 = .ok (.iconst 0, 1) := by decide +kernel
theorem dX1_rounds_47 : decode cX1_rounds 47 = .ok (.istore 4, 2) := by decide +kernel
theorem dX1_rounds_49 : decode cX1_rounds 49 = .ok (.iload 4, 2) := by decide +kernel
theorem dX1_rounds_51 : decode cX1_rounds 51 = .ok (.aload_n 0, 1) := by decide +kernel
theorem dX1_rounds_52 : decode cX1_rounds 52 = .ok (.getfield 41, 3) := by decide +kernel
theorem dX1_rounds_55 : decode cX1_rounds 55 = .ok (.if_icmp .ge 23, 3) := by decide +kernel
theorem dX1_rounds_58 : decode cX1_rounds 58 = .ok (.iload_n 2, 1) := by decide +kernel
theorem dX1_rounds_59 : decode cX1_rounds 59 = .ok (.aload_n 0, 1) := by decide +kernel
theorem dX1_rounds_60 : decode cX1_rounds 60 = .ok (.aload_n 0, 1) := by decide +kernel
theorem dX1_rounds_61 : decode cX1_rounds 61 = .ok (.getfield 11, 3) := by decide +kernel
theorem dX1_rounds_64 : decode cX1_rounds 64 = .ok (.iload 4, 2) := by decide +kernel
theorem dX1_rounds_66 : decode cX1_rounds 66 = .ok (.aaload, 1) := by decide +kernel
theorem dX1_rounds_67 : decode cX1_rounds 67 = .ok (.invokevirtual 134, 3) := by decide +kernel
theorem dX1_rounds_70 : decode cX1_rounds 70 = .ok (.iadd, 1) := by decide +kernel
theorem dX1_rounds_71 : decode cX1_rounds 71 = .ok (.istore_n 2, 1) := by decide +kernel
theorem dX1_rounds_72 : decode cX1_rounds 72 = .ok (.iinc 4 1, 3) := by decide +kernel
theorem dX1_rounds_75 : decode cX1_rounds 75 = .ok (.goto (-26), 3) := by decide +kernel
theorem dX1_rounds_78 : decode cX1_rounds 78 = .ok (.iinc 3 1, 3) := by decide +kernel
theorem dX1_rounds_81 : decode cX1_rounds 81 = .ok (.goto (-40), 3) := by decide +kernel
theorem dX1_rounds_84 : decode cX1_rounds 84 = .ok (.iload_n 2, 1) := by decide +kernel
theorem dX1_rounds_85 : decode cX1_rounds 85 = .ok (.ireturn, 1) := by decide +kernel
theorem dX1_look_0 : decode cX1_look 0 = .ok (.aload_n 0, 1) := by decide +kernel
theorem dX1_look_1 : decode cX1_look 1 = .ok (.iload_n 1, 1) := by decide +kernel
theorem dX1_look_2 : decode cX1_look 2 = .ok (.invokevirtual 78, 3) := by decide +kernel
theorem dX1_look_5 : decode cX1_look 5 = .ok (.astore_n 3, 1) := by decide +kernel
theorem dX1_look_6 : decode cX1_look 6 = .ok (.iload_n 2, 1) := by decide +kernel
theorem dX1_look_7 : decode cX1_look 7 = .ok (.invokestatic 49, 3) := by decide +kernel
theorem dX1_look_10 : decode cX1_look 10 = .ok (.aload_n 0, 1) := by decide +kernel
theorem dX1_look_11 : decode cX1_look 11 = .ok (.aload_n 3, 1) := by decide +kernel
theorem dX1_look_12 : decode cX1_look 12 = .ok (.iload_n 2, 1) := by decide +kernel
theorem dX1_look_13 : decode cX1_look 13 = .ok (.invokevirtual 81, 3) := by decide +kernel
theorem dX1_look_16 : decode cX1_look 16 = .ok (.astore 4, 2) := by decide +kernel
theorem dX1_look_18 : decode cX1_look 18 = .ok (.aload_n 0, 1) := by decide +kernel
theorem dX1_look_19 : decode cX1_look 19 = .ok (.getfield 23, 3) := by decide +kernel
theorem dX1_look_22 : decode cX1_look 22 = .ok (.iconst 0, 1) := by decide +kernel
theorem dX1_look_23 : decode cX1_look 23 = .ok (.aload_n 0, 1) := by decide +kernel
theorem dX1_look_24 : decode cX1_look 24 = .ok (.getfield 27, 3) := by decide +kernel
theorem dX1_look_27 : decode cX1_look 27 = .ok (.iconst 0, 1) := by decide +kernel
theorem dX1_look_28 : decode cX1_look 28 = .ok (.bipush 20, 2) := by decide +kernel
theorem dX1_look_30 : decode cX1_look 30 = .ok (.invokestatic 137, 3) := by decide +kernel
theorem dX1_look_33 : decode cX1_look 33 = .ok (.aload_n 0, 1) := by decide +kernel
theorem dX1_look_34 : decode cX1_look 34 = .ok (.aload_n 0, 1) := by decide +kernel
theorem dX1_look_35 : decode cX1_look 35 = .ok (.getfield 143, 3) := by decide +kernel
theorem dX1_look_38 : decode cX1_look 38 = .ok (.putfield 146, 3) := by decide +kernel
theorem dX1_look_41 : decode cX1_look 41 = .ok (.aload 4, 2) := by decide +kernel
theorem dX1_look_43 : decode cX1_look 43 = .ok (.getfield 89, 3) := by decide +kernel
theorem dX1_look_46 : decode cX1_look 46 = .ok (.ireturn, 1) := by decide +kernel
theorem dX1_hop_0 : decode cX1_hop 0 = .ok (.iload_n 1, 1) := by decide +kernel
theorem dX1_hop_1 : decode cX1_hop 1 = .ok (.ifCond .lt 11, 3) := by decide +kernel
theorem dX1_hop_4 : decode cX1_hop 4 = .ok (.iload_n 1, 1) := by decide +kernel
theorem dX1_hop_5 : decode cX1_hop 5 = .ok (.aload_n 0, 1) := by decide +kernel
theorem dX1_hop_6 : decode cX1_hop 6 = .ok (.getfield 146, 3) := by decide +kernel
theorem dX1_hop_9 : decode cX1_hop 9 = .ok (.if_icmp .lt 13, 3) := by decide +kernel
theorem dX1_hop_12 : decode cX1_hop 12 = .ok (.new 111, 3) := by decide +kernel
theorem dX1_hop_15 : decode cX1_hop 15 = .ok (.dup, 1) := by decide +kernel
theorem dX1_hop_16 : decode cX1_hop 16 = .ok (.ldc 149, 2) := by decide +kernel
theorem dX1_hop_18 : decode cX1_hop 18 = .ok (.invokespecial 115, 3) := by decide +kernel
theorem dX1_hop_21 : decode cX1_hop 21 = .ok (.athrow, 1) := by decide +kernel
theorem dX1_hop_22 : decode cX1_hop 22 = .ok (.aload_n 0, 1) := by decide +kernel
theorem dX1_hop_23 : decode cX1_hop 23 = .ok (.getfield 27, 3) := by decide +kernel
theorem dX1_hop_26 : decode cX1_hop 26 = .ok (.iload_n 1, 1) := by decide +kernel
theorem dX1_hop_27 : decode cX1_hop 27 = .ok (.iaload, 1) := by decide +kernel
theorem dX1_hop_28 : decode cX1_hop 28 = .ok (.ireturn, 1) := by decide +kernel
theorem dX1_put_0 : decode cX1_put 0 = .ok (.aload_n 0, 1) := by decide +kernel
theorem dX1_put_1 : decode cX1_put 1 = .ok (.iload_n 1, 1) := by decide +kernel
theorem dX1_put_2 : decode cX1_put 2 = .ok (.invokevirtual 78, 3) := by decide +kernel
theorem dX1_put_5 : decode cX1_put 5 = .ok (.astore 4, 2) := by decide +kernel
theorem dX1_put_7 : decode cX1_put 7 = .ok (.iload_n 2, 1) := by decide +kernel
theorem dX1_put_8 : decode cX1_put 8 = .ok (.invokestatic 151, 3) := by decide +kernel
theorem dX1_put_11 : decode cX1_put 11 = .ok (.iload_n 3, 1) := by decide +kernel
theorem dX1_put_12 : decode cX1_put 12 = .ok (.ifCond .ge 13, 3) := by decide +kernel
theorem dX1_put_15 : decode cX1_put 15 = .ok (.new 34, 3) := by decide +kernel
theorem dX1_put_18 : decode cX1_put 18 = .ok (.dup, 1) := by decide +kernel
theorem dX1_put_19 : decode cX1_put 19 = .ok (.ldc 154, 2) := by decide +kernel
theorem dX1_put_21 : decode cX1_put 21 = .ok (.invokespecial 38, 3) := by decide +kernel
theorem dX1_put_24 : decode cX1_put 24 = .ok (.athrow, 1) := by decide +kernel
theorem dX1_put_25 : decode cX1_put 25 = .ok (.aload_n 0, 1) := by decide +kernel
theorem dX1_put_26 : decode cX1_put 26 = .ok (.aload 4, 2) := by decide +kernel
theorem dX1_put_28 : decode cX1_put 28 = .ok (.iload_n 2, 1) := by decide +kernel
theorem dX1_put_29 : decode cX1_put 29 = .ok (.invokestatic 156, 3) := by decide +kernel
theorem dX1_put_32 : decode cX1_put 32 = .ok (.invokevirtual 81, 3) := by decide +kernel
theorem dX1_put_35 : decode cX1_put 35 = .ok (.astore 5, 2) := by decide +kernel
theorem dX1_put_37 : decode cX1_put 37 = .ok (.aload 5, 2) := by decide +kernel
theorem dX1_put_39 : decode cX1_put 39 = .ok (.getfield 159, 3) := by decide +kernel
theorem dX1_put_42 : decode cX1_put 42 = .ok (.iload_n 2, 1) := by decide +kernel
theorem dX1_put_43 : decode cX1_put 43 = .ok (.dup2, 1) := by decide +kernel
theorem dX1_put_44 : decode cX1_put 44 = .ok (.iaload, 1) := by decide +kernel
theorem dX1_put_45 : decode cX1_put 45 = .ok (.iconst 1, 1) := by decide +kernel
theorem dX1_put_46 : decode cX1_put 46 = .ok (.iadd, 1) := by decide +kernel
theorem dX1_put_47 : decode cX1_put 47 = .ok (.iastore, 1) := by decide +kernel
theorem dX1_put_48 : decode cX1_put 48 = .ok (.aload 5, 2) := by decide +kernel
theorem dX1_put_50 : decode cX1_put 50 = .ok (.getfield 162, 3) := by decide +kernel
theorem dX1_put_53 : decode cX1_put 53 = .ok (.iload_n 2, 1) := by decide +kernel
theorem dX1_put_54 : decode cX1_put 54 = .ok (.aload 5, 2) := by decide +kernel
theorem dX1_put_56 : decode cX1_put 56 = .ok (.getfield 89, 3) := by decide +kernel
theorem dX1_put_59 : decode cX1_put 59 = .ok (.iastore, 1) := by decide +kernel
theorem dX1_put_60 : decode cX1_put 60 = .ok (.aload 5, 2) := by decide +kernel
theorem dX1_put_62 : decode cX1_put 62 = .ok (.getfield 165, 3) := by decide +kernel
theorem dX1_put_65 : decode cX1_put 65 = .ok (.iload_n 2, 1) := by decide +kernel
theorem dX1_put_66 : decode cX1_put 66 = .ok (.iload_n 3, 1) := by decide +kernel
theorem dX1_put_67 : decode cX1_put 67 = .ok (.iastore, 1) := by decide +kernel
theorem dX1_put_68 : decode cX1_put 68 = .ok (.aload_n 0, 1) := by decide +kernel
theorem dX1_put_69 : decode cX1_put 69 = .ok (.aload 5, 2) := by decide +kernel
theorem dX1_put_71 : decode cX1_put 71 = .ok (.iload_n 2, 1) := by decide +kernel
theorem dX1_put_72 : decode cX1_put 72 = .ok (.invokevirtual 168, 3) := by decide +kernel
theorem dX1_put_75 : decode cX1_put 75 = .ok (.pop, 1) := by decide +kernel
theorem dX1_put_76 : decode cX1_put 76 = .ok (.aload 5, 2) := by decide +kernel
theorem dX1_put_78 : decode cX1_put 78 = .ok (.getfield 159, 3) := by decide +kernel
theorem dX1_put_81 : decode cX1_put 81 = .ok (.iload_n 2, 1) := by decide +kernel
theorem dX1_put_82 : decode cX1_put 82 = .ok (.iaload, 1) := by decide +kernel
theorem dX1_put_83 : decode cX1_put 83 = .ok (.ireturn, 1) := by decide +kernel
theorem dX1_get_0 : decode cX1_get 0 = .ok (.aload_n 0, 1) := by decide +kernel
theorem dX1_get_1 : decode cX1_get 1 = .ok (.iload_n 1, 1) := by decide +kernel
theorem dX1_get_2 : decode cX1_get 2 = .ok (.invokevirtual 78, 3) := by decide +kernel
theorem dX1_get_5 : decode cX1_get 5 = .ok (.astore_n 3, 1) := by decide +kernel
theorem dX1_get_6 : decode cX1_get 6 = .ok (.iload_n 2, 1) := by decide +kernel
theorem dX1_get_7 : decode cX1_get 7 = .ok (.invokestatic 151, 3) := by decide +kernel
theorem dX1_get_10 : decode cX1_get 10 = .ok (.aload_n 0, 1) := by decide +kernel
theorem dX1_get_11 : decode cX1_get 11 = .ok (.aload_n 3, 1) := by decide +kernel
theorem dX1_get_12 : decode cX1_get 12 = .ok (.iload_n 2, 1) := by decide +kernel
theorem dX1_get_13 : decode cX1_get 13 = .ok (.invokestatic 156, 3) := by decide +kernel
theorem dX1_get_16 : decode cX1_get 16 = .ok (.invokevirtual 81, 3) := by decide +kernel
theorem dX1_get_19 : decode cX1_get 19 = .ok (.astore 4, 2) := by decide +kernel
theorem dX1_get_21 : decode cX1_get 21 = .ok (.aload 4, 2) := by decide +kernel
theorem dX1_get_23 : decode cX1_get 23 = .ok (.getfield 159, 3) := by decide +kernel
theorem dX1_get_26 : decode cX1_get 26 = .ok (.iload_n 2, 1) := by decide +kernel
theorem dX1_get_27 : decode cX1_get 27 = .ok (.iaload, 1) := by decide +kernel
theorem dX1_get_28 : decode cX1_get 28 = .ok (.ifCond .le 8, 3) := by decide +kernel
theorem dX1_get_31 : decode cX1_get 31 = .ok (.aload 4, 2) := by decide +kernel
theorem dX1_get_33 : decode cX1_get 33 = .ok (.goto 10, 3) := by decide +kernel
theorem dX1_get_36 : decode cX1_get 36 = .ok (.aload_n 0, 1) := by decide +kernel
theorem dX1_get_37 : decode cX1_get 37 = .ok (.aload 4, 2) := by decide +kernel
theorem dX1_get_39 : decode cX1_get 39 = .ok (.iload_n 2, 1) := by decide +kernel
theorem dX1_get_40 : decode cX1_get 40 = .ok (.invokevirtual 172, 3) := by decide +kernel
theorem dX1_get_43 : decode cX1_get 43 = .ok (.astore 5, 2) := by decide +kernel
theorem dX1_get_45 : decode cX1_get 45 = .ok (.aload 5, 2) := by decide +kernel
theorem dX1_get_47 : decode cX1_get 47 = .ok (.getfield 165, 3) := by decide +kernel
theorem dX1_get_50 : decode cX1_get 50 = .ok (.iload_n 2, 1) := by decide +kernel
theorem dX1_get_51 : decode cX1_get 51 = .ok (.iaload, 1) := by decide +kernel
theorem dX1_get_52 : decode cX1_get 52 = .ok (.ireturn, 1) := by decide +kernel
theorem dX1_held_0 : decode cX1_held 0 = .ok (.aload_n 0, 1) := by decide +kernel
theorem dX1_held_1 : decode cX1_held 1 = .ok (.iload_n 1, 1) := by decide +kernel
theorem dX1_held_2 : decode cX1_held 2 = .ok (.invokevirtual 78, 3) := by decide +kernel
theorem dX1_held_5 : decode cX1_held 5 = .ok (.astore 4, 2) := by decide +kernel
theorem dX1_held_7 : decode cX1_held 7 = .ok (.iload_n 2, 1) := by decide +kernel
theorem dX1_held_8 : decode cX1_held 8 = .ok (.invokestatic 151, 3) := by decide +kernel
theorem dX1_held_11 : decode cX1_held 11 = .ok (.iload_n 3, 1) := by decide +kernel
theorem dX1_held_12 : decode cX1_held 12 = .ok (.tableswitch 52 0 2 #[28, 36, 44], 28) := by decide +kernel
theorem dX1_held_40 : decode cX1_held 40 = .ok (.aload 4, 2) := by decide +kernel
theorem dX1_held_42 : decode cX1_held 42 = .ok (.getfield 159, 3) := by decide +kernel
theorem dX1_held_45 : decode cX1_held 45 = .ok (.iload_n 2, 1) := by decide +kernel
theorem dX1_held_46 : decode cX1_held 46 = .ok (.iaload, 1) := by decide +kernel
theorem dX1_held_47 : decode cX1_held 47 = .ok (.ireturn, 1) := by decide +kernel
theorem dX1_held_48 : decode cX1_held 48 = .ok (.aload 4, 2) := by decide +kernel
theorem dX1_held_50 : decode cX1_held 50 = .ok (.getfield 162, 3) := by decide +kernel
theorem dX1_held_53 : decode cX1_held 53 = .ok (.iload_n 2, 1) := by decide +kernel
theorem dX1_held_54 : decode cX1_held 54 = .ok (.iaload, 1) := by decide +kernel
theorem dX1_held_55 : decode cX1_held 55 = .ok (.ireturn, 1) := by decide +kernel
theorem dX1_held_56 : decode cX1_held 56 = .ok (.aload 4, 2) := by decide +kernel
theorem dX1_held_58 : decode cX1_held 58 = .ok (.getfield 165, 3) := by decide +kernel
theorem dX1_held_61 : decode cX1_held 61 = .ok (.iload_n 2, 1) := by decide +kernel
theorem dX1_held_62 : decode cX1_held 62 = .ok (.iaload, 1) := by decide +kernel
theorem dX1_held_63 : decode cX1_held 63 = .ok (.ireturn, 1) := by decide +kernel
theorem dX1_held_64 : decode cX1_held 64 = .ok (.new 34, 3) := by decide +kernel
theorem dX1_held_67 : decode cX1_held 67 = .ok (.dup, 1) := by decide +kernel
theorem dX1_held_68 : decode cX1_held 68 = .ok (.ldc 175, 2) := by decide +kernel
theorem dX1_held_70 : decode cX1_held 70 = .ok (.invokespecial 38, 3) := by decide +kernel
theorem dX1_held_73 : decode cX1_held 73 = .ok (.athrow, 1) := by decide +kernel
theorem dX1_known_0 : decode cX1_known 0 = .ok (.aload_n 0, 1) := by decide +kernel
theorem dX1_known_1 : decode cX1_known 1 = .ok (.iload_n 1, 1) := by decide +kernel
theorem dX1_known_2 : decode cX1_known 2 = .ok (.invokevirtual 78, 3) := by decide +kernel
theorem dX1_known_5 : decode cX1_known 5 = .ok (.astore_n 3, 1) := by decide +kernel
theorem dX1_known_6 : decode cX1_known 6 = .ok (.iload_n 2, 1) := by decide +kernel
theorem dX1_known_7 : decode cX1_known 7 = .ok (.iconst (-1), 1) := by decide +kernel
theorem dX1_known_8 : decode cX1_known 8 = .ok (.if_icmp .ne 8, 3) := by decide +kernel
theorem dX1_known_11 : decode cX1_known 11 = .ok (.aload_n 3, 1) := by decide +kernel
theorem dX1_known_12 : decode cX1_known 12 = .ok (.getfield 75, 3) := by decide +kernel
theorem dX1_known_15 : decode cX1_known 15 = .ok (.ireturn, 1) := by decide +kernel
theorem dX1_known_16 : decode cX1_known 16 = .ok (.iload_n 2, 1) := by decide +kernel
theorem dX1_known_17 : decode cX1_known 17 = .ok (.ifCond .lt 18, 3) := by decide +kernel
theorem dX1_known_20 : decode cX1_known 20 = .ok (.iload_n 2, 1) := by decide +kernel
theorem dX1_known_21 : decode cX1_known 21 = .ok (.aload_n 0, 1) := by decide +kernel
theorem dX1_known_22 : decode cX1_known 22 = .ok (.getfield 30, 3) := by decide +kernel
theorem dX1_known_25 : decode cX1_known 25 = .ok (.if_icmp .ge 10, 3) := by decide +kernel
theorem dX1_known_28 : decode cX1_known 28 = .ok (.aload_n 3, 1) := by decide +kernel
theorem dX1_known_29 : decode cX1_known 29 = .ok (.getfield 68, 3) := by decide +kernel
theorem dX1_known_32 : decode cX1_known 32 = .ok (.iload_n 2, 1) := by decide +kernel
theorem dX1_known_33 : decode cX1_known 33 = .ok (.iaload, 1) := by decide +kernel
theorem dX1_known_34 : decode cX1_known 34 = .ok (.ireturn, 1) := by decide +kernel
theorem dX1_known_35 : decode cX1_known 35 = .ok (.iload_n 2, 1) := by decide +kernel
theorem dX1_known_36 : decode cX1_known 36 = .ok (.bipush 10, 2) := by decide +kernel
theorem dX1_known_38 : decode cX1_known 38 = .ok (.if_icmp .lt 19, 3) := by decide +kernel
theorem dX1_known_41 : decode cX1_known 41 = .ok (.iload_n 2, 1) := by decide +kernel
theorem dX1_known_42 : decode cX1_known 42 = .ok (.bipush 18, 2) := by decide +kernel
theorem dX1_known_44 : decode cX1_known 44 = .ok (.if_icmp .ge 13, 3) := by decide +kernel
theorem dX1_known_47 : decode cX1_known 47 = .ok (.aload_n 3, 1) := by decide +kernel
theorem dX1_known_48 : decode cX1_known 48 = .ok (.getfield 120, 3) := by decide +kernel
theorem dX1_known_51 : decode cX1_known 51 = .ok (.iload_n 2, 1) := by decide +kernel
theorem dX1_known_52 : decode cX1_known 52 = .ok (.bipush 10, 2) := by decide +kernel
theorem dX1_known_54 : decode cX1_known 54 = .ok (.isub, 1) := by decide +kernel
theorem dX1_known_55 : decode cX1_known 55 = .ok (.iaload, 1) := by decide +kernel
theorem dX1_known_56 : decode cX1_known 56 = .ok (.ireturn, 1) := by decide +kernel
theorem dX1_known_57 : decode cX1_known 57 = .ok (.new 111, 3) := by decide +kernel
theorem dX1_known_60 : decode cX1_known 60 = .ok (.dup, 1) := by decide +kernel
theorem dX1_known_61 : decode cX1_known 61 = .ok (.ldc 177, 2) := by decide +kernel
theorem dX1_known_63 : decode cX1_known 63 = .ok (.invokespecial 115, 3) := by decide +kernel
theorem dX1_known_66 : decode cX1_known 66 = .ok (.athrow, 1) := by decide +kernel
theorem dX1_owner_0 : decode cX1_owner 0 = .ok (.iload_n 1, 1) := by decide +kernel
theorem dX1_owner_1 : decode cX1_owner 1 = .ok (.invokestatic 49, 3) := by decide +kernel
theorem dX1_owner_4 : decode cX1_owner 4 = .ok (.aload_n 0, 1) := by decide +kernel
theorem dX1_owner_5 : decode cX1_owner 5 = .ok (.iload_n 1, 1) := by decide +kernel
theorem dX1_owner_6 : decode cX1_owner 6 = .ok (.invokevirtual 179, 3) := by decide +kernel
theorem dX1_owner_9 : decode cX1_owner 9 = .ok (.ireturn, 1) := by decide +kernel
theorem dX1_ideal_0 : decode cX1_ideal 0 = .ok (.aload_n 0, 1) := by decide +kernel
theorem dX1_ideal_1 : decode cX1_ideal 1 = .ok (.getfield 53, 3) := by decide +kernel
theorem dX1_ideal_4 : decode cX1_ideal 4 = .ok (.ifCond .ne 5, 3) := by decide +kernel
theorem dX1_ideal_7 : decode cX1_ideal 7 = .ok (.iconst 0, 1) := by decide +kernel
theorem dX1_ideal_8 : decode cX1_ideal 8 = .ok (.ireturn, 1) := by decide +kernel
theorem dX1_ideal_9 : decode cX1_ideal 9 = .ok (.iconst 0, 1) := by decide +kernel
theorem dX1_ideal_10 : decode cX1_ideal 10 = .ok (.istore_n 1, 1) := by decide +kernel
theorem dX1_ideal_11 : decode cX1_ideal 11 = .ok (.iload_n 1, 1) := by decide +kernel
theorem dX1_ideal_12 : decode cX1_ideal 12 = .ok (.aload_n 0, 1) := by decide +kernel
theorem dX1_ideal_13 : decode cX1_ideal 13 = .ok (.getfield 41, 3) := by decide +kernel
theorem dX1_ideal_16 : decode cX1_ideal 16 = .ok (.if_icmp .ge 19, 3) := by decide +kernel
theorem dX1_ideal_19 : decode cX1_ideal 19 = .ok (.aload_n 0, 1) := by decide +kernel
theorem dX1_ideal_20 : decode cX1_ideal 20 = .ok (.iload_n 1, 1) := by decide +kernel
theorem dX1_ideal_21 : decode cX1_ideal 21 = .ok (.invokevirtual 182, 3) := by decide +kernel
theorem dX1_ideal_24 : decode cX1_ideal 24 = .ok (.ifCond .ne 5, 3) := by decide +kernel
theorem dX1_ideal_27 : decode cX1_ideal 27 = .ok (.iconst 0, 1) := by decide +kernel
theorem dX1_ideal_28 : decode cX1_ideal 28 = .ok (.ireturn, 1) := by decide +kernel
theorem dX1_ideal_29 : decode cX1_ideal 29 = .ok (.iinc 1 1, 3) := by decide +kernel
theorem dX1_ideal_32 : decode cX1_ideal 32 = .ok (.goto (-21), 3) := by decide +kernel
theorem dX1_ideal_35 : decode cX1_ideal 35 = .ok (.iconst 1, 1) := by decide +kernel
theorem dX1_ideal_36 : decode cX1_ideal 36 = .ok (.ireturn, 1) := by decide +kernel
theorem dX1_count_0 : decode cX1_count 0 = .ok (.iload_n 1, 1) := by decide +kernel
theorem dX1_count_1 : decode cX1_count 1 = .ok (.tableswitch 95 0 7 #[47, 52, 57, 62, 67, 72, 85, 90], 47) := by decide +kernel
theorem dX1_count_48 : decode cX1_count 48 = .ok (.aload_n 0, 1) := by decide +kernel
theorem dX1_count_49 : decode cX1_count 49 = .ok (.getfield 41, 3) := by decide +kernel
theorem dX1_count_52 : decode cX1_count 52 = .ok (.ireturn, 1) := by decide +kernel
theorem dX1_count_53 : decode cX1_count 53 = .ok (.aload_n 0, 1) := by decide +kernel
theorem dX1_count_54 : decode cX1_count 54 = .ok (.getfield 186, 3) := by decide +kernel
theorem dX1_count_57 : decode cX1_count 57 = .ok (.ireturn, 1) := by decide +kernel
theorem dX1_count_58 : decode cX1_count 58 = .ok (.aload_n 0, 1) := by decide +kernel
theorem dX1_count_59 : decode cX1_count 59 = .ok (.invokevirtual 189, 3) := by decide +kernel
theorem dX1_count_62 : decode cX1_count 62 = .ok (.ireturn, 1) := by decide +kernel
theorem dX1_count_63 : decode cX1_count 63 = .ok (.aload_n 0, 1) := by decide +kernel
theorem dX1_count_64 : decode cX1_count 64 = .ok (.invokevirtual 193, 3) := by decide +kernel
theorem dX1_count_67 : decode cX1_count 67 = .ok (.ireturn, 1) := by decide +kernel
theorem dX1_count_68 : decode cX1_count 68 = .ok (.aload_n 0, 1) := by decide +kernel
theorem dX1_count_69 : decode cX1_count 69 = .ok (.invokevirtual 196, 3) := by decide +kernel
theorem dX1_count_72 : decode cX1_count 72 = .ok (.ireturn, 1) := by decide +kernel
theorem dX1_count_73 : decode cX1_count 73 = .ok (.aload_n 0, 1) := by decide +kernel
theorem dX1_count_74 : decode cX1_count 74 = .ok (.getfield 53, 3) := by decide +kernel
theorem dX1_count_77 : decode cX1_count 77 = .ok (.ifCond .eq 7, 3) := by decide +kernel
theorem dX1_count_80 : decode cX1_count 80 = .ok (.iconst 1, 1) := by decide +kernel
theorem dX1_count_81 : decode cX1_count 81 = .ok (.goto 4, 3) := by decide +kernel
theorem dX1_count_84 : decode cX1_count 84 = .ok (.iconst 0, 1) := by decide +kernel
theorem dX1_count_85 : decode cX1_count 85 = .ok (.ireturn, 1) := by decide +kernel
theorem dX1_count_86 : decode cX1_count 86 = .ok (.aload_n 0, 1) := by decide +kernel
theorem dX1_count_87 : decode cX1_count 87 = .ok (.getfield 146, 3) := by decide +kernel
theorem dX1_count_90 : decode cX1_count 90 = .ok (.ireturn, 1) := by decide +kernel
theorem dX1_count_91 : decode cX1_count 91 = .ok (.aload_n 0, 1) := by decide +kernel
theorem dX1_count_92 : decode cX1_count 92 = .ok (.getfield 199, 3) := by decide +kernel
theorem dX1_count_95 : decode cX1_count 95 = .ok (.ireturn, 1) := by decide +kernel
theorem dX1_count_96 : decode cX1_count 96 = .ok (.new 34, 3) := by decide +kernel
theorem dX1_count_99 : decode cX1_count 99 = .ok (.dup, 1) := by decide +kernel
theorem dX1_count_100 : decode cX1_count 100 = .ok (.ldc 202, 2) := by decide +kernel
theorem dX1_count_102 : decode cX1_count 102 = .ok (.invokespecial 38, 3) := by decide +kernel
theorem dX1_count_105 : decode cX1_count 105 = .ok (.athrow, 1) := by decide +kernel
theorem dX1_find_0 : decode cX1_find 0 = .ok (.aload_n 0, 1) := by decide +kernel
theorem dX1_find_1 : decode cX1_find 1 = .ok (.getfield 53, 3) := by decide +kernel
theorem dX1_find_4 : decode cX1_find 4 = .ok (.ifCond .eq 11, 3) := by decide +kernel
theorem dX1_find_7 : decode cX1_find 7 = .ok (.aload_n 0, 1) := by decide +kernel
theorem dX1_find_8 : decode cX1_find 8 = .ok (.iload_n 1, 1) := by decide +kernel
theorem dX1_find_9 : decode cX1_find 9 = .ok (.invokevirtual 204, 3) := by decide +kernel
theorem dX1_find_12 : decode cX1_find 12 = .ok (.goto 4, 3) := by decide +kernel
theorem dX1_find_15 : decode cX1_find 15 = .ok (.aconst_null, 1) := by decide +kernel
theorem dX1_find_16 : decode cX1_find 16 = .ok (.astore_n 2, 1) := by decide +kernel
theorem dX1_find_17 : decode cX1_find 17 = .ok (.aload_n 2, 1) := by decide +kernel
theorem dX1_find_18 : decode cX1_find 18 = .ok (.ifnonnull 13, 3) := by decide +kernel
theorem dX1_find_21 : decode cX1_find 21 = .ok (.new 111, 3) := by decide +kernel
theorem dX1_find_24 : decode cX1_find 24 = .ok (.dup, 1) := by decide +kernel
theorem dX1_find_25 : decode cX1_find 25 = .ok (.ldc 207, 2) := by decide +kernel
theorem dX1_find_27 : decode cX1_find 27 = .ok (.invokespecial 115, 3) := by decide +kernel
theorem dX1_find_30 : decode cX1_find 30 = .ok (.athrow, 1) := by decide +kernel
theorem dX1_find_31 : decode cX1_find 31 = .ok (.aload_n 2, 1) := by decide +kernel
theorem dX1_find_32 : decode cX1_find 32 = .ok (.areturn, 1) := by decide +kernel
theorem dX1_requireKey_0 : decode cX1_requireKey 0 = .ok (.iload_n 0, 1) := by decide +kernel
theorem dX1_requireKey_1 : decode cX1_requireKey 1 = .ok (.ifCond .lt 9, 3) := by decide +kernel
theorem dX1_requireKey_4 : decode cX1_requireKey 4 = .ok (.iload_n 0, 1) := by decide +kernel
theorem dX1_requireKey_5 : decode cX1_requireKey 5 = .ok (.bipush 64, 2) := by decide +kernel
theorem dX1_requireKey_7 : decode cX1_requireKey 7 = .ok (.if_icmp .lt 13, 3) := by decide +kernel
theorem dX1_requireKey_10 : decode cX1_requireKey 10 = .ok (.new 111, 3) := by decide +kernel
theorem dX1_requireKey_13 : decode cX1_requireKey 13 = .ok (.dup, 1) := by decide +kernel
theorem dX1_requireKey_14 : decode cX1_requireKey 14 = .ok (.ldc 209, 2) := by decide +kernel
theorem dX1_requireKey_16 : decode cX1_requireKey 16 = .ok (.invokespecial 115, 3) := by decide +kernel
theorem dX1_requireKey_19 : decode cX1_requireKey 19 = .ok (.athrow, 1) := by decide +kernel
theorem dX1_requireKey_20 : decode cX1_requireKey 20 = .ok (.return_, 1) := by decide +kernel
theorem dX1_requirePoint_0 : decode cX1_requirePoint 0 = .ok (.iload_n 0, 1) := by decide +kernel
theorem dX1_requirePoint_1 : decode cX1_requirePoint 1 = .ok (.invokestatic 211, 3) := by decide +kernel
theorem dX1_requirePoint_4 : decode cX1_requirePoint 4 = .ok (.ifCond .ne 13, 3) := by decide +kernel
theorem dX1_requirePoint_7 : decode cX1_requirePoint 7 = .ok (.new 34, 3) := by decide +kernel
theorem dX1_requirePoint_10 : decode cX1_requirePoint 10 = .ok (.dup, 1) := by decide +kernel
theorem dX1_requirePoint_11 : decode cX1_requirePoint 11 = .ok (.ldc 214, 2) := by decide +kernel
theorem dX1_requirePoint_13 : decode cX1_requirePoint 13 = .ok (.invokespecial 38, 3) := by decide +kernel
theorem dX1_requirePoint_16 : decode cX1_requirePoint 16 = .ok (.athrow, 1) := by decide +kernel
theorem dX1_requirePoint_17 : decode cX1_requirePoint 17 = .ok (.return_, 1) := by decide +kernel
theorem dX1_requireRoomAt_0 : decode cX1_requireRoomAt 0 = .ok (.aload_n 0, 1) := by decide +kernel
theorem dX1_requireRoomAt_1 : decode cX1_requireRoomAt 1 = .ok (.getfield 19, 3) := by decide +kernel
theorem dX1_requireRoomAt_4 : decode cX1_requireRoomAt 4 = .ok (.iload_n 1, 1) := by decide +kernel
theorem dX1_requireRoomAt_5 : decode cX1_requireRoomAt 5 = .ok (.baload, 1) := by decide +kernel
theorem dX1_requireRoomAt_6 : decode cX1_requireRoomAt 6 = .ok (.ifCond .eq 13, 3) := by decide +kernel
theorem dX1_requireRoomAt_9 : decode cX1_requireRoomAt 9 = .ok (.new 44, 3) := by decide +kernel
theorem dX1_requireRoomAt_12 : decode cX1_requireRoomAt 12 = .ok (.dup, 1) := by decide +kernel
theorem dX1_requireRoomAt_13 : decode cX1_requireRoomAt 13 = .ok (.ldc 216, 2) := by decide +kernel
theorem dX1_requireRoomAt_15 : decode cX1_requireRoomAt 15 = .ok (.invokespecial 48, 3) := by decide +kernel
theorem dX1_requireRoomAt_18 : decode cX1_requireRoomAt 18 = .ok (.athrow, 1) := by decide +kernel
theorem dX1_requireRoomAt_19 : decode cX1_requireRoomAt 19 = .ok (.aload_n 0, 1) := by decide +kernel
theorem dX1_requireRoomAt_20 : decode cX1_requireRoomAt 20 = .ok (.getfield 41, 3) := by decide +kernel
theorem dX1_requireRoomAt_23 : decode cX1_requireRoomAt 23 = .ok (.bipush 20, 2) := by decide +kernel
theorem dX1_requireRoomAt_25 : decode cX1_requireRoomAt 25 = .ok (.if_icmp .lt 13, 3) := by decide +kernel
theorem dX1_requireRoomAt_28 : decode cX1_requireRoomAt 28 = .ok (.new 44, 3) := by decide +kernel
theorem dX1_requireRoomAt_31 : decode cX1_requireRoomAt 31 = .ok (.dup, 1) := by decide +kernel
theorem dX1_requireRoomAt_32 : decode cX1_requireRoomAt 32 = .ok (.ldc 218, 2) := by decide +kernel
theorem dX1_requireRoomAt_34 : decode cX1_requireRoomAt 34 = .ok (.invokespecial 48, 3) := by decide +kernel
theorem dX1_requireRoomAt_37 : decode cX1_requireRoomAt 37 = .ok (.athrow, 1) := by decide +kernel
theorem dX1_requireRoomAt_38 : decode cX1_requireRoomAt 38 = .ok (.return_, 1) := by decide +kernel
theorem dX1_isPoint_0 : decode cX1_isPoint 0 = .ok (.iload_n 0, 1) := by decide +kernel
theorem dX1_isPoint_1 : decode cX1_isPoint 1 = .ok (.ifCond .lt 14, 3) := by decide +kernel
theorem dX1_isPoint_4 : decode cX1_isPoint 4 = .ok (.iload_n 0, 1) := by decide +kernel
theorem dX1_isPoint_5 : decode cX1_isPoint 5 = .ok (.sipush 256, 3) := by decide +kernel
theorem dX1_isPoint_8 : decode cX1_isPoint 8 = .ok (.if_icmp .ge 7, 3) := by decide +kernel
theorem dX1_isPoint_11 : decode cX1_isPoint 11 = .ok (.iconst 1, 1) := by decide +kernel
theorem dX1_isPoint_12 : decode cX1_isPoint 12 = .ok (.goto 4, 3) := by decide +kernel
theorem dX1_isPoint_15 : decode cX1_isPoint 15 = .ok (.iconst 0, 1) := by decide +kernel
theorem dX1_isPoint_16 : decode cX1_isPoint 16 = .ok (.ireturn, 1) := by decide +kernel
theorem dX1_pointUp_0 : decode cX1_pointUp 0 = .ok (.iload_n 0, 1) := by decide +kernel
theorem dX1_pointUp_1 : decode cX1_pointUp 1 = .ok (.iload_n 1, 1) := by decide +kernel
theorem dX1_pointUp_2 : decode cX1_pointUp 2 = .ok (.iadd, 1) := by decide +kernel
theorem dX1_pointUp_3 : decode cX1_pointUp 3 = .ok (.sipush 255, 3) := by decide +kernel
theorem dX1_pointUp_6 : decode cX1_pointUp 6 = .ok (.iand, 1) := by decide +kernel
theorem dX1_pointUp_7 : decode cX1_pointUp 7 = .ok (.ireturn, 1) := by decide +kernel
theorem dX1_stepsUp_0 : decode cX1_stepsUp 0 = .ok (.iload_n 1, 1) := by decide +kernel
theorem dX1_stepsUp_1 : decode cX1_stepsUp 1 = .ok (.iload_n 0, 1) := by decide +kernel
theorem dX1_stepsUp_2 : decode cX1_stepsUp 2 = .ok (.isub, 1) := by decide +kernel
theorem dX1_stepsUp_3 : decode cX1_stepsUp 3 = .ok (.sipush 255, 3) := by decide +kernel
theorem dX1_stepsUp_6 : decode cX1_stepsUp 6 = .ok (.iand, 1) := by decide +kernel
theorem dX1_stepsUp_7 : decode cX1_stepsUp 7 = .ok (.ireturn, 1) := by decide +kernel
theorem dX1_isBetween_0 : decode cX1_isBetween 0 = .ok (.iload_n 0, 1) := by decide +kernel
theorem dX1_isBetween_1 : decode cX1_isBetween 1 = .ok (.iload_n 1, 1) := by decide +kernel
theorem dX1_isBetween_2 : decode cX1_isBetween 2 = .ok (.invokestatic 220, 3) := by decide +kernel
theorem dX1_isBetween_5 : decode cX1_isBetween 5 = .ok (.istore_n 3, 1) := by decide +kernel
theorem dX1_isBetween_6 : decode cX1_isBetween 6 = .ok (.iload_n 0, 1) := by decide +kernel
theorem dX1_isBetween_7 : decode cX1_isBetween 7 = .ok (.iload_n 2, 1) := by decide +kernel
theorem dX1_isBetween_8 : decode cX1_isBetween 8 = .ok (.invokestatic 220, 3) := by decide +kernel
theorem dX1_isBetween_11 : decode cX1_isBetween 11 = .ok (.istore 4, 2) := by decide +kernel
theorem dX1_isBetween_13 : decode cX1_isBetween 13 = .ok (.iload_n 3, 1) := by decide +kernel
theorem dX1_isBetween_14 : decode cX1_isBetween 14 = .ok (.ifCond .eq 18, 3) := by decide +kernel
theorem dX1_isBetween_17 : decode cX1_isBetween 17 = .ok (.iload 4, 2) := by decide +kernel
theorem dX1_isBetween_19 : decode cX1_isBetween 19 = .ok (.ifCond .eq 9, 3) := by decide +kernel
theorem dX1_isBetween_22 : decode cX1_isBetween 22 = .ok (.iload_n 3, 1) := by decide +kernel
theorem dX1_isBetween_23 : decode cX1_isBetween 23 = .ok (.iload 4, 2) := by decide +kernel
theorem dX1_isBetween_25 : decode cX1_isBetween 25 = .ok (.if_icmp .ge 7, 3) := by decide +kernel
theorem dX1_isBetween_28 : decode cX1_isBetween 28 = .ok (.iconst 1, 1) := by decide +kernel
theorem dX1_isBetween_29 : decode cX1_isBetween 29 = .ok (.goto 4, 3) := by decide +kernel
theorem dX1_isBetween_32 : decode cX1_isBetween 32 = .ok (.iconst 0, 1) := by decide +kernel
theorem dX1_isBetween_33 : decode cX1_isBetween 33 = .ok (.ireturn, 1) := by decide +kernel
theorem dX1_pointOfKey_0 : decode cX1_pointOfKey 0 = .ok (.iload_n 0, 1) := by decide +kernel
theorem dX1_pointOfKey_1 : decode cX1_pointOfKey 1 = .ok (.bipush 61, 2) := by decide +kernel
theorem dX1_pointOfKey_3 : decode cX1_pointOfKey 3 = .ok (.imul, 1) := by decide +kernel
theorem dX1_pointOfKey_4 : decode cX1_pointOfKey 4 = .ok (.bipush 17, 2) := by decide +kernel
theorem dX1_pointOfKey_6 : decode cX1_pointOfKey 6 = .ok (.invokestatic 224, 3) := by decide +kernel
theorem dX1_pointOfKey_9 : decode cX1_pointOfKey 9 = .ok (.ireturn, 1) := by decide +kernel
theorem dX1_liveAt_0 : decode cX1_liveAt 0 = .ok (.iload_n 1, 1) := by decide +kernel
theorem dX1_liveAt_1 : decode cX1_liveAt 1 = .ok (.invokestatic 211, 3) := by decide +kernel
theorem dX1_liveAt_4 : decode cX1_liveAt 4 = .ok (.ifCond .eq 12, 3) := by decide +kernel
theorem dX1_liveAt_7 : decode cX1_liveAt 7 = .ok (.aload_n 0, 1) := by decide +kernel
theorem dX1_liveAt_8 : decode cX1_liveAt 8 = .ok (.getfield 16, 3) := by decide +kernel
theorem dX1_liveAt_11 : decode cX1_liveAt 11 = .ok (.iload_n 1, 1) := by decide +kernel
theorem dX1_liveAt_12 : decode cX1_liveAt 12 = .ok (.aaload, 1) := by decide +kernel
theorem dX1_liveAt_13 : decode cX1_liveAt 13 = .ok (.goto 4, 3) := by decide +kernel
theorem dX1_liveAt_16 : decode cX1_liveAt 16 = .ok (.aconst_null, 1) := by decide +kernel
theorem dX1_liveAt_17 : decode cX1_liveAt 17 = .ok (.areturn, 1) := by decide +kernel
theorem dX1_livePointInTurn_0 : decode cX1_livePointInTurn 0 = .ok (.aload_n 0, 1) := by decide +kernel
theorem dX1_livePointInTurn_1 : decode cX1_livePointInTurn 1 = .ok (.getfield 41, 3) := by decide +kernel
theorem dX1_livePointInTurn_4 : decode cX1_livePointInTurn 4 = .ok (.ifCond .ne 7, 3) := by decide +kernel
theorem dX1_livePointInTurn_7 : decode cX1_livePointInTurn 7 = .ok (.iconst (-1), 1) := by decide +kernel
theorem dX1_livePointInTurn_8 : decode cX1_livePointInTurn 8 = .ok (.goto 19, 3) := by decide +kernel
theorem dX1_livePointInTurn_11 : decode cX1_livePointInTurn 11 = .ok (.aload_n 0, 1) := by decide +kernel
theorem dX1_livePointInTurn_12 : decode cX1_livePointInTurn 12 = .ok (.getfield 11, 3) := by decide +kernel
theorem dX1_livePointInTurn_15 : decode cX1_livePointInTurn 15 = .ok (.iload_n 1, 1) := by decide +kernel
theorem dX1_livePointInTurn_16 : decode cX1_livePointInTurn 16 = .ok (.aload_n 0, 1) := by decide +kernel
theorem dX1_livePointInTurn_17 : decode cX1_livePointInTurn 17 = .ok (.getfield 41, 3) := by decide +kernel
theorem dX1_livePointInTurn_20 : decode cX1_livePointInTurn 20 = .ok (.invokestatic 227, 3) := by decide +kernel
theorem dX1_livePointInTurn_23 : decode cX1_livePointInTurn 23 = .ok (.aaload, 1) := by decide +kernel
theorem dX1_livePointInTurn_24 : decode cX1_livePointInTurn 24 = .ok (.getfield 89, 3) := by decide +kernel
theorem dX1_livePointInTurn_27 : decode cX1_livePointInTurn 27 = .ok (.ireturn, 1) := by decide +kernel
theorem dX1_trueOwner_0 : decode cX1_trueOwner 0 = .ok (.iconst 0, 1) := by decide +kernel
theorem dX1_trueOwner_1 : decode cX1_trueOwner 1 = .ok (.istore_n 2, 1) := by decide +kernel
theorem dX1_trueOwner_2 : decode cX1_trueOwner 2 = .ok (.iload_n 2, 1) := by decide +kernel
theorem dX1_trueOwner_3 : decode cX1_trueOwner 3 = .ok (.aload_n 0, 1) := by decide +kernel
theorem dX1_trueOwner_4 : decode cX1_trueOwner 4 = .ok (.getfield 41, 3) := by decide +kernel
theorem dX1_trueOwner_7 : decode cX1_trueOwner 7 = .ok (.if_icmp .ge 32, 3) := by decide +kernel
theorem dX1_trueOwner_10 : decode cX1_trueOwner 10 = .ok (.aload_n 0, 1) := by decide +kernel
theorem dX1_trueOwner_11 : decode cX1_trueOwner 11 = .ok (.getfield 11, 3) := by decide +kernel
theorem dX1_trueOwner_14 : decode cX1_trueOwner 14 = .ok (.iload_n 2, 1) := by decide +kernel
theorem dX1_trueOwner_15 : decode cX1_trueOwner 15 = .ok (.aaload, 1) := by decide +kernel
theorem dX1_trueOwner_16 : decode cX1_trueOwner 16 = .ok (.getfield 89, 3) := by decide +kernel
theorem dX1_trueOwner_19 : decode cX1_trueOwner 19 = .ok (.iload_n 1, 1) := by decide +kernel
theorem dX1_trueOwner_20 : decode cX1_trueOwner 20 = .ok (.if_icmp .lt 13, 3) := by decide +kernel
theorem dX1_trueOwner_23 : decode cX1_trueOwner 23 = .ok (.aload_n 0, 1) := by decide +kernel
theorem dX1_trueOwner_24 : decode cX1_trueOwner 24 = .ok (.getfield 11, 3) := by decide +kernel
theorem dX1_trueOwner_27 : decode cX1_trueOwner 27 = .ok (.iload_n 2, 1) := by decide +kernel
theorem dX1_trueOwner_28 : decode cX1_trueOwner 28 = .ok (.aaload, 1) := by decide +kernel
theorem dX1_trueOwner_29 : decode cX1_trueOwner 29 = .ok (.getfield 89, 3) := by decide +kernel
theorem dX1_trueOwner_32 : decode cX1_trueOwner 32 = .ok (.ireturn, 1) := by decide +kernel
theorem dX1_trueOwner_33 : decode cX1_trueOwner 33 = .ok (.iinc 2 1, 3) := by decide +kernel
theorem dX1_trueOwner_36 : decode cX1_trueOwner 36 = .ok (.goto (-34), 3) := by decide +kernel
theorem dX1_trueOwner_39 : decode cX1_trueOwner 39 = .ok (.aload_n 0, 1) := by decide +kernel
theorem dX1_trueOwner_40 : decode cX1_trueOwner 40 = .ok (.iconst 0, 1) := by decide +kernel
theorem dX1_trueOwner_41 : decode cX1_trueOwner 41 = .ok (.invokevirtual 71, 3) := by decide +kernel
theorem dX1_trueOwner_44 : decode cX1_trueOwner 44 = .ok (.ireturn, 1) := by decide +kernel
theorem dX1_addMember_0 : decode cX1_addMember 0 = .ok (.aload_n 0, 1) := by decide +kernel
theorem dX1_addMember_1 : decode cX1_addMember 1 = .ok (.getfield 11, 3) := by decide +kernel
theorem dX1_addMember_4 : decode cX1_addMember 4 = .ok (.aload_n 0, 1) := by decide +kernel
theorem dX1_addMember_5 : decode cX1_addMember 5 = .ok (.getfield 41, 3) := by decide +kernel
theorem dX1_addMember_8 : decode cX1_addMember 8 = .ok (.aaload, 1) := by decide +kernel
theorem dX1_addMember_9 : decode cX1_addMember 9 = .ok (.astore_n 2, 1) := by decide +kernel
theorem dX1_addMember_10 : decode cX1_addMember 10 = .ok (.aload_n 0, 1) := by decide +kernel
theorem dX1_addMember_11 : decode cX1_addMember 11 = .ok (.getfield 41, 3) := by decide +kernel
theorem dX1_addMember_14 : decode cX1_addMember 14 = .ok (.istore_n 3, 1) := by decide +kernel
theorem dX1_addMember_15 : decode cX1_addMember 15 = .ok (.iload_n 3, 1) := by decide +kernel
theorem dX1_addMember_16 : decode cX1_addMember 16 = .ok (.ifCond .le 38, 3) := by decide +kernel
theorem dX1_addMember_19 : decode cX1_addMember 19 = .ok (.aload_n 0, 1) := by decide +kernel
theorem dX1_addMember_20 : decode cX1_addMember 20 = .ok (.getfield 11, 3) := by decide +kernel
theorem dX1_addMember_23 : decode cX1_addMember 23 = .ok (.iload_n 3, 1) := by decide +kernel
theorem dX1_addMember_24 : decode cX1_addMember 24 = .ok (.iconst 1, 1) := by decide +kernel
theorem dX1_addMember_25 : decode cX1_addMember 25 = .ok (.isub, 1) := by decide +kernel
theorem dX1_addMember_26 : decode cX1_addMember 26 = .ok (.aaload, 1) := by decide +kernel
theorem dX1_addMember_27 : decode cX1_addMember 27 = .ok (.getfield 89, 3) := by decide +kernel
theorem dX1_addMember_30 : decode cX1_addMember 30 = .ok (.iload_n 1, 1) := by decide +kernel
theorem dX1_addMember_31 : decode cX1_addMember 31 = .ok (.if_icmp .le 23, 3) := by decide +kernel
theorem dX1_addMember_34 : decode cX1_addMember 34 = .ok (.aload_n 0, 1) := by decide +kernel
theorem dX1_addMember_35 : decode cX1_addMember 35 = .ok (.getfield 11, 3) := by decide +kernel
theorem dX1_addMember_38 : decode cX1_addMember 38 = .ok (.iload_n 3, 1) := by decide +kernel
theorem dX1_addMember_39 : decode cX1_addMember 39 = .ok (.aload_n 0, 1) := by decide +kernel
theorem dX1_addMember_40 : decode cX1_addMember 40 = .ok (.getfield 11, 3) := by decide +kernel
theorem dX1_addMember_43 : decode cX1_addMember 43 = .ok (.iload_n 3, 1) := by decide +kernel
theorem dX1_addMember_44 : decode cX1_addMember 44 = .ok (.iconst 1, 1) := by decide +kernel
theorem dX1_addMember_45 : decode cX1_addMember 45 = .ok (.isub, 1) := by decide +kernel
theorem dX1_addMember_46 : decode cX1_addMember 46 = .ok (.aaload, 1) := by decide +kernel
theorem dX1_addMember_47 : decode cX1_addMember 47 = .ok (.aastore, 1) := by decide +kernel
theorem dX1_addMember_48 : decode cX1_addMember 48 = .ok (.iinc 3 (-1), 3) := by decide +kernel
theorem dX1_addMember_51 : decode cX1_addMember 51 = .ok (.goto (-36), 3) := by decide +kernel
theorem dX1_addMember_54 : decode cX1_addMember 54 = .ok (.aload_n 0, 1) := by decide +kernel
theorem dX1_addMember_55 : decode cX1_addMember 55 = .ok (.getfield 11, 3) := by decide +kernel
theorem dX1_addMember_58 : decode cX1_addMember 58 = .ok (.iload_n 3, 1) := by decide +kernel
theorem dX1_addMember_59 : decode cX1_addMember 59 = .ok (.aload_n 2, 1) := by decide +kernel
theorem dX1_addMember_60 : decode cX1_addMember 60 = .ok (.aastore, 1) := by decide +kernel
theorem dX1_addMember_61 : decode cX1_addMember 61 = .ok (.aload_n 2, 1) := by decide +kernel
theorem dX1_addMember_62 : decode cX1_addMember 62 = .ok (.iload_n 1, 1) := by decide +kernel
theorem dX1_addMember_63 : decode cX1_addMember 63 = .ok (.invokevirtual 232, 3) := by decide +kernel
theorem dX1_addMember_66 : decode cX1_addMember 66 = .ok (.aload_n 0, 1) := by decide +kernel
theorem dX1_addMember_67 : decode cX1_addMember 67 = .ok (.getfield 16, 3) := by decide +kernel
theorem dX1_addMember_70 : decode cX1_addMember 70 = .ok (.iload_n 1, 1) := by decide +kernel
theorem dX1_addMember_71 : decode cX1_addMember 71 = .ok (.aload_n 2, 1) := by decide +kernel
theorem dX1_addMember_72 : decode cX1_addMember 72 = .ok (.aastore, 1) := by decide +kernel
theorem dX1_addMember_73 : decode cX1_addMember 73 = .ok (.aload_n 0, 1) := by decide +kernel
theorem dX1_addMember_74 : decode cX1_addMember 74 = .ok (.getfield 19, 3) := by decide +kernel
theorem dX1_addMember_77 : decode cX1_addMember 77 = .ok (.iload_n 1, 1) := by decide +kernel
theorem dX1_addMember_78 : decode cX1_addMember 78 = .ok (.iconst 1, 1) := by decide +kernel
theorem dX1_addMember_79 : decode cX1_addMember 79 = .ok (.bastore, 1) := by decide +kernel
theorem dX1_addMember_80 : decode cX1_addMember 80 = .ok (.aload_n 0, 1) := by decide +kernel
theorem dX1_addMember_81 : decode cX1_addMember 81 = .ok (.dup, 1) := by decide +kernel
theorem dX1_addMember_82 : decode cX1_addMember 82 = .ok (.getfield 41, 3) := by decide +kernel
theorem dX1_addMember_85 : decode cX1_addMember 85 = .ok (.iconst 1, 1) := by decide +kernel
theorem dX1_addMember_86 : decode cX1_addMember 86 = .ok (.iadd, 1) := by decide +kernel
theorem dX1_addMember_87 : decode cX1_addMember 87 = .ok (.putfield 41, 3) := by decide +kernel
theorem dX1_addMember_90 : decode cX1_addMember 90 = .ok (.aload_n 2, 1) := by decide +kernel
theorem dX1_addMember_91 : decode cX1_addMember 91 = .ok (.areturn, 1) := by decide +kernel
theorem dX1_removeMember_0 : decode cX1_removeMember 0 = .ok (.iconst 0, 1) := by decide +kernel
theorem dX1_removeMember_1 : decode cX1_removeMember 1 = .ok (.istore_n 2, 1) := by decide +kernel
theorem dX1_removeMember_2 : decode cX1_removeMember 2 = .ok (.iload_n 2, 1) := by decide +kernel
theorem dX1_removeMember_3 : decode cX1_removeMember 3 = .ok (.aload_n 0, 1) := by decide +kernel
theorem dX1_removeMember_4 : decode cX1_removeMember 4 = .ok (.getfield 41, 3) := by decide +kernel
theorem dX1_removeMember_7 : decode cX1_removeMember 7 = .ok (.iconst 1, 1) := by decide +kernel
theorem dX1_removeMember_8 : decode cX1_removeMember 8 = .ok (.isub, 1) := by decide +kernel
theorem dX1_removeMember_9 : decode cX1_removeMember 9 = .ok (.if_icmp .ge 42, 3) := by decide +kernel
theorem dX1_removeMember_12 : decode cX1_removeMember 12 = .ok (.aload_n 0, 1) := by decide +kernel
theorem dX1_removeMember_13 : decode cX1_removeMember 13 = .ok (.getfield 11, 3) := by decide +kernel
theorem dX1_removeMember_16 : decode cX1_removeMember 16 = .ok (.iload_n 2, 1) := by decide +kernel
theorem dX1_removeMember_17 : decode cX1_removeMember 17 = .ok (.aaload, 1) := by decide +kernel
theorem dX1_removeMember_18 : decode cX1_removeMember 18 = .ok (.aload_n 1, 1) := by decide +kernel
theorem dX1_removeMember_19 : decode cX1_removeMember 19 = .ok (.if_acmp .ne 26, 3) := by decide +kernel
theorem dX1_removeMember_22 : decode cX1_removeMember 22 = .ok (.aload_n 0, 1) := by decide +kernel
theorem dX1_removeMember_23 : decode cX1_removeMember 23 = .ok (.getfield 11, 3) := by decide +kernel
theorem dX1_removeMember_26 : decode cX1_removeMember 26 = .ok (.iload_n 2, 1) := by decide +kernel
theorem dX1_removeMember_27 : decode cX1_removeMember 27 = .ok (.aload_n 0, 1) := by decide +kernel
theorem dX1_removeMember_28 : decode cX1_removeMember 28 = .ok (.getfield 11, 3) := by decide +kernel
theorem dX1_removeMember_31 : decode cX1_removeMember 31 = .ok (.iload_n 2, 1) := by decide +kernel
theorem dX1_removeMember_32 : decode cX1_removeMember 32 = .ok (.iconst 1, 1) := by decide +kernel
theorem dX1_removeMember_33 : decode cX1_removeMember 33 = .ok (.iadd, 1) := by decide +kernel
theorem dX1_removeMember_34 : decode cX1_removeMember 34 = .ok (.aaload, 1) := by decide +kernel
theorem dX1_removeMember_35 : decode cX1_removeMember 35 = .ok (.aastore, 1) := by decide +kernel
theorem dX1_removeMember_36 : decode cX1_removeMember 36 = .ok (.aload_n 0, 1) := by decide +kernel
theorem dX1_removeMember_37 : decode cX1_removeMember 37 = .ok (.getfield 11, 3) := by decide +kernel
theorem dX1_removeMember_40 : decode cX1_removeMember 40 = .ok (.iload_n 2, 1) := by decide +kernel
theorem dX1_removeMember_41 : decode cX1_removeMember 41 = .ok (.iconst 1, 1) := by decide +kernel
theorem dX1_removeMember_42 : decode cX1_removeMember 42 = .ok (.iadd, 1) := by decide +kernel
theorem dX1_removeMember_43 : decode cX1_removeMember 43 = .ok (.aload_n 1, 1) := by decide +kernel
theorem dX1_removeMember_44 : decode cX1_removeMember 44 = .ok (.aastore, 1) := by decide +kernel
theorem dX1_removeMember_45 : decode cX1_removeMember 45 = .ok (.iinc 2 1, 3) := by decide +kernel
theorem dX1_removeMember_48 : decode cX1_removeMember 48 = .ok (.goto (-46), 3) := by decide +kernel
theorem dX1_removeMember_51 : decode cX1_removeMember 51 = .ok (.aload_n 0, 1) := by decide +kernel
theorem dX1_removeMember_52 : decode cX1_removeMember 52 = .ok (.getfield 16, 3) := by decide +kernel
theorem dX1_removeMember_55 : decode cX1_removeMember 55 = .ok (.aload_n 1, 1) := by decide +kernel
theorem dX1_removeMember_56 : decode cX1_removeMember 56 = .ok (.getfield 89, 3) := by decide +kernel
theorem dX1_removeMember_59 : decode cX1_removeMember 59 = .ok (.aconst_null, 1) := by decide +kernel
theorem dX1_removeMember_60 : decode cX1_removeMember 60 = .ok (.aastore, 1) := by decide +kernel
theorem dX1_removeMember_61 : decode cX1_removeMember 61 = .ok (.aload_n 0, 1) := by decide +kernel
theorem dX1_removeMember_62 : decode cX1_removeMember 62 = .ok (.dup, 1) := by decide +kernel
theorem dX1_removeMember_63 : decode cX1_removeMember 63 = .ok (.getfield 41, 3) := by decide +kernel
theorem dX1_removeMember_66 : decode cX1_removeMember 66 = .ok (.iconst 1, 1) := by decide +kernel
theorem dX1_removeMember_67 : decode cX1_removeMember 67 = .ok (.isub, 1) := by decide +kernel
theorem dX1_removeMember_68 : decode cX1_removeMember 68 = .ok (.putfield 41, 3) := by decide +kernel
theorem dX1_removeMember_71 : decode cX1_removeMember 71 = .ok (.aload_n 0, 1) := by decide +kernel
theorem dX1_removeMember_72 : decode cX1_removeMember 72 = .ok (.dup, 1) := by decide +kernel
theorem dX1_removeMember_73 : decode cX1_removeMember 73 = .ok (.getfield 186, 3) := by decide +kernel
theorem dX1_removeMember_76 : decode cX1_removeMember 76 = .ok (.iconst 1, 1) := by decide +kernel
theorem dX1_removeMember_77 : decode cX1_removeMember 77 = .ok (.iadd, 1) := by decide +kernel
theorem dX1_removeMember_78 : decode cX1_removeMember 78 = .ok (.putfield 186, 3) := by decide +kernel
theorem dX1_removeMember_81 : decode cX1_removeMember 81 = .ok (.return_, 1) := by decide +kernel
theorem dX1_knowsLiveOneBeside_0 : decode cX1_knowsLiveOneBeside 0 = .ok (.iconst 0, 1) := by decide +kernel
theorem dX1_knowsLiveOneBeside_1 : decode cX1_knowsLiveOneBeside 1 = .ok (.istore_n 3, 1) := by decide +kernel
theorem dX1_knowsLiveOneBeside_2 : decode cX1_knowsLiveOneBeside 2 = .ok (.iload_n 3, 1) := by decide +kernel
theorem dX1_knowsLiveOneBeside_3 : decode cX1_knowsLiveOneBeside 3 = .ok (.aload_n 0, 1) := by decide +kernel
theorem dX1_knowsLiveOneBeside_4 : decode cX1_knowsLiveOneBeside 4 = .ok (.getfield 30, 3) := by decide +kernel
theorem dX1_knowsLiveOneBeside_7 : decode cX1_knowsLiveOneBeside 7 = .ok (.if_icmp .ge 40, 3) := by decide +kernel
theorem dX1_knowsLiveOneBeside_10 : decode cX1_knowsLiveOneBeside 10 = .ok (.aload_n 0, 1) := by decide +kernel
theorem dX1_knowsLiveOneBeside_11 : decode cX1_knowsLiveOneBeside 11 = .ok (.aload_n 1, 1) := by decide +kernel
theorem dX1_knowsLiveOneBeside_12 : decode cX1_knowsLiveOneBeside 12 = .ok (.getfield 68, 3) := by decide +kernel
theorem dX1_knowsLiveOneBeside_15 : decode cX1_knowsLiveOneBeside 15 = .ok (.iload_n 3, 1) := by decide +kernel
theorem dX1_knowsLiveOneBeside_16 : decode cX1_knowsLiveOneBeside 16 = .ok (.iaload, 1) := by decide +kernel
theorem dX1_knowsLiveOneBeside_17 : decode cX1_knowsLiveOneBeside 17 = .ok (.invokevirtual 204, 3) := by decide +kernel
theorem dX1_knowsLiveOneBeside_20 : decode cX1_knowsLiveOneBeside 20 = .ok (.astore 4, 2) := by decide +kernel
theorem dX1_knowsLiveOneBeside_22 : decode cX1_knowsLiveOneBeside 22 = .ok (.aload 4, 2) := by decide +kernel
theorem dX1_knowsLiveOneBeside_24 : decode cX1_knowsLiveOneBeside 24 = .ok (.ifnull 17, 3) := by decide +kernel
theorem dX1_knowsLiveOneBeside_27 : decode cX1_knowsLiveOneBeside 27 = .ok (.aload 4, 2) := by decide +kernel
theorem dX1_knowsLiveOneBeside_29 : decode cX1_knowsLiveOneBeside 29 = .ok (.aload_n 1, 1) := by decide +kernel
theorem dX1_knowsLiveOneBeside_30 : decode cX1_knowsLiveOneBeside 30 = .ok (.if_acmp .eq 11, 3) := by decide +kernel
theorem dX1_knowsLiveOneBeside_33 : decode cX1_knowsLiveOneBeside 33 = .ok (.aload 4, 2) := by decide +kernel
theorem dX1_knowsLiveOneBeside_35 : decode cX1_knowsLiveOneBeside 35 = .ok (.aload_n 2, 1) := by decide +kernel
theorem dX1_knowsLiveOneBeside_36 : decode cX1_knowsLiveOneBeside 36 = .ok (.if_acmp .eq 5, 3) := by decide +kernel
theorem dX1_knowsLiveOneBeside_39 : decode cX1_knowsLiveOneBeside 39 = .ok (.iconst 1, 1) := by decide +kernel
theorem dX1_knowsLiveOneBeside_40 : decode cX1_knowsLiveOneBeside 40 = .ok (.ireturn, 1) := by decide +kernel
theorem dX1_knowsLiveOneBeside_41 : decode cX1_knowsLiveOneBeside 41 = .ok (.iinc 3 1, 3) := by decide +kernel
theorem dX1_knowsLiveOneBeside_44 : decode cX1_knowsLiveOneBeside 44 = .ok (.goto (-42), 3) := by decide +kernel
theorem dX1_knowsLiveOneBeside_47 : decode cX1_knowsLiveOneBeside 47 = .ok (.iconst 0, 1) := by decide +kernel
theorem dX1_knowsLiveOneBeside_48 : decode cX1_knowsLiveOneBeside 48 = .ok (.ireturn, 1) := by decide +kernel
theorem dX1_successor_0 : decode cX1_successor 0 = .ok (.iconst 0, 1) := by decide +kernel
theorem dX1_successor_1 : decode cX1_successor 1 = .ok (.istore_n 2, 1) := by decide +kernel
theorem dX1_successor_2 : decode cX1_successor 2 = .ok (.iload_n 2, 1) := by decide +kernel
theorem dX1_successor_3 : decode cX1_successor 3 = .ok (.aload_n 0, 1) := by decide +kernel
theorem dX1_successor_4 : decode cX1_successor 4 = .ok (.getfield 30, 3) := by decide +kernel
theorem dX1_successor_7 : decode cX1_successor 7 = .ok (.if_icmp .ge 26, 3) := by decide +kernel
theorem dX1_successor_10 : decode cX1_successor 10 = .ok (.aload_n 0, 1) := by decide +kernel
theorem dX1_successor_11 : decode cX1_successor 11 = .ok (.aload_n 1, 1) := by decide +kernel
theorem dX1_successor_12 : decode cX1_successor 12 = .ok (.getfield 68, 3) := by decide +kernel
theorem dX1_successor_15 : decode cX1_successor 15 = .ok (.iload_n 2, 1) := by decide +kernel
theorem dX1_successor_16 : decode cX1_successor 16 = .ok (.iaload, 1) := by decide +kernel
theorem dX1_successor_17 : decode cX1_successor 17 = .ok (.invokevirtual 204, 3) := by decide +kernel
theorem dX1_successor_20 : decode cX1_successor 20 = .ok (.astore_n 3, 1) := by decide +kernel
theorem dX1_successor_21 : decode cX1_successor 21 = .ok (.aload_n 3, 1) := by decide +kernel
theorem dX1_successor_22 : decode cX1_successor 22 = .ok (.ifnull 5, 3) := by decide +kernel
theorem dX1_successor_25 : decode cX1_successor 25 = .ok (.aload_n 3, 1) := by decide +kernel
theorem dX1_successor_26 : decode cX1_successor 26 = .ok (.areturn, 1) := by decide +kernel
theorem dX1_successor_27 : decode cX1_successor 27 = .ok (.iinc 2 1, 3) := by decide +kernel
theorem dX1_successor_30 : decode cX1_successor 30 = .ok (.goto (-28), 3) := by decide +kernel
theorem dX1_successor_33 : decode cX1_successor 33 = .ok (.aconst_null, 1) := by decide +kernel
theorem dX1_successor_34 : decode cX1_successor 34 = .ok (.areturn, 1) := by decide +kernel
theorem dX1_lookFor_0 : decode cX1_lookFor 0 = .ok (.aload_n 1, 1) := by decide +kernel
theorem dX1_lookFor_1 : decode cX1_lookFor 1 = .ok (.astore_n 3, 1) := by decide +kernel
theorem dX1_lookFor_2 : decode cX1_lookFor 2 = .ok (.aload_n 0, 1) := by decide +kernel
theorem dX1_lookFor_3 : decode cX1_lookFor 3 = .ok (.iconst 0, 1) := by decide +kernel
theorem dX1_lookFor_4 : decode cX1_lookFor 4 = .ok (.putfield 143, 3) := by decide +kernel
theorem dX1_lookFor_7 : decode cX1_lookFor 7 = .ok (.iconst 0, 1) := by decide +kernel
theorem dX1_lookFor_8 : decode cX1_lookFor 8 = .ok (.istore 4, 2) := by decide +kernel
theorem dX1_lookFor_10 : decode cX1_lookFor 10 = .ok (.iload 4, 2) := by decide +kernel
theorem dX1_lookFor_12 : decode cX1_lookFor 12 = .ok (.bipush 20, 2) := by decide +kernel
theorem dX1_lookFor_14 : decode cX1_lookFor 14 = .ok (.if_icmp .ge 63, 3) := by decide +kernel
theorem dX1_lookFor_17 : decode cX1_lookFor 17 = .ok (.aload_n 0, 1) := by decide +kernel
theorem dX1_lookFor_18 : decode cX1_lookFor 18 = .ok (.aload_n 3, 1) := by decide +kernel
theorem dX1_lookFor_19 : decode cX1_lookFor 19 = .ok (.iload_n 2, 1) := by decide +kernel
theorem dX1_lookFor_20 : decode cX1_lookFor 20 = .ok (.invokevirtual 235, 3) := by decide +kernel
theorem dX1_lookFor_23 : decode cX1_lookFor 23 = .ok (.astore 5, 2) := by decide +kernel
theorem dX1_lookFor_25 : decode cX1_lookFor 25 = .ok (.aload 5, 2) := by decide +kernel
theorem dX1_lookFor_27 : decode cX1_lookFor 27 = .ok (.ifnull 6, 3) := by decide +kernel
theorem dX1_lookFor_30 : decode cX1_lookFor 30 = .ok (.aload 5, 2) := by decide +kernel
theorem dX1_lookFor_32 : decode cX1_lookFor 32 = .ok (.areturn, 1) := by decide +kernel
theorem dX1_lookFor_33 : decode cX1_lookFor 33 = .ok (.aload_n 0, 1) := by decide +kernel
theorem dX1_lookFor_34 : decode cX1_lookFor 34 = .ok (.aload_n 3, 1) := by decide +kernel
theorem dX1_lookFor_35 : decode cX1_lookFor 35 = .ok (.iload_n 2, 1) := by decide +kernel
theorem dX1_lookFor_36 : decode cX1_lookFor 36 = .ok (.invokevirtual 238, 3) := by decide +kernel
theorem dX1_lookFor_39 : decode cX1_lookFor 39 = .ok (.astore_n 3, 1) := by decide +kernel
theorem dX1_lookFor_40 : decode cX1_lookFor 40 = .ok (.aload_n 0, 1) := by decide +kernel
theorem dX1_lookFor_41 : decode cX1_lookFor 41 = .ok (.getfield 23, 3) := by decide +kernel
theorem dX1_lookFor_44 : decode cX1_lookFor 44 = .ok (.iload 4, 2) := by decide +kernel
theorem dX1_lookFor_46 : decode cX1_lookFor 46 = .ok (.aload_n 3, 1) := by decide +kernel
theorem dX1_lookFor_47 : decode cX1_lookFor 47 = .ok (.getfield 89, 3) := by decide +kernel
theorem dX1_lookFor_50 : decode cX1_lookFor 50 = .ok (.iastore, 1) := by decide +kernel
theorem dX1_lookFor_51 : decode cX1_lookFor 51 = .ok (.aload_n 0, 1) := by decide +kernel
theorem dX1_lookFor_52 : decode cX1_lookFor 52 = .ok (.dup, 1) := by decide +kernel
theorem dX1_lookFor_53 : decode cX1_lookFor 53 = .ok (.getfield 143, 3) := by decide +kernel
theorem dX1_lookFor_56 : decode cX1_lookFor 56 = .ok (.iconst 1, 1) := by decide +kernel
theorem dX1_lookFor_57 : decode cX1_lookFor 57 = .ok (.iadd, 1) := by decide +kernel
theorem dX1_lookFor_58 : decode cX1_lookFor 58 = .ok (.putfield 143, 3) := by decide +kernel
theorem dX1_lookFor_61 : decode cX1_lookFor 61 = .ok (.aload_n 0, 1) := by decide +kernel
theorem dX1_lookFor_62 : decode cX1_lookFor 62 = .ok (.dup, 1) := by decide +kernel
theorem dX1_lookFor_63 : decode cX1_lookFor 63 = .ok (.getfield 199, 3) := by decide +kernel
theorem dX1_lookFor_66 : decode cX1_lookFor 66 = .ok (.iconst 1, 1) := by decide +kernel
theorem dX1_lookFor_67 : decode cX1_lookFor 67 = .ok (.iadd, 1) := by decide +kernel
theorem dX1_lookFor_68 : decode cX1_lookFor 68 = .ok (.putfield 199, 3) := by decide +kernel
theorem dX1_lookFor_71 : decode cX1_lookFor 71 = .ok (.iinc 4 1, 3) := by decide +kernel
theorem dX1_lookFor_74 : decode cX1_lookFor 74 = .ok (.goto (-64), 3) := by decide +kernel
theorem dX1_lookFor_77 : decode cX1_lookFor 77 = .ok (.aload_n 3, 1) := by decide +kernel
theorem dX1_lookFor_78 : decode cX1_lookFor 78 = .ok (.areturn, 1) := by decide +kernel
theorem dX1_ownerKnownBy_0 : decode cX1_ownerKnownBy 0 = .ok (.iload_n 2, 1) := by decide +kernel
theorem dX1_ownerKnownBy_1 : decode cX1_ownerKnownBy 1 = .ok (.aload_n 1, 1) := by decide +kernel
theorem dX1_ownerKnownBy_2 : decode cX1_ownerKnownBy 2 = .ok (.getfield 89, 3) := by decide +kernel
theorem dX1_ownerKnownBy_5 : decode cX1_ownerKnownBy 5 = .ok (.if_icmp .ne 5, 3) := by decide +kernel
theorem dX1_ownerKnownBy_8 : decode cX1_ownerKnownBy 8 = .ok (.aload_n 1, 1) := by decide +kernel
theorem dX1_ownerKnownBy_9 : decode cX1_ownerKnownBy 9 = .ok (.areturn, 1) := by decide +kernel
theorem dX1_ownerKnownBy_10 : decode cX1_ownerKnownBy 10 = .ok (.aload_n 0, 1) := by decide +kernel
theorem dX1_ownerKnownBy_11 : decode cX1_ownerKnownBy 11 = .ok (.aload_n 1, 1) := by decide +kernel
theorem dX1_ownerKnownBy_12 : decode cX1_ownerKnownBy 12 = .ok (.invokevirtual 107, 3) := by decide +kernel
theorem dX1_ownerKnownBy_15 : decode cX1_ownerKnownBy 15 = .ok (.astore_n 3, 1) := by decide +kernel
theorem dX1_ownerKnownBy_16 : decode cX1_ownerKnownBy 16 = .ok (.aload_n 3, 1) := by decide +kernel
theorem dX1_ownerKnownBy_17 : decode cX1_ownerKnownBy 17 = .ok (.ifnull 28, 3) := by decide +kernel
theorem dX1_ownerKnownBy_20 : decode cX1_ownerKnownBy 20 = .ok (.iload_n 2, 1) := by decide +kernel
theorem dX1_ownerKnownBy_21 : decode cX1_ownerKnownBy 21 = .ok (.aload_n 3, 1) := by decide +kernel
theorem dX1_ownerKnownBy_22 : decode cX1_ownerKnownBy 22 = .ok (.getfield 89, 3) := by decide +kernel
theorem dX1_ownerKnownBy_25 : decode cX1_ownerKnownBy 25 = .ok (.if_icmp .eq 18, 3) := by decide +kernel
theorem dX1_ownerKnownBy_28 : decode cX1_ownerKnownBy 28 = .ok (.aload_n 1, 1) := by decide +kernel
theorem dX1_ownerKnownBy_29 : decode cX1_ownerKnownBy 29 = .ok (.getfield 89, 3) := by decide +kernel
theorem dX1_ownerKnownBy_32 : decode cX1_ownerKnownBy 32 = .ok (.iload_n 2, 1) := by decide +kernel
theorem dX1_ownerKnownBy_33 : decode cX1_ownerKnownBy 33 = .ok (.aload_n 3, 1) := by decide +kernel
theorem dX1_ownerKnownBy_34 : decode cX1_ownerKnownBy 34 = .ok (.getfield 89, 3) := by decide +kernel
theorem dX1_ownerKnownBy_37 : decode cX1_ownerKnownBy 37 = .ok (.invokestatic 241, 3) := by decide +kernel
theorem dX1_ownerKnownBy_40 : decode cX1_ownerKnownBy 40 = .ok (.ifCond .eq 5, 3) := by decide +kernel
theorem dX1_ownerKnownBy_43 : decode cX1_ownerKnownBy 43 = .ok (.aload_n 3, 1) := by decide +kernel
theorem dX1_ownerKnownBy_44 : decode cX1_ownerKnownBy 44 = .ok (.areturn, 1) := by decide +kernel
theorem dX1_ownerKnownBy_45 : decode cX1_ownerKnownBy 45 = .ok (.aconst_null, 1) := by decide +kernel
theorem dX1_ownerKnownBy_46 : decode cX1_ownerKnownBy 46 = .ok (.areturn, 1) := by decide +kernel
theorem dX1_lastKnownAheadOf_0 : decode cX1_lastKnownAheadOf 0 = .ok (.aload_n 1, 1) := by decide +kernel
theorem dX1_lastKnownAheadOf_1 : decode cX1_lastKnownAheadOf 1 = .ok (.astore_n 3, 1) := by decide +kernel
theorem dX1_lastKnownAheadOf_2 : decode cX1_lastKnownAheadOf 2 = .ok (.iconst 0, 1) := by decide +kernel
theorem dX1_lastKnownAheadOf_3 : decode cX1_lastKnownAheadOf 3 = .ok (.istore 4, 2) := by decide +kernel
theorem dX1_lastKnownAheadOf_5 : decode cX1_lastKnownAheadOf 5 = .ok (.iload 4, 2) := by decide +kernel
theorem dX1_lastKnownAheadOf_7 : decode cX1_lastKnownAheadOf 7 = .ok (.aload_n 0, 1) := by decide +kernel
theorem dX1_lastKnownAheadOf_8 : decode cX1_lastKnownAheadOf 8 = .ok (.getfield 30, 3) := by decide +kernel
theorem dX1_lastKnownAheadOf_11 : decode cX1_lastKnownAheadOf 11 = .ok (.bipush 8, 2) := by decide +kernel
theorem dX1_lastKnownAheadOf_13 : decode cX1_lastKnownAheadOf 13 = .ok (.iadd, 1) := by decide +kernel
theorem dX1_lastKnownAheadOf_14 : decode cX1_lastKnownAheadOf 14 = .ok (.if_icmp .ge 70, 3) := by decide +kernel
theorem dX1_lastKnownAheadOf_17 : decode cX1_lastKnownAheadOf 17 = .ok (.aload_n 0, 1) := by decide +kernel
theorem dX1_lastKnownAheadOf_18 : decode cX1_lastKnownAheadOf 18 = .ok (.iload 4, 2) := by decide +kernel
theorem dX1_lastKnownAheadOf_20 : decode cX1_lastKnownAheadOf 20 = .ok (.aload_n 0, 1) := by decide +kernel
theorem dX1_lastKnownAheadOf_21 : decode cX1_lastKnownAheadOf 21 = .ok (.getfield 30, 3) := by decide +kernel
theorem dX1_lastKnownAheadOf_24 : decode cX1_lastKnownAheadOf 24 = .ok (.if_icmp .ge 13, 3) := by decide +kernel
theorem dX1_lastKnownAheadOf_27 : decode cX1_lastKnownAheadOf 27 = .ok (.aload_n 1, 1) := by decide +kernel
theorem dX1_lastKnownAheadOf_28 : decode cX1_lastKnownAheadOf 28 = .ok (.getfield 68, 3) := by decide +kernel
theorem dX1_lastKnownAheadOf_31 : decode cX1_lastKnownAheadOf 31 = .ok (.iload 4, 2) := by decide +kernel
theorem dX1_lastKnownAheadOf_33 : decode cX1_lastKnownAheadOf 33 = .ok (.iaload, 1) := by decide +kernel
theorem dX1_lastKnownAheadOf_34 : decode cX1_lastKnownAheadOf 34 = .ok (.goto 15, 3) := by decide +kernel
theorem dX1_lastKnownAheadOf_37 : decode cX1_lastKnownAheadOf 37 = .ok (.aload_n 1, 1) := by decide +kernel
theorem dX1_lastKnownAheadOf_38 : decode cX1_lastKnownAheadOf 38 = .ok (.getfield 120, 3) := by decide +kernel
theorem dX1_lastKnownAheadOf_41 : decode cX1_lastKnownAheadOf 41 = .ok (.iload 4, 2) := by decide +kernel
theorem dX1_lastKnownAheadOf_43 : decode cX1_lastKnownAheadOf 43 = .ok (.aload_n 0, 1) := by decide +kernel
theorem dX1_lastKnownAheadOf_44 : decode cX1_lastKnownAheadOf 44 = .ok (.getfield 30, 3) := by decide +kernel
theorem dX1_lastKnownAheadOf_47 : decode cX1_lastKnownAheadOf 47 = .ok (.isub, 1) := by decide +kernel
theorem dX1_lastKnownAheadOf_48 : decode cX1_lastKnownAheadOf 48 = .ok (.iaload, 1) := by decide +kernel
theorem dX1_lastKnownAheadOf_49 : decode cX1_lastKnownAheadOf 49 = .ok (.invokevirtual 204, 3) := by decide +kernel
theorem dX1_lastKnownAheadOf_52 : decode cX1_lastKnownAheadOf 52 = .ok (.astore 5, 2) := by decide +kernel
theorem dX1_lastKnownAheadOf_54 : decode cX1_lastKnownAheadOf 54 = .ok (.aload 5, 2) := by decide +kernel
theorem dX1_lastKnownAheadOf_56 : decode cX1_lastKnownAheadOf 56 = .ok (.ifnull 22, 3) := by decide +kernel
theorem dX1_lastKnownAheadOf_59 : decode cX1_lastKnownAheadOf 59 = .ok (.aload_n 3, 1) := by decide +kernel
theorem dX1_lastKnownAheadOf_60 : decode cX1_lastKnownAheadOf 60 = .ok (.getfield 89, 3) := by decide +kernel
theorem dX1_lastKnownAheadOf_63 : decode cX1_lastKnownAheadOf 63 = .ok (.aload 5, 2) := by decide +kernel
theorem dX1_lastKnownAheadOf_65 : decode cX1_lastKnownAheadOf 65 = .ok (.getfield 89, 3) := by decide +kernel
theorem dX1_lastKnownAheadOf_68 : decode cX1_lastKnownAheadOf 68 = .ok (.iload_n 2, 1) := by decide +kernel
theorem dX1_lastKnownAheadOf_69 : decode cX1_lastKnownAheadOf 69 = .ok (.invokestatic 241, 3) := by decide +kernel
theorem dX1_lastKnownAheadOf_72 : decode cX1_lastKnownAheadOf 72 = .ok (.ifCond .eq 6, 3) := by decide +kernel
theorem dX1_lastKnownAheadOf_75 : decode cX1_lastKnownAheadOf 75 = .ok (.aload 5, 2) := by decide +kernel
theorem dX1_lastKnownAheadOf_77 : decode cX1_lastKnownAheadOf 77 = .ok (.astore_n 3, 1) := by decide +kernel
theorem dX1_lastKnownAheadOf_78 : decode cX1_lastKnownAheadOf 78 = .ok (.iinc 4 1, 3) := by decide +kernel
theorem dX1_lastKnownAheadOf_81 : decode cX1_lastKnownAheadOf 81 = .ok (.goto (-76), 3) := by decide +kernel
theorem dX1_lastKnownAheadOf_84 : decode cX1_lastKnownAheadOf 84 = .ok (.aload_n 3, 1) := by decide +kernel
theorem dX1_lastKnownAheadOf_85 : decode cX1_lastKnownAheadOf 85 = .ok (.areturn, 1) := by decide +kernel
theorem dX1_takeOver_0 : decode cX1_takeOver 0 = .ok (.aload_n 0, 1) := by decide +kernel
theorem dX1_takeOver_1 : decode cX1_takeOver 1 = .ok (.getfield 30, 3) := by decide +kernel
theorem dX1_takeOver_4 : decode cX1_takeOver 4 = .ok (.iconst 1, 1) := by decide +kernel
theorem dX1_takeOver_5 : decode cX1_takeOver 5 = .ok (.isub, 1) := by decide +kernel
theorem dX1_takeOver_6 : decode cX1_takeOver 6 = .ok (.istore_n 3, 1) := by decide +kernel
theorem dX1_takeOver_7 : decode cX1_takeOver 7 = .ok (.iload_n 3, 1) := by decide +kernel
theorem dX1_takeOver_8 : decode cX1_takeOver 8 = .ok (.ifCond .le 23, 3) := by decide +kernel
theorem dX1_takeOver_11 : decode cX1_takeOver 11 = .ok (.aload_n 1, 1) := by decide +kernel
theorem dX1_takeOver_12 : decode cX1_takeOver 12 = .ok (.getfield 68, 3) := by decide +kernel
theorem dX1_takeOver_15 : decode cX1_takeOver 15 = .ok (.iload_n 3, 1) := by decide +kernel
theorem dX1_takeOver_16 : decode cX1_takeOver 16 = .ok (.aload_n 2, 1) := by decide +kernel
theorem dX1_takeOver_17 : decode cX1_takeOver 17 = .ok (.getfield 68, 3) := by decide +kernel
theorem dX1_takeOver_20 : decode cX1_takeOver 20 = .ok (.iload_n 3, 1) := by decide +kernel
theorem dX1_takeOver_21 : decode cX1_takeOver 21 = .ok (.iconst 1, 1) := by decide +kernel
theorem dX1_takeOver_22 : decode cX1_takeOver 22 = .ok (.isub, 1) := by decide +kernel
theorem dX1_takeOver_23 : decode cX1_takeOver 23 = .ok (.iaload, 1) := by decide +kernel
theorem dX1_takeOver_24 : decode cX1_takeOver 24 = .ok (.iastore, 1) := by decide +kernel
theorem dX1_takeOver_25 : decode cX1_takeOver 25 = .ok (.iinc 3 (-1), 3) := by decide +kernel
theorem dX1_takeOver_28 : decode cX1_takeOver 28 = .ok (.goto (-21), 3) := by decide +kernel
theorem dX1_takeOver_31 : decode cX1_takeOver 31 = .ok (.aload_n 1, 1) := by decide +kernel
theorem dX1_takeOver_32 : decode cX1_takeOver 32 = .ok (.getfield 68, 3) := by decide +kernel
theorem dX1_takeOver_35 : decode cX1_takeOver 35 = .ok (.iconst 0, 1) := by decide +kernel
theorem dX1_takeOver_36 : decode cX1_takeOver 36 = .ok (.aload_n 2, 1) := by decide +kernel
theorem dX1_takeOver_37 : decode cX1_takeOver 37 = .ok (.getfield 89, 3) := by decide +kernel
theorem dX1_takeOver_40 : decode cX1_takeOver 40 = .ok (.iastore, 1) := by decide +kernel
theorem dX1_takeOver_41 : decode cX1_takeOver 41 = .ok (.return_, 1) := by decide +kernel
theorem dX1_stabiliseMember_0 : decode cX1_stabiliseMember 0 = .ok (.aload_n 0, 1) := by decide +kernel
theorem dX1_stabiliseMember_1 : decode cX1_stabiliseMember 1 = .ok (.aload_n 1, 1) := by decide +kernel
theorem dX1_stabiliseMember_2 : decode cX1_stabiliseMember 2 = .ok (.invokevirtual 107, 3) := by decide +kernel
theorem dX1_stabiliseMember_5 : decode cX1_stabiliseMember 5 = .ok (.astore_n 2, 1) := by decide +kernel
theorem dX1_stabiliseMember_6 : decode cX1_stabiliseMember 6 = .ok (.aload_n 2, 1) := by decide +kernel
theorem dX1_stabiliseMember_7 : decode cX1_stabiliseMember 7 = .ok (.ifnonnull 4, 3) := by decide +kernel
theorem dX1_stabiliseMember_10 : decode cX1_stabiliseMember 10 = .ok (.return_, 1) := by decide +kernel
theorem dX1_stabiliseMember_11 : decode cX1_stabiliseMember 11 = .ok (.aload_n 0, 1) := by decide +kernel
theorem dX1_stabiliseMember_12 : decode cX1_stabiliseMember 12 = .ok (.aload_n 1, 1) := by decide +kernel
theorem dX1_stabiliseMember_13 : decode cX1_stabiliseMember 13 = .ok (.aload_n 2, 1) := by decide +kernel
theorem dX1_stabiliseMember_14 : decode cX1_stabiliseMember 14 = .ok (.invokevirtual 85, 3) := by decide +kernel
theorem dX1_stabiliseMember_17 : decode cX1_stabiliseMember 17 = .ok (.aload_n 0, 1) := by decide +kernel
theorem dX1_stabiliseMember_18 : decode cX1_stabiliseMember 18 = .ok (.aload_n 2, 1) := by decide +kernel
theorem dX1_stabiliseMember_19 : decode cX1_stabiliseMember 19 = .ok (.getfield 75, 3) := by decide +kernel
theorem dX1_stabiliseMember_22 : decode cX1_stabiliseMember 22 = .ok (.invokevirtual 204, 3) := by decide +kernel
theorem dX1_stabiliseMember_25 : decode cX1_stabiliseMember 25 = .ok (.astore_n 3, 1) := by decide +kernel
theorem dX1_stabiliseMember_26 : decode cX1_stabiliseMember 26 = .ok (.aload_n 3, 1) := by decide +kernel
theorem dX1_stabiliseMember_27 : decode cX1_stabiliseMember 27 = .ok (.ifnull 27, 3) := by decide +kernel
theorem dX1_stabiliseMember_30 : decode cX1_stabiliseMember 30 = .ok (.aload_n 1, 1) := by decide +kernel
theorem dX1_stabiliseMember_31 : decode cX1_stabiliseMember 31 = .ok (.getfield 89, 3) := by decide +kernel
theorem dX1_stabiliseMember_34 : decode cX1_stabiliseMember 34 = .ok (.aload_n 3, 1) := by decide +kernel
theorem dX1_stabiliseMember_35 : decode cX1_stabiliseMember 35 = .ok (.getfield 89, 3) := by decide +kernel
theorem dX1_stabiliseMember_38 : decode cX1_stabiliseMember 38 = .ok (.aload_n 2, 1) := by decide +kernel
theorem dX1_stabiliseMember_39 : decode cX1_stabiliseMember 39 = .ok (.getfield 89, 3) := by decide +kernel
theorem dX1_stabiliseMember_42 : decode cX1_stabiliseMember 42 = .ok (.invokestatic 241, 3) := by decide +kernel
theorem dX1_stabiliseMember_45 : decode cX1_stabiliseMember 45 = .ok (.ifCond .eq 9, 3) := by decide +kernel
theorem dX1_stabiliseMember_48 : decode cX1_stabiliseMember 48 = .ok (.aload_n 0, 1) := by decide +kernel
theorem dX1_stabiliseMember_49 : decode cX1_stabiliseMember 49 = .ok (.aload_n 1, 1) := by decide +kernel
theorem dX1_stabiliseMember_50 : decode cX1_stabiliseMember 50 = .ok (.aload_n 3, 1) := by decide +kernel
theorem dX1_stabiliseMember_51 : decode cX1_stabiliseMember 51 = .ok (.invokevirtual 85, 3) := by decide +kernel
theorem dX1_stabiliseMember_54 : decode cX1_stabiliseMember 54 = .ok (.aload_n 0, 1) := by decide +kernel
theorem dX1_stabiliseMember_55 : decode cX1_stabiliseMember 55 = .ok (.aload_n 0, 1) := by decide +kernel
theorem dX1_stabiliseMember_56 : decode cX1_stabiliseMember 56 = .ok (.aload_n 1, 1) := by decide +kernel
theorem dX1_stabiliseMember_57 : decode cX1_stabiliseMember 57 = .ok (.invokevirtual 107, 3) := by decide +kernel
theorem dX1_stabiliseMember_60 : decode cX1_stabiliseMember 60 = .ok (.aload_n 1, 1) := by decide +kernel
theorem dX1_stabiliseMember_61 : decode cX1_stabiliseMember 61 = .ok (.invokevirtual 245, 3) := by decide +kernel
theorem dX1_stabiliseMember_64 : decode cX1_stabiliseMember 64 = .ok (.return_, 1) := by decide +kernel
theorem dX1_tell_0 : decode cX1_tell 0 = .ok (.aload_n 1, 1) := by decide +kernel
theorem dX1_tell_1 : decode cX1_tell 1 = .ok (.ifnull 8, 3) := by decide +kernel
theorem dX1_tell_4 : decode cX1_tell 4 = .ok (.aload_n 1, 1) := by decide +kernel
theorem dX1_tell_5 : decode cX1_tell 5 = .ok (.aload_n 2, 1) := by decide +kernel
theorem dX1_tell_6 : decode cX1_tell 6 = .ok (.if_acmp .ne 4, 3) := by decide +kernel
theorem dX1_tell_9 : decode cX1_tell 9 = .ok (.return_, 1) := by decide +kernel
theorem dX1_tell_10 : decode cX1_tell 10 = .ok (.aload_n 0, 1) := by decide +kernel
theorem dX1_tell_11 : decode cX1_tell 11 = .ok (.aload_n 1, 1) := by decide +kernel
theorem dX1_tell_12 : decode cX1_tell 12 = .ok (.getfield 75, 3) := by decide +kernel
theorem dX1_tell_15 : decode cX1_tell 15 = .ok (.invokevirtual 204, 3) := by decide +kernel
theorem dX1_tell_18 : decode cX1_tell 18 = .ok (.astore_n 3, 1) := by decide +kernel
theorem dX1_tell_19 : decode cX1_tell 19 = .ok (.aload_n 3, 1) := by decide +kernel
theorem dX1_tell_20 : decode cX1_tell 20 = .ok (.ifnull 21, 3) := by decide +kernel
theorem dX1_tell_23 : decode cX1_tell 23 = .ok (.aload_n 3, 1) := by decide +kernel
theorem dX1_tell_24 : decode cX1_tell 24 = .ok (.getfield 89, 3) := by decide +kernel
theorem dX1_tell_27 : decode cX1_tell 27 = .ok (.aload_n 2, 1) := by decide +kernel
theorem dX1_tell_28 : decode cX1_tell 28 = .ok (.getfield 89, 3) := by decide +kernel
theorem dX1_tell_31 : decode cX1_tell 31 = .ok (.aload_n 1, 1) := by decide +kernel
theorem dX1_tell_32 : decode cX1_tell 32 = .ok (.getfield 89, 3) := by decide +kernel
theorem dX1_tell_35 : decode cX1_tell 35 = .ok (.invokestatic 241, 3) := by decide +kernel
theorem dX1_tell_38 : decode cX1_tell 38 = .ok (.ifCond .eq 11, 3) := by decide +kernel
theorem dX1_tell_41 : decode cX1_tell 41 = .ok (.aload_n 1, 1) := by decide +kernel
theorem dX1_tell_42 : decode cX1_tell 42 = .ok (.aload_n 2, 1) := by decide +kernel
theorem dX1_tell_43 : decode cX1_tell 43 = .ok (.getfield 89, 3) := by decide +kernel
theorem dX1_tell_46 : decode cX1_tell 46 = .ok (.putfield 75, 3) := by decide +kernel
theorem dX1_tell_49 : decode cX1_tell 49 = .ok (.return_, 1) := by decide +kernel
theorem dX1_mendFinger_0 : decode cX1_mendFinger 0 = .ok (.aload_n 1, 1) := by decide +kernel
theorem dX1_mendFinger_1 : decode cX1_mendFinger 1 = .ok (.getfield 120, 3) := by decide +kernel
theorem dX1_mendFinger_4 : decode cX1_mendFinger 4 = .ok (.iload_n 2, 1) := by decide +kernel
theorem dX1_mendFinger_5 : decode cX1_mendFinger 5 = .ok (.aload_n 0, 1) := by decide +kernel
theorem dX1_mendFinger_6 : decode cX1_mendFinger 6 = .ok (.aload_n 1, 1) := by decide +kernel
theorem dX1_mendFinger_7 : decode cX1_mendFinger 7 = .ok (.aload_n 1, 1) := by decide +kernel
theorem dX1_mendFinger_8 : decode cX1_mendFinger 8 = .ok (.getfield 89, 3) := by decide +kernel
theorem dX1_mendFinger_11 : decode cX1_mendFinger 11 = .ok (.iconst 1, 1) := by decide +kernel
theorem dX1_mendFinger_12 : decode cX1_mendFinger 12 = .ok (.iload_n 2, 1) := by decide +kernel
theorem dX1_mendFinger_13 : decode cX1_mendFinger 13 = .ok (.ishl, 1) := by decide +kernel
theorem dX1_mendFinger_14 : decode cX1_mendFinger 14 = .ok (.invokestatic 224, 3) := by decide +kernel
theorem dX1_mendFinger_17 : decode cX1_mendFinger 17 = .ok (.invokevirtual 81, 3) := by decide +kernel
theorem dX1_mendFinger_20 : decode cX1_mendFinger 20 = .ok (.getfield 89, 3) := by decide +kernel
theorem dX1_mendFinger_23 : decode cX1_mendFinger 23 = .ok (.iastore, 1) := by decide +kernel
theorem dX1_mendFinger_24 : decode cX1_mendFinger 24 = .ok (.return_, 1) := by decide +kernel
theorem dX1_takeTurn_0 : decode cX1_takeTurn 0 = .ok (.aload_n 0, 1) := by decide +kernel
theorem dX1_takeTurn_1 : decode cX1_takeTurn 1 = .ok (.aload_n 1, 1) := by decide +kernel
theorem dX1_takeTurn_2 : decode cX1_takeTurn 2 = .ok (.invokevirtual 104, 3) := by decide +kernel
theorem dX1_takeTurn_5 : decode cX1_takeTurn 5 = .ok (.aload_n 0, 1) := by decide +kernel
theorem dX1_takeTurn_6 : decode cX1_takeTurn 6 = .ok (.aload_n 1, 1) := by decide +kernel
theorem dX1_takeTurn_7 : decode cX1_takeTurn 7 = .ok (.aload_n 1, 1) := by decide +kernel
theorem dX1_takeTurn_8 : decode cX1_takeTurn 8 = .ok (.getfield 248, 3) := by decide +kernel
theorem dX1_takeTurn_11 : decode cX1_takeTurn 11 = .ok (.invokevirtual 116, 3) := by decide +kernel
theorem dX1_takeTurn_14 : decode cX1_takeTurn 14 = .ok (.aload_n 1, 1) := by decide +kernel
theorem dX1_takeTurn_15 : decode cX1_takeTurn 15 = .ok (.aload_n 1, 1) := by decide +kernel
theorem dX1_takeTurn_16 : decode cX1_takeTurn 16 = .ok (.getfield 248, 3) := by decide +kernel
theorem dX1_takeTurn_19 : decode cX1_takeTurn 19 = .ok (.iconst 1, 1) := by decide +kernel
theorem dX1_takeTurn_20 : decode cX1_takeTurn 20 = .ok (.iadd, 1) := by decide +kernel
theorem dX1_takeTurn_21 : decode cX1_takeTurn 21 = .ok (.bipush 8, 2) := by decide +kernel
theorem dX1_takeTurn_23 : decode cX1_takeTurn 23 = .ok (.irem, 1) := by decide +kernel
theorem dX1_takeTurn_24 : decode cX1_takeTurn 24 = .ok (.putfield 248, 3) := by decide +kernel
theorem dX1_takeTurn_27 : decode cX1_takeTurn 27 = .ok (.aload_n 0, 1) := by decide +kernel
theorem dX1_takeTurn_28 : decode cX1_takeTurn 28 = .ok (.aload_n 1, 1) := by decide +kernel
theorem dX1_takeTurn_29 : decode cX1_takeTurn 29 = .ok (.invokevirtual 123, 3) := by decide +kernel
theorem dX1_takeTurn_32 : decode cX1_takeTurn 32 = .ok (.aload_n 0, 1) := by decide +kernel
theorem dX1_takeTurn_33 : decode cX1_takeTurn 33 = .ok (.aload_n 1, 1) := by decide +kernel
theorem dX1_takeTurn_34 : decode cX1_takeTurn 34 = .ok (.invokevirtual 127, 3) := by decide +kernel
theorem dX1_takeTurn_37 : decode cX1_takeTurn 37 = .ok (.iadd, 1) := by decide +kernel
theorem dX1_takeTurn_38 : decode cX1_takeTurn 38 = .ok (.ireturn, 1) := by decide +kernel
theorem dX1_takeFromSuccessor_0 : decode cX1_takeFromSuccessor 0 = .ok (.aload_n 0, 1) := by decide +kernel
theorem dX1_takeFromSuccessor_1 : decode cX1_takeFromSuccessor 1 = .ok (.aload_n 1, 1) := by decide +kernel
theorem dX1_takeFromSuccessor_2 : decode cX1_takeFromSuccessor 2 = .ok (.getfield 75, 3) := by decide +kernel
theorem dX1_takeFromSuccessor_5 : decode cX1_takeFromSuccessor 5 = .ok (.invokevirtual 204, 3) := by decide +kernel
theorem dX1_takeFromSuccessor_8 : decode cX1_takeFromSuccessor 8 = .ok (.astore_n 2, 1) := by decide +kernel
theorem dX1_takeFromSuccessor_9 : decode cX1_takeFromSuccessor 9 = .ok (.aload_n 0, 1) := by decide +kernel
theorem dX1_takeFromSuccessor_10 : decode cX1_takeFromSuccessor 10 = .ok (.aload_n 1, 1) := by decide +kernel
theorem dX1_takeFromSuccessor_11 : decode cX1_takeFromSuccessor 11 = .ok (.invokevirtual 107, 3) := by decide +kernel
theorem dX1_takeFromSuccessor_14 : decode cX1_takeFromSuccessor 14 = .ok (.astore_n 3, 1) := by decide +kernel
theorem dX1_takeFromSuccessor_15 : decode cX1_takeFromSuccessor 15 = .ok (.aload_n 2, 1) := by decide +kernel
theorem dX1_takeFromSuccessor_16 : decode cX1_takeFromSuccessor 16 = .ok (.ifnull 12, 3) := by decide +kernel
theorem dX1_takeFromSuccessor_19 : decode cX1_takeFromSuccessor 19 = .ok (.aload_n 3, 1) := by decide +kernel
theorem dX1_takeFromSuccessor_20 : decode cX1_takeFromSuccessor 20 = .ok (.ifnull 8, 3) := by decide +kernel
theorem dX1_takeFromSuccessor_23 : decode cX1_takeFromSuccessor 23 = .ok (.aload_n 3, 1) := by decide +kernel
theorem dX1_takeFromSuccessor_24 : decode cX1_takeFromSuccessor 24 = .ok (.aload_n 1, 1) := by decide +kernel
theorem dX1_takeFromSuccessor_25 : decode cX1_takeFromSuccessor 25 = .ok (.if_acmp .ne 5, 3) := by decide +kernel
theorem dX1_takeFromSuccessor_28 : decode cX1_takeFromSuccessor 28 = .ok (.iconst 0, 1) := by decide +kernel
theorem dX1_takeFromSuccessor_29 : decode cX1_takeFromSuccessor 29 = .ok (.ireturn, 1) := by decide +kernel
theorem dX1_takeFromSuccessor_30 : decode cX1_takeFromSuccessor 30 = .ok (.iconst 0, 1) := by decide +kernel
theorem dX1_takeFromSuccessor_31 : decode cX1_takeFromSuccessor 31 = .ok (.istore 4, 2) := by decide +kernel
theorem dX1_takeFromSuccessor_33 : decode cX1_takeFromSuccessor 33 = .ok (.iconst 0, 1) := by decide +kernel
theorem dX1_takeFromSuccessor_34 : decode cX1_takeFromSuccessor 34 = .ok (.istore 5, 2) := by decide +kernel
theorem dX1_takeFromSuccessor_36 : decode cX1_takeFromSuccessor 36 = .ok (.iload 5, 2) := by decide +kernel
theorem dX1_takeFromSuccessor_38 : decode cX1_takeFromSuccessor 38 = .ok (.bipush 64, 2) := by decide +kernel
theorem dX1_takeFromSuccessor_40 : decode cX1_takeFromSuccessor 40 = .ok (.if_icmp .ge 32, 3) := by decide +kernel
theorem dX1_takeFromSuccessor_43 : decode cX1_takeFromSuccessor 43 = .ok (.aload_n 1, 1) := by decide +kernel
theorem dX1_takeFromSuccessor_44 : decode cX1_takeFromSuccessor 44 = .ok (.aload_n 2, 1) := by decide +kernel
theorem dX1_takeFromSuccessor_45 : decode cX1_takeFromSuccessor 45 = .ok (.iload 5, 2) := by decide +kernel
theorem dX1_takeFromSuccessor_47 : decode cX1_takeFromSuccessor 47 = .ok (.invokestatic 251, 3) := by decide +kernel
theorem dX1_takeFromSuccessor_50 : decode cX1_takeFromSuccessor 50 = .ok (.ifCond .eq 16, 3) := by decide +kernel
theorem dX1_takeFromSuccessor_53 : decode cX1_takeFromSuccessor 53 = .ok (.aload_n 3, 1) := by decide +kernel
theorem dX1_takeFromSuccessor_54 : decode cX1_takeFromSuccessor 54 = .ok (.aload_n 1, 1) := by decide +kernel
theorem dX1_takeFromSuccessor_55 : decode cX1_takeFromSuccessor 55 = .ok (.iload 5, 2) := by decide +kernel
theorem dX1_takeFromSuccessor_57 : decode cX1_takeFromSuccessor 57 = .ok (.invokestatic 255, 3) := by decide +kernel
theorem dX1_takeFromSuccessor_60 : decode cX1_takeFromSuccessor 60 = .ok (.ifCond .eq 6, 3) := by decide +kernel
theorem dX1_takeFromSuccessor_63 : decode cX1_takeFromSuccessor 63 = .ok (.iinc 4 1, 3) := by decide +kernel
theorem dX1_takeFromSuccessor_66 : decode cX1_takeFromSuccessor 66 = .ok (.iinc 5 1, 3) := by decide +kernel
theorem dX1_takeFromSuccessor_69 : decode cX1_takeFromSuccessor 69 = .ok (.goto (-33), 3) := by decide +kernel
theorem dX1_takeFromSuccessor_72 : decode cX1_takeFromSuccessor 72 = .ok (.iload 4, 2) := by decide +kernel
theorem dX1_takeFromSuccessor_74 : decode cX1_takeFromSuccessor 74 = .ok (.ireturn, 1) := by decide +kernel
theorem dX1_spreadFrom_0 : decode cX1_spreadFrom 0 = .ok (.aload_n 0, 1) := by decide +kernel
theorem dX1_spreadFrom_1 : decode cX1_spreadFrom 1 = .ok (.aload_n 1, 1) := by decide +kernel
theorem dX1_spreadFrom_2 : decode cX1_spreadFrom 2 = .ok (.getfield 75, 3) := by decide +kernel
theorem dX1_spreadFrom_5 : decode cX1_spreadFrom 5 = .ok (.invokevirtual 204, 3) := by decide +kernel
theorem dX1_spreadFrom_8 : decode cX1_spreadFrom 8 = .ok (.astore_n 2, 1) := by decide +kernel
theorem dX1_spreadFrom_9 : decode cX1_spreadFrom 9 = .ok (.aload_n 2, 1) := by decide +kernel
theorem dX1_spreadFrom_10 : decode cX1_spreadFrom 10 = .ok (.ifnonnull 5, 3) := by decide +kernel
theorem dX1_spreadFrom_13 : decode cX1_spreadFrom 13 = .ok (.iconst 0, 1) := by decide +kernel
theorem dX1_spreadFrom_14 : decode cX1_spreadFrom 14 = .ok (.ireturn, 1) := by decide +kernel
theorem dX1_spreadFrom_15 : decode cX1_spreadFrom 15 = .ok (.iconst 0, 1) := by decide +kernel
theorem dX1_spreadFrom_16 : decode cX1_spreadFrom 16 = .ok (.istore_n 3, 1) := by decide +kernel
theorem dX1_spreadFrom_17 : decode cX1_spreadFrom 17 = .ok (.iconst 0, 1) := by decide +kernel
theorem dX1_spreadFrom_18 : decode cX1_spreadFrom 18 = .ok (.istore 4, 2) := by decide +kernel
theorem dX1_spreadFrom_20 : decode cX1_spreadFrom 20 = .ok (.iload 4, 2) := by decide +kernel
theorem dX1_spreadFrom_22 : decode cX1_spreadFrom 22 = .ok (.bipush 64, 2) := by decide +kernel
theorem dX1_spreadFrom_24 : decode cX1_spreadFrom 24 = .ok (.if_icmp .ge 29, 3) := by decide +kernel
theorem dX1_spreadFrom_27 : decode cX1_spreadFrom 27 = .ok (.aload_n 1, 1) := by decide +kernel
theorem dX1_spreadFrom_28 : decode cX1_spreadFrom 28 = .ok (.aload_n 2, 1) := by decide +kernel
theorem dX1_spreadFrom_29 : decode cX1_spreadFrom 29 = .ok (.iload 4, 2) := by decide +kernel
theorem dX1_spreadFrom_31 : decode cX1_spreadFrom 31 = .ok (.invokestatic 251, 3) := by decide +kernel
theorem dX1_spreadFrom_34 : decode cX1_spreadFrom 34 = .ok (.ifCond .eq 13, 3) := by decide +kernel
theorem dX1_spreadFrom_37 : decode cX1_spreadFrom 37 = .ok (.iload_n 3, 1) := by decide +kernel
theorem dX1_spreadFrom_38 : decode cX1_spreadFrom 38 = .ok (.aload_n 0, 1) := by decide +kernel
theorem dX1_spreadFrom_39 : decode cX1_spreadFrom 39 = .ok (.aload_n 1, 1) := by decide +kernel
theorem dX1_spreadFrom_40 : decode cX1_spreadFrom 40 = .ok (.iload 4, 2) := by decide +kernel
theorem dX1_spreadFrom_42 : decode cX1_spreadFrom 42 = .ok (.invokevirtual 168, 3) := by decide +kernel
theorem dX1_spreadFrom_45 : decode cX1_spreadFrom 45 = .ok (.iadd, 1) := by decide +kernel
theorem dX1_spreadFrom_46 : decode cX1_spreadFrom 46 = .ok (.istore_n 3, 1) := by decide +kernel
theorem dX1_spreadFrom_47 : decode cX1_spreadFrom 47 = .ok (.iinc 4 1, 3) := by decide +kernel
theorem dX1_spreadFrom_50 : decode cX1_spreadFrom 50 = .ok (.goto (-30), 3) := by decide +kernel
theorem dX1_spreadFrom_53 : decode cX1_spreadFrom 53 = .ok (.iload_n 3, 1) := by decide +kernel
theorem dX1_spreadFrom_54 : decode cX1_spreadFrom 54 = .ok (.ireturn, 1) := by decide +kernel
theorem dX1_isInCare_0 : decode cX1_isInCare 0 = .ok (.iload_n 2, 1) := by decide +kernel
theorem dX1_isInCare_1 : decode cX1_isInCare 1 = .ok (.invokestatic 156, 3) := by decide +kernel
theorem dX1_isInCare_4 : decode cX1_isInCare 4 = .ok (.istore_n 3, 1) := by decide +kernel
theorem dX1_isInCare_5 : decode cX1_isInCare 5 = .ok (.iload_n 3, 1) := by decide +kernel
theorem dX1_isInCare_6 : decode cX1_isInCare 6 = .ok (.aload_n 0, 1) := by decide +kernel
theorem dX1_isInCare_7 : decode cX1_isInCare 7 = .ok (.getfield 89, 3) := by decide +kernel
theorem dX1_isInCare_10 : decode cX1_isInCare 10 = .ok (.if_icmp .eq 18, 3) := by decide +kernel
theorem dX1_isInCare_13 : decode cX1_isInCare 13 = .ok (.aload_n 1, 1) := by decide +kernel
theorem dX1_isInCare_14 : decode cX1_isInCare 14 = .ok (.getfield 89, 3) := by decide +kernel
theorem dX1_isInCare_17 : decode cX1_isInCare 17 = .ok (.iload_n 3, 1) := by decide +kernel
theorem dX1_isInCare_18 : decode cX1_isInCare 18 = .ok (.aload_n 0, 1) := by decide +kernel
theorem dX1_isInCare_19 : decode cX1_isInCare 19 = .ok (.getfield 89, 3) := by decide +kernel
theorem dX1_isInCare_22 : decode cX1_isInCare 22 = .ok (.invokestatic 241, 3) := by decide +kernel
theorem dX1_isInCare_25 : decode cX1_isInCare 25 = .ok (.ifCond .eq 7, 3) := by decide +kernel
theorem dX1_isInCare_28 : decode cX1_isInCare 28 = .ok (.iconst 1, 1) := by decide +kernel
theorem dX1_isInCare_29 : decode cX1_isInCare 29 = .ok (.goto 4, 3) := by decide +kernel
theorem dX1_isInCare_32 : decode cX1_isInCare 32 = .ok (.iconst 0, 1) := by decide +kernel
theorem dX1_isInCare_33 : decode cX1_isInCare 33 = .ok (.ireturn, 1) := by decide +kernel
theorem dX1_copyToList_0 : decode cX1_copyToList 0 = .ok (.iconst 0, 1) := by decide +kernel
theorem dX1_copyToList_1 : decode cX1_copyToList 1 = .ok (.istore_n 3, 1) := by decide +kernel
theorem dX1_copyToList_2 : decode cX1_copyToList 2 = .ok (.iconst 0, 1) := by decide +kernel
theorem dX1_copyToList_3 : decode cX1_copyToList 3 = .ok (.istore 4, 2) := by decide +kernel
theorem dX1_copyToList_5 : decode cX1_copyToList 5 = .ok (.iload 4, 2) := by decide +kernel
theorem dX1_copyToList_7 : decode cX1_copyToList 7 = .ok (.aload_n 0, 1) := by decide +kernel
theorem dX1_copyToList_8 : decode cX1_copyToList 8 = .ok (.getfield 30, 3) := by decide +kernel
theorem dX1_copyToList_11 : decode cX1_copyToList 11 = .ok (.if_icmp .ge 40, 3) := by decide +kernel
theorem dX1_copyToList_14 : decode cX1_copyToList 14 = .ok (.aload_n 0, 1) := by decide +kernel
theorem dX1_copyToList_15 : decode cX1_copyToList 15 = .ok (.aload_n 1, 1) := by decide +kernel
theorem dX1_copyToList_16 : decode cX1_copyToList 16 = .ok (.getfield 68, 3) := by decide +kernel
theorem dX1_copyToList_19 : decode cX1_copyToList 19 = .ok (.iload 4, 2) := by decide +kernel
theorem dX1_copyToList_21 : decode cX1_copyToList 21 = .ok (.iaload, 1) := by decide +kernel
theorem dX1_copyToList_22 : decode cX1_copyToList 22 = .ok (.invokevirtual 204, 3) := by decide +kernel
theorem dX1_copyToList_25 : decode cX1_copyToList 25 = .ok (.astore 5, 2) := by decide +kernel
theorem dX1_copyToList_27 : decode cX1_copyToList 27 = .ok (.aload 5, 2) := by decide +kernel
theorem dX1_copyToList_29 : decode cX1_copyToList 29 = .ok (.ifnull 16, 3) := by decide +kernel
theorem dX1_copyToList_32 : decode cX1_copyToList 32 = .ok (.aload_n 1, 1) := by decide +kernel
theorem dX1_copyToList_33 : decode cX1_copyToList 33 = .ok (.aload 5, 2) := by decide +kernel
theorem dX1_copyToList_35 : decode cX1_copyToList 35 = .ok (.iload_n 2, 1) := by decide +kernel
theorem dX1_copyToList_36 : decode cX1_copyToList 36 = .ok (.invokestatic 255, 3) := by decide +kernel
theorem dX1_copyToList_39 : decode cX1_copyToList 39 = .ok (.ifCond .eq 6, 3) := by decide +kernel
theorem dX1_copyToList_42 : decode cX1_copyToList 42 = .ok (.iinc 3 1, 3) := by decide +kernel
theorem dX1_copyToList_45 : decode cX1_copyToList 45 = .ok (.iinc 4 1, 3) := by decide +kernel
theorem dX1_copyToList_48 : decode cX1_copyToList 48 = .ok (.goto (-43), 3) := by decide +kernel
theorem dX1_copyToList_51 : decode cX1_copyToList 51 = .ok (.iload_n 3, 1) := by decide +kernel
theorem dX1_copyToList_52 : decode cX1_copyToList 52 = .ok (.ireturn, 1) := by decide +kernel
theorem dX1_copyIfHigher_0 : decode cX1_copyIfHigher 0 = .ok (.aload_n 0, 1) := by decide +kernel
theorem dX1_copyIfHigher_1 : decode cX1_copyIfHigher 1 = .ok (.aload_n 1, 1) := by decide +kernel
theorem dX1_copyIfHigher_2 : decode cX1_copyIfHigher 2 = .ok (.iload_n 2, 1) := by decide +kernel
theorem dX1_copyIfHigher_3 : decode cX1_copyIfHigher 3 = .ok (.invokestatic 258, 3) := by decide +kernel
theorem dX1_copyIfHigher_6 : decode cX1_copyIfHigher 6 = .ok (.ifCond .ne 5, 3) := by decide +kernel
theorem dX1_copyIfHigher_9 : decode cX1_copyIfHigher 9 = .ok (.iconst 0, 1) := by decide +kernel
theorem dX1_copyIfHigher_10 : decode cX1_copyIfHigher 10 = .ok (.ireturn, 1) := by decide +kernel
theorem dX1_copyIfHigher_11 : decode cX1_copyIfHigher 11 = .ok (.aload_n 1, 1) := by decide +kernel
theorem dX1_copyIfHigher_12 : decode cX1_copyIfHigher 12 = .ok (.getfield 159, 3) := by decide +kernel
theorem dX1_copyIfHigher_15 : decode cX1_copyIfHigher 15 = .ok (.iload_n 2, 1) := by decide +kernel
theorem dX1_copyIfHigher_16 : decode cX1_copyIfHigher 16 = .ok (.aload_n 0, 1) := by decide +kernel
theorem dX1_copyIfHigher_17 : decode cX1_copyIfHigher 17 = .ok (.getfield 159, 3) := by decide +kernel
theorem dX1_copyIfHigher_20 : decode cX1_copyIfHigher 20 = .ok (.iload_n 2, 1) := by decide +kernel
theorem dX1_copyIfHigher_21 : decode cX1_copyIfHigher 21 = .ok (.iaload, 1) := by decide +kernel
theorem dX1_copyIfHigher_22 : decode cX1_copyIfHigher 22 = .ok (.iastore, 1) := by decide +kernel
theorem dX1_copyIfHigher_23 : decode cX1_copyIfHigher 23 = .ok (.aload_n 1, 1) := by decide +kernel
theorem dX1_copyIfHigher_24 : decode cX1_copyIfHigher 24 = .ok (.getfield 162, 3) := by decide +kernel
theorem dX1_copyIfHigher_27 : decode cX1_copyIfHigher 27 = .ok (.iload_n 2, 1) := by decide +kernel
theorem dX1_copyIfHigher_28 : decode cX1_copyIfHigher 28 = .ok (.aload_n 0, 1) := by decide +kernel
theorem dX1_copyIfHigher_29 : decode cX1_copyIfHigher 29 = .ok (.getfield 162, 3) := by decide +kernel
theorem dX1_copyIfHigher_32 : decode cX1_copyIfHigher 32 = .ok (.iload_n 2, 1) := by decide +kernel
theorem dX1_copyIfHigher_33 : decode cX1_copyIfHigher 33 = .ok (.iaload, 1) := by decide +kernel
theorem dX1_copyIfHigher_34 : decode cX1_copyIfHigher 34 = .ok (.iastore, 1) := by decide +kernel
theorem dX1_copyIfHigher_35 : decode cX1_copyIfHigher 35 = .ok (.aload_n 1, 1) := by decide +kernel
theorem dX1_copyIfHigher_36 : decode cX1_copyIfHigher 36 = .ok (.getfield 165, 3) := by decide +kernel
theorem dX1_copyIfHigher_39 : decode cX1_copyIfHigher 39 = .ok (.iload_n 2, 1) := by decide +kernel
theorem dX1_copyIfHigher_40 : decode cX1_copyIfHigher 40 = .ok (.aload_n 0, 1) := by decide +kernel
theorem dX1_copyIfHigher_41 : decode cX1_copyIfHigher 41 = .ok (.getfield 165, 3) := by decide +kernel
theorem dX1_copyIfHigher_44 : decode cX1_copyIfHigher 44 = .ok (.iload_n 2, 1) := by decide +kernel
theorem dX1_copyIfHigher_45 : decode cX1_copyIfHigher 45 = .ok (.iaload, 1) := by decide +kernel
theorem dX1_copyIfHigher_46 : decode cX1_copyIfHigher 46 = .ok (.iastore, 1) := by decide +kernel
theorem dX1_copyIfHigher_47 : decode cX1_copyIfHigher 47 = .ok (.iconst 1, 1) := by decide +kernel
theorem dX1_copyIfHigher_48 : decode cX1_copyIfHigher 48 = .ok (.ireturn, 1) := by decide +kernel
theorem dX1_isHigher_0 : decode cX1_isHigher 0 = .ok (.aload_n 0, 1) := by decide +kernel
theorem dX1_isHigher_1 : decode cX1_isHigher 1 = .ok (.getfield 159, 3) := by decide +kernel
theorem dX1_isHigher_4 : decode cX1_isHigher 4 = .ok (.iload_n 2, 1) := by decide +kernel
theorem dX1_isHigher_5 : decode cX1_isHigher 5 = .ok (.iaload, 1) := by decide +kernel
theorem dX1_isHigher_6 : decode cX1_isHigher 6 = .ok (.aload_n 1, 1) := by decide +kernel
theorem dX1_isHigher_7 : decode cX1_isHigher 7 = .ok (.getfield 159, 3) := by decide +kernel
theorem dX1_isHigher_10 : decode cX1_isHigher 10 = .ok (.iload_n 2, 1) := by decide +kernel
theorem dX1_isHigher_11 : decode cX1_isHigher 11 = .ok (.iaload, 1) := by decide +kernel
theorem dX1_isHigher_12 : decode cX1_isHigher 12 = .ok (.if_icmp .eq 24, 3) := by decide +kernel
theorem dX1_isHigher_15 : decode cX1_isHigher 15 = .ok (.aload_n 0, 1) := by decide +kernel
theorem dX1_isHigher_16 : decode cX1_isHigher 16 = .ok (.getfield 159, 3) := by decide +kernel
theorem dX1_isHigher_19 : decode cX1_isHigher 19 = .ok (.iload_n 2, 1) := by decide +kernel
theorem dX1_isHigher_20 : decode cX1_isHigher 20 = .ok (.iaload, 1) := by decide +kernel
theorem dX1_isHigher_21 : decode cX1_isHigher 21 = .ok (.aload_n 1, 1) := by decide +kernel
theorem dX1_isHigher_22 : decode cX1_isHigher 22 = .ok (.getfield 159, 3) := by decide +kernel
theorem dX1_isHigher_25 : decode cX1_isHigher 25 = .ok (.iload_n 2, 1) := by decide +kernel
theorem dX1_isHigher_26 : decode cX1_isHigher 26 = .ok (.iaload, 1) := by decide +kernel
theorem dX1_isHigher_27 : decode cX1_isHigher 27 = .ok (.if_icmp .le 7, 3) := by decide +kernel
theorem dX1_isHigher_30 : decode cX1_isHigher 30 = .ok (.iconst 1, 1) := by decide +kernel
theorem dX1_isHigher_31 : decode cX1_isHigher 31 = .ok (.goto 4, 3) := by decide +kernel
theorem dX1_isHigher_34 : decode cX1_isHigher 34 = .ok (.iconst 0, 1) := by decide +kernel
theorem dX1_isHigher_35 : decode cX1_isHigher 35 = .ok (.ireturn, 1) := by decide +kernel
theorem dX1_isHigher_36 : decode cX1_isHigher 36 = .ok (.aload_n 0, 1) := by decide +kernel
theorem dX1_isHigher_37 : decode cX1_isHigher 37 = .ok (.getfield 162, 3) := by decide +kernel
theorem dX1_isHigher_40 : decode cX1_isHigher 40 = .ok (.iload_n 2, 1) := by decide +kernel
theorem dX1_isHigher_41 : decode cX1_isHigher 41 = .ok (.iaload, 1) := by decide +kernel
theorem dX1_isHigher_42 : decode cX1_isHigher 42 = .ok (.aload_n 1, 1) := by decide +kernel
theorem dX1_isHigher_43 : decode cX1_isHigher 43 = .ok (.getfield 162, 3) := by decide +kernel
theorem dX1_isHigher_46 : decode cX1_isHigher 46 = .ok (.iload_n 2, 1) := by decide +kernel
theorem dX1_isHigher_47 : decode cX1_isHigher 47 = .ok (.iaload, 1) := by decide +kernel
theorem dX1_isHigher_48 : decode cX1_isHigher 48 = .ok (.if_icmp .le 7, 3) := by decide +kernel
theorem dX1_isHigher_51 : decode cX1_isHigher 51 = .ok (.iconst 1, 1) := by decide +kernel
theorem dX1_isHigher_52 : decode cX1_isHigher 52 = .ok (.goto 4, 3) := by decide +kernel
theorem dX1_isHigher_55 : decode cX1_isHigher 55 = .ok (.iconst 0, 1) := by decide +kernel
theorem dX1_isHigher_56 : decode cX1_isHigher 56 = .ok (.ireturn, 1) := by decide +kernel
theorem dX1_highestInList_0 : decode cX1_highestInList 0 = .ok (.aload_n 1, 1) := by decide +kernel
theorem dX1_highestInList_1 : decode cX1_highestInList 1 = .ok (.astore_n 3, 1) := by decide +kernel
theorem dX1_highestInList_2 : decode cX1_highestInList 2 = .ok (.iconst 0, 1) := by decide +kernel
theorem dX1_highestInList_3 : decode cX1_highestInList 3 = .ok (.istore 4, 2) := by decide +kernel
theorem dX1_highestInList_5 : decode cX1_highestInList 5 = .ok (.iload 4, 2) := by decide +kernel
theorem dX1_highestInList_7 : decode cX1_highestInList 7 = .ok (.aload_n 0, 1) := by decide +kernel
theorem dX1_highestInList_8 : decode cX1_highestInList 8 = .ok (.getfield 30, 3) := by decide +kernel
theorem dX1_highestInList_11 : decode cX1_highestInList 11 = .ok (.if_icmp .ge 40, 3) := by decide +kernel
theorem dX1_highestInList_14 : decode cX1_highestInList 14 = .ok (.aload_n 0, 1) := by decide +kernel
theorem dX1_highestInList_15 : decode cX1_highestInList 15 = .ok (.aload_n 1, 1) := by decide +kernel
theorem dX1_highestInList_16 : decode cX1_highestInList 16 = .ok (.getfield 68, 3) := by decide +kernel
theorem dX1_highestInList_19 : decode cX1_highestInList 19 = .ok (.iload 4, 2) := by decide +kernel
theorem dX1_highestInList_21 : decode cX1_highestInList 21 = .ok (.iaload, 1) := by decide +kernel
theorem dX1_highestInList_22 : decode cX1_highestInList 22 = .ok (.invokevirtual 204, 3) := by decide +kernel
theorem dX1_highestInList_25 : decode cX1_highestInList 25 = .ok (.astore 5, 2) := by decide +kernel
theorem dX1_highestInList_27 : decode cX1_highestInList 27 = .ok (.aload 5, 2) := by decide +kernel
theorem dX1_highestInList_29 : decode cX1_highestInList 29 = .ok (.ifnull 16, 3) := by decide +kernel
theorem dX1_highestInList_32 : decode cX1_highestInList 32 = .ok (.aload 5, 2) := by decide +kernel
theorem dX1_highestInList_34 : decode cX1_highestInList 34 = .ok (.aload_n 3, 1) := by decide +kernel
theorem dX1_highestInList_35 : decode cX1_highestInList 35 = .ok (.iload_n 2, 1) := by decide +kernel
theorem dX1_highestInList_36 : decode cX1_highestInList 36 = .ok (.invokestatic 258, 3) := by decide +kernel
theorem dX1_highestInList_39 : decode cX1_highestInList 39 = .ok (.ifCond .eq 6, 3) := by decide +kernel
theorem dX1_highestInList_42 : decode cX1_highestInList 42 = .ok (.aload 5, 2) := by decide +kernel
theorem dX1_highestInList_44 : decode cX1_highestInList 44 = .ok (.astore_n 3, 1) := by decide +kernel
theorem dX1_highestInList_45 : decode cX1_highestInList 45 = .ok (.iinc 4 1, 3) := by decide +kernel
theorem dX1_highestInList_48 : decode cX1_highestInList 48 = .ok (.goto (-43), 3) := by decide +kernel
theorem dX1_highestInList_51 : decode cX1_highestInList 51 = .ok (.aload_n 3, 1) := by decide +kernel
theorem dX1_highestInList_52 : decode cX1_highestInList 52 = .ok (.areturn, 1) := by decide +kernel
theorem dX1_isIdealMember_0 : decode cX1_isIdealMember 0 = .ok (.aload_n 0, 1) := by decide +kernel
theorem dX1_isIdealMember_1 : decode cX1_isIdealMember 1 = .ok (.getfield 11, 3) := by decide +kernel
theorem dX1_isIdealMember_4 : decode cX1_isIdealMember 4 = .ok (.iload_n 1, 1) := by decide +kernel
theorem dX1_isIdealMember_5 : decode cX1_isIdealMember 5 = .ok (.aaload, 1) := by decide +kernel
theorem dX1_isIdealMember_6 : decode cX1_isIdealMember 6 = .ok (.astore_n 2, 1) := by decide +kernel
theorem dX1_isIdealMember_7 : decode cX1_isIdealMember 7 = .ok (.iconst 0, 1) := by decide +kernel
theorem dX1_isIdealMember_8 : decode cX1_isIdealMember 8 = .ok (.istore_n 3, 1) := by decide +kernel
theorem dX1_isIdealMember_9 : decode cX1_isIdealMember 9 = .ok (.iload_n 3, 1) := by decide +kernel
theorem dX1_isIdealMember_10 : decode cX1_isIdealMember 10 = .ok (.aload_n 0, 1) := by decide +kernel
theorem dX1_isIdealMember_11 : decode cX1_isIdealMember 11 = .ok (.getfield 30, 3) := by decide +kernel
theorem dX1_isIdealMember_14 : decode cX1_isIdealMember 14 = .ok (.if_icmp .ge 29, 3) := by decide +kernel
theorem dX1_isIdealMember_17 : decode cX1_isIdealMember 17 = .ok (.aload_n 2, 1) := by decide +kernel
theorem dX1_isIdealMember_18 : decode cX1_isIdealMember 18 = .ok (.getfield 68, 3) := by decide +kernel
theorem dX1_isIdealMember_21 : decode cX1_isIdealMember 21 = .ok (.iload_n 3, 1) := by decide +kernel
theorem dX1_isIdealMember_22 : decode cX1_isIdealMember 22 = .ok (.iaload, 1) := by decide +kernel
theorem dX1_isIdealMember_23 : decode cX1_isIdealMember 23 = .ok (.aload_n 0, 1) := by decide +kernel
theorem dX1_isIdealMember_24 : decode cX1_isIdealMember 24 = .ok (.iload_n 1, 1) := by decide +kernel
theorem dX1_isIdealMember_25 : decode cX1_isIdealMember 25 = .ok (.iconst 1, 1) := by decide +kernel
theorem dX1_isIdealMember_26 : decode cX1_isIdealMember 26 = .ok (.iadd, 1) := by decide +kernel
theorem dX1_isIdealMember_27 : decode cX1_isIdealMember 27 = .ok (.iload_n 3, 1) := by decide +kernel
theorem dX1_isIdealMember_28 : decode cX1_isIdealMember 28 = .ok (.iadd, 1) := by decide +kernel
theorem dX1_isIdealMember_29 : decode cX1_isIdealMember 29 = .ok (.invokevirtual 71, 3) := by decide +kernel
theorem dX1_isIdealMember_32 : decode cX1_isIdealMember 32 = .ok (.if_icmp .eq 5, 3) := by decide +kernel
theorem dX1_isIdealMember_35 : decode cX1_isIdealMember 35 = .ok (.iconst 0, 1) := by decide +kernel
theorem dX1_isIdealMember_36 : decode cX1_isIdealMember 36 = .ok (.ireturn, 1) := by decide +kernel
theorem dX1_isIdealMember_37 : decode cX1_isIdealMember 37 = .ok (.iinc 3 1, 3) := by decide +kernel
theorem dX1_isIdealMember_40 : decode cX1_isIdealMember 40 = .ok (.goto (-31), 3) := by decide +kernel
theorem dX1_isIdealMember_43 : decode cX1_isIdealMember 43 = .ok (.aload_n 2, 1) := by decide +kernel
theorem dX1_isIdealMember_44 : decode cX1_isIdealMember 44 = .ok (.getfield 75, 3) := by decide +kernel
theorem dX1_isIdealMember_47 : decode cX1_isIdealMember 47 = .ok (.aload_n 0, 1) := by decide +kernel
theorem dX1_isIdealMember_48 : decode cX1_isIdealMember 48 = .ok (.iload_n 1, 1) := by decide +kernel
theorem dX1_isIdealMember_49 : decode cX1_isIdealMember 49 = .ok (.iconst 1, 1) := by decide +kernel
theorem dX1_isIdealMember_50 : decode cX1_isIdealMember 50 = .ok (.isub, 1) := by decide +kernel
theorem dX1_isIdealMember_51 : decode cX1_isIdealMember 51 = .ok (.invokevirtual 71, 3) := by decide +kernel
theorem dX1_isIdealMember_54 : decode cX1_isIdealMember 54 = .ok (.if_icmp .ne 7, 3) := by decide +kernel
theorem dX1_isIdealMember_57 : decode cX1_isIdealMember 57 = .ok (.iconst 1, 1) := by decide +kernel
theorem dX1_isIdealMember_58 : decode cX1_isIdealMember 58 = .ok (.goto 4, 3) := by decide +kernel
theorem dX1_isIdealMember_61 : decode cX1_isIdealMember 61 = .ok (.iconst 0, 1) := by decide +kernel
theorem dX1_isIdealMember_62 : decode cX1_isIdealMember 62 = .ok (.ireturn, 1) := by decide +kernel
theorem dX1_countPairs_0 : decode cX1_countPairs 0 = .ok (.iconst 0, 1) := by decide +kernel
theorem dX1_countPairs_1 : decode cX1_countPairs 1 = .ok (.istore_n 1, 1) := by decide +kernel
theorem dX1_countPairs_2 : decode cX1_countPairs 2 = .ok (.iconst 0, 1) := by decide +kernel
theorem dX1_countPairs_3 : decode cX1_countPairs 3 = .ok (.istore_n 2, 1) := by decide +kernel
theorem dX1_countPairs_4 : decode cX1_countPairs 4 = .ok (.iload_n 2, 1) := by decide +kernel
theorem dX1_countPairs_5 : decode cX1_countPairs 5 = .ok (.aload_n 0, 1) := by decide +kernel
theorem dX1_countPairs_6 : decode cX1_countPairs 6 = .ok (.getfield 41, 3) := by decide +kernel
theorem dX1_countPairs_9 : decode cX1_countPairs 9 = .ok (.if_icmp .ge 40, 3) := by decide +kernel
theorem dX1_countPairs_12 : decode cX1_countPairs 12 = .ok (.iconst 0, 1) := by decide +kernel
theorem dX1_countPairs_13 : decode cX1_countPairs 13 = .ok (.istore_n 3, 1) := by decide +kernel
theorem dX1_countPairs_14 : decode cX1_countPairs 14 = .ok (.iload_n 3, 1) := by decide +kernel
theorem dX1_countPairs_15 : decode cX1_countPairs 15 = .ok (.bipush 64, 2) := by decide +kernel
theorem dX1_countPairs_17 : decode cX1_countPairs 17 = .ok (.if_icmp .ge 26, 3) := by decide +kernel
theorem dX1_countPairs_20 : decode cX1_countPairs 20 = .ok (.aload_n 0, 1) := by decide +kernel
theorem dX1_countPairs_21 : decode cX1_countPairs 21 = .ok (.getfield 11, 3) := by decide +kernel
theorem dX1_countPairs_24 : decode cX1_countPairs 24 = .ok (.iload_n 2, 1) := by decide +kernel
theorem dX1_countPairs_25 : decode cX1_countPairs 25 = .ok (.aaload, 1) := by decide +kernel
theorem dX1_countPairs_26 : decode cX1_countPairs 26 = .ok (.getfield 159, 3) := by decide +kernel
theorem dX1_countPairs_29 : decode cX1_countPairs 29 = .ok (.iload_n 3, 1) := by decide +kernel
theorem dX1_countPairs_30 : decode cX1_countPairs 30 = .ok (.iaload, 1) := by decide +kernel
theorem dX1_countPairs_31 : decode cX1_countPairs 31 = .ok (.ifCond .le 6, 3) := by decide +kernel
theorem dX1_countPairs_34 : decode cX1_countPairs 34 = .ok (.iinc 1 1, 3) := by decide +kernel
theorem dX1_countPairs_37 : decode cX1_countPairs 37 = .ok (.iinc 3 1, 3) := by decide +kernel
theorem dX1_countPairs_40 : decode cX1_countPairs 40 = .ok (.goto (-26), 3) := by decide +kernel
theorem dX1_countPairs_43 : decode cX1_countPairs 43 = .ok (.iinc 2 1, 3) := by decide +kernel
theorem dX1_countPairs_46 : decode cX1_countPairs 46 = .ok (.goto (-42), 3) := by decide +kernel
theorem dX1_countPairs_49 : decode cX1_countPairs 49 = .ok (.iload_n 1, 1) := by decide +kernel
theorem dX1_countPairs_50 : decode cX1_countPairs 50 = .ok (.ireturn, 1) := by decide +kernel
theorem dX1_countTrueFingers_0 : decode cX1_countTrueFingers 0 = .ok (.iconst 0, 1) := by decide +kernel
theorem dX1_countTrueFingers_1 : decode cX1_countTrueFingers 1 = .ok (.istore_n 1, 1) := by decide +kernel
theorem dX1_countTrueFingers_2 : decode cX1_countTrueFingers 2 = .ok (.iconst 0, 1) := by decide +kernel
theorem dX1_countTrueFingers_3 : decode cX1_countTrueFingers 3 = .ok (.istore_n 2, 1) := by decide +kernel
theorem dX1_countTrueFingers_4 : decode cX1_countTrueFingers 4 = .ok (.iload_n 2, 1) := by decide +kernel
theorem dX1_countTrueFingers_5 : decode cX1_countTrueFingers 5 = .ok (.aload_n 0, 1) := by decide +kernel
theorem dX1_countTrueFingers_6 : decode cX1_countTrueFingers 6 = .ok (.getfield 41, 3) := by decide +kernel
theorem dX1_countTrueFingers_9 : decode cX1_countTrueFingers 9 = .ok (.if_icmp .ge 60, 3) := by decide +kernel
theorem dX1_countTrueFingers_12 : decode cX1_countTrueFingers 12 = .ok (.aload_n 0, 1) := by decide +kernel
theorem dX1_countTrueFingers_13 : decode cX1_countTrueFingers 13 = .ok (.getfield 11, 3) := by decide +kernel
theorem dX1_countTrueFingers_16 : decode cX1_countTrueFingers 16 = .ok (.iload_n 2, 1) := by decide +kernel
theorem dX1_countTrueFingers_17 : decode cX1_countTrueFingers 17 = .ok (.aaload, 1) := by decide +kernel
theorem dX1_countTrueFingers_18 : decode cX1_countTrueFingers 18 = .ok (.astore_n 3, 1) := by decide +kernel
theorem dX1_countTrueFingers_19 : decode cX1_countTrueFingers 19 = .ok (.iconst 0, 1) := by decide +kernel
theorem dX1_countTrueFingers_20 : decode cX1_countTrueFingers 20 = .ok (.istore 4, 2) := by decide +kernel
theorem dX1_countTrueFingers_22 : decode cX1_countTrueFingers 22 = .ok (.iload 4, 2) := by decide +kernel
theorem dX1_countTrueFingers_24 : decode cX1_countTrueFingers 24 = .ok (.bipush 8, 2) := by decide +kernel
theorem dX1_countTrueFingers_26 : decode cX1_countTrueFingers 26 = .ok (.if_icmp .ge 37, 3) := by decide +kernel
theorem dX1_countTrueFingers_29 : decode cX1_countTrueFingers 29 = .ok (.aload_n 3, 1) := by decide +kernel
theorem dX1_countTrueFingers_30 : decode cX1_countTrueFingers 30 = .ok (.getfield 120, 3) := by decide +kernel
theorem dX1_countTrueFingers_33 : decode cX1_countTrueFingers 33 = .ok (.iload 4, 2) := by decide +kernel
theorem dX1_countTrueFingers_35 : decode cX1_countTrueFingers 35 = .ok (.iaload, 1) := by decide +kernel
theorem dX1_countTrueFingers_36 : decode cX1_countTrueFingers 36 = .ok (.aload_n 0, 1) := by decide +kernel
theorem dX1_countTrueFingers_37 : decode cX1_countTrueFingers 37 = .ok (.aload_n 3, 1) := by decide +kernel
theorem dX1_countTrueFingers_38 : decode cX1_countTrueFingers 38 = .ok (.getfield 89, 3) := by decide +kernel
theorem dX1_countTrueFingers_41 : decode cX1_countTrueFingers 41 = .ok (.iconst 1, 1) := by decide +kernel
theorem dX1_countTrueFingers_42 : decode cX1_countTrueFingers 42 = .ok (.iload 4, 2) := by decide +kernel
theorem dX1_countTrueFingers_44 : decode cX1_countTrueFingers 44 = .ok (.ishl, 1) := by decide +kernel
theorem dX1_countTrueFingers_45 : decode cX1_countTrueFingers 45 = .ok (.invokestatic 224, 3) := by decide +kernel
theorem dX1_countTrueFingers_48 : decode cX1_countTrueFingers 48 = .ok (.invokevirtual 179, 3) := by decide +kernel
theorem dX1_countTrueFingers_51 : decode cX1_countTrueFingers 51 = .ok (.if_icmp .ne 6, 3) := by decide +kernel
theorem dX1_countTrueFingers_54 : decode cX1_countTrueFingers 54 = .ok (.iinc 1 1, 3) := by decide +kernel
theorem dX1_countTrueFingers_57 : decode cX1_countTrueFingers 57 = .ok (.iinc 4 1, 3) := by decide +kernel
theorem dX1_countTrueFingers_60 : decode cX1_countTrueFingers 60 = .ok (.goto (-38), 3) := by decide +kernel
theorem dX1_countTrueFingers_63 : decode cX1_countTrueFingers 63 = .ok (.iinc 2 1, 3) := by decide +kernel
theorem dX1_countTrueFingers_66 : decode cX1_countTrueFingers 66 = .ok (.goto (-62), 3) := by decide +kernel
theorem dX1_countTrueFingers_69 : decode cX1_countTrueFingers 69 = .ok (.iload_n 1, 1) := by decide +kernel
theorem dX1_countTrueFingers_70 : decode cX1_countTrueFingers 70 = .ok (.ireturn, 1) := by decide +kernel
theorem dX1_countTrueSuccessors_0 : decode cX1_countTrueSuccessors 0 = .ok (.iconst 0, 1) := by decide +kernel
theorem dX1_countTrueSuccessors_1 : decode cX1_countTrueSuccessors 1 = .ok (.istore_n 1, 1) := by decide +kernel
theorem dX1_countTrueSuccessors_2 : decode cX1_countTrueSuccessors 2 = .ok (.iconst 0, 1) := by decide +kernel
theorem dX1_countTrueSuccessors_3 : decode cX1_countTrueSuccessors 3 = .ok (.istore_n 2, 1) := by decide +kernel
theorem dX1_countTrueSuccessors_4 : decode cX1_countTrueSuccessors 4 = .ok (.iload_n 2, 1) := by decide +kernel
theorem dX1_countTrueSuccessors_5 : decode cX1_countTrueSuccessors 5 = .ok (.aload_n 0, 1) := by decide +kernel
theorem dX1_countTrueSuccessors_6 : decode cX1_countTrueSuccessors 6 = .ok (.getfield 41, 3) := by decide +kernel
theorem dX1_countTrueSuccessors_9 : decode cX1_countTrueSuccessors 9 = .ok (.if_icmp .ge 41, 3) := by decide +kernel
theorem dX1_countTrueSuccessors_12 : decode cX1_countTrueSuccessors 12 = .ok (.aload_n 0, 1) := by decide +kernel
theorem dX1_countTrueSuccessors_13 : decode cX1_countTrueSuccessors 13 = .ok (.aload_n 0, 1) := by decide +kernel
theorem dX1_countTrueSuccessors_14 : decode cX1_countTrueSuccessors 14 = .ok (.getfield 11, 3) := by decide +kernel
theorem dX1_countTrueSuccessors_17 : decode cX1_countTrueSuccessors 17 = .ok (.iload_n 2, 1) := by decide +kernel
theorem dX1_countTrueSuccessors_18 : decode cX1_countTrueSuccessors 18 = .ok (.aaload, 1) := by decide +kernel
theorem dX1_countTrueSuccessors_19 : decode cX1_countTrueSuccessors 19 = .ok (.invokevirtual 107, 3) := by decide +kernel
theorem dX1_countTrueSuccessors_22 : decode cX1_countTrueSuccessors 22 = .ok (.astore_n 3, 1) := by decide +kernel
theorem dX1_countTrueSuccessors_23 : decode cX1_countTrueSuccessors 23 = .ok (.aload_n 3, 1) := by decide +kernel
theorem dX1_countTrueSuccessors_24 : decode cX1_countTrueSuccessors 24 = .ok (.ifnull 20, 3) := by decide +kernel
theorem dX1_countTrueSuccessors_27 : decode cX1_countTrueSuccessors 27 = .ok (.aload_n 3, 1) := by decide +kernel
theorem dX1_countTrueSuccessors_28 : decode cX1_countTrueSuccessors 28 = .ok (.getfield 89, 3) := by decide +kernel
theorem dX1_countTrueSuccessors_31 : decode cX1_countTrueSuccessors 31 = .ok (.aload_n 0, 1) := by decide +kernel
theorem dX1_countTrueSuccessors_32 : decode cX1_countTrueSuccessors 32 = .ok (.iload_n 2, 1) := by decide +kernel
theorem dX1_countTrueSuccessors_33 : decode cX1_countTrueSuccessors 33 = .ok (.iconst 1, 1) := by decide +kernel
theorem dX1_countTrueSuccessors_34 : decode cX1_countTrueSuccessors 34 = .ok (.iadd, 1) := by decide +kernel
theorem dX1_countTrueSuccessors_35 : decode cX1_countTrueSuccessors 35 = .ok (.invokevirtual 71, 3) := by decide +kernel
theorem dX1_countTrueSuccessors_38 : decode cX1_countTrueSuccessors 38 = .ok (.if_icmp .ne 6, 3) := by decide +kernel
theorem dX1_countTrueSuccessors_41 : decode cX1_countTrueSuccessors 41 = .ok (.iinc 1 1, 3) := by decide +kernel
theorem dX1_countTrueSuccessors_44 : decode cX1_countTrueSuccessors 44 = .ok (.iinc 2 1, 3) := by decide +kernel
theorem dX1_countTrueSuccessors_47 : decode cX1_countTrueSuccessors 47 = .ok (.goto (-43), 3) := by decide +kernel
theorem dX1_countTrueSuccessors_50 : decode cX1_countTrueSuccessors 50 = .ok (.iload_n 1, 1) := by decide +kernel
theorem dX1_countTrueSuccessors_51 : decode cX1_countTrueSuccessors 51 = .ok (.ireturn, 1) := by decide +kernel
theorem dJ9_floorMod_7cf53_0 : decode cJ9_floorMod_7cf53 0 = .ok (.iload_n 0, 1) := by decide +kernel
theorem dJ9_floorMod_7cf53_1 : decode cJ9_floorMod_7cf53 1 = .ok (.iload_n 1, 1) := by decide +kernel
theorem dJ9_floorMod_7cf53_2 : decode cJ9_floorMod_7cf53 2 = .ok (.irem, 1) := by decide +kernel
theorem dJ9_floorMod_7cf53_3 : decode cJ9_floorMod_7cf53 3 = .ok (.istore_n 2, 1) := by decide +kernel
theorem dJ9_floorMod_7cf53_4 : decode cJ9_floorMod_7cf53 4 = .ok (.iload_n 0, 1) := by decide +kernel
theorem dJ9_floorMod_7cf53_5 : decode cJ9_floorMod_7cf53 5 = .ok (.iload_n 1, 1) := by decide +kernel
theorem dJ9_floorMod_7cf53_6 : decode cJ9_floorMod_7cf53 6 = .ok (.ixor, 1) := by decide +kernel
theorem dJ9_floorMod_7cf53_7 : decode cJ9_floorMod_7cf53 7 = .ok (.ifCond .ge 11, 3) := by decide +kernel
theorem dJ9_floorMod_7cf53_10 : decode cJ9_floorMod_7cf53 10 = .ok (.iload_n 2, 1) := by decide +kernel
theorem dJ9_floorMod_7cf53_11 : decode cJ9_floorMod_7cf53 11 = .ok (.ifCond .eq 7, 3) := by decide +kernel
theorem dJ9_floorMod_7cf53_14 : decode cJ9_floorMod_7cf53 14 = .ok (.iload_n 2, 1) := by decide +kernel
theorem dJ9_floorMod_7cf53_15 : decode cJ9_floorMod_7cf53 15 = .ok (.iload_n 1, 1) := by decide +kernel
theorem dJ9_floorMod_7cf53_16 : decode cJ9_floorMod_7cf53 16 = .ok (.iadd, 1) := by decide +kernel
theorem dJ9_floorMod_7cf53_17 : decode cJ9_floorMod_7cf53 17 = .ok (.ireturn, 1) := by decide +kernel
theorem dJ9_floorMod_7cf53_18 : decode cJ9_floorMod_7cf53 18 = .ok (.iload_n 2, 1) := by decide +kernel
theorem dJ9_floorMod_7cf53_19 : decode cJ9_floorMod_7cf53 19 = .ok (.ireturn, 1) := by decide +kernel
theorem dJ7_fill_53178_0 : decode cJ7_fill_53178 0 = .ok (.iconst 0, 1) := by decide +kernel
theorem dJ7_fill_53178_1 : decode cJ7_fill_53178 1 = .ok (.istore_n 2, 1) := by decide +kernel
theorem dJ7_fill_53178_2 : decode cJ7_fill_53178 2 = .ok (.aload_n 0, 1) := by decide +kernel
theorem dJ7_fill_53178_3 : decode cJ7_fill_53178 3 = .ok (.arraylength, 1) := by decide +kernel
theorem dJ7_fill_53178_4 : decode cJ7_fill_53178 4 = .ok (.istore_n 3, 1) := by decide +kernel
theorem dJ7_fill_53178_5 : decode cJ7_fill_53178 5 = .ok (.iload_n 2, 1) := by decide +kernel
theorem dJ7_fill_53178_6 : decode cJ7_fill_53178 6 = .ok (.iload_n 3, 1) := by decide +kernel
theorem dJ7_fill_53178_7 : decode cJ7_fill_53178 7 = .ok (.if_icmp .ge 13, 3) := by decide +kernel
theorem dJ7_fill_53178_10 : decode cJ7_fill_53178 10 = .ok (.aload_n 0, 1) := by decide +kernel
theorem dJ7_fill_53178_11 : decode cJ7_fill_53178 11 = .ok (.iload_n 2, 1) := by decide +kernel
theorem dJ7_fill_53178_12 : decode cJ7_fill_53178 12 = .ok (.iload_n 1, 1) := by decide +kernel
theorem dJ7_fill_53178_13 : decode cJ7_fill_53178 13 = .ok (.iastore, 1) := by decide +kernel
theorem dJ7_fill_53178_14 : decode cJ7_fill_53178 14 = .ok (.iinc 2 1, 3) := by decide +kernel
theorem dJ7_fill_53178_17 : decode cJ7_fill_53178 17 = .ok (.goto (-12), 3) := by decide +kernel
theorem dJ7_fill_53178_20 : decode cJ7_fill_53178 20 = .ok (.return_, 1) := by decide +kernel
