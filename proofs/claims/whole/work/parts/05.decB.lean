theorem dX2_init_0 : decode cX2_init 0 = .ok (.aload_n 0, 1) := by decide +kernel
theorem dX2_init_1 : decode cX2_init 1 = .ok (.invokespecial 1, 3) := by decide +kernel
theorem dX2_init_4 : decode cX2_init 4 = .ok (.aload_n 0, 1) := by decide +kernel
theorem dX2_init_5 : decode cX2_init 5 = .ok (.iconst 2, 1) := by decide +kernel
theorem dX2_init_6 : decode cX2_init 6 = .ok (.putfield 7, 3) := by decide +kernel
theorem dX2_init_9 : decode cX2_init 9 = .ok (.aload_n 0, 1) := by decide +kernel
theorem dX2_init_10 : decode cX2_init 10 = .ok (.sipush 256, 3) := by decide +kernel
theorem dX2_init_13 : decode cX2_init 13 = .ok (.newarray .int, 2) := by decide +kernel
theorem dX2_init_15 : decode cX2_init 15 = .ok (.putfield 13, 3) := by decide +kernel
theorem dX2_init_18 : decode cX2_init 18 = .ok (.aload_n 0, 1) := by decide +kernel
theorem dX2_init_19 : decode cX2_init 19 = .ok (.sipush 1024, 3) := by decide +kernel
theorem dX2_init_22 : decode cX2_init 22 = .ok (.newarray .int, 2) := by decide +kernel
theorem dX2_init_24 : decode cX2_init 24 = .ok (.putfield 17, 3) := by decide +kernel
theorem dX2_init_27 : decode cX2_init 27 = .ok (.aload_n 0, 1) := by decide +kernel
theorem dX2_init_28 : decode cX2_init 28 = .ok (.sipush 256, 3) := by decide +kernel
theorem dX2_init_31 : decode cX2_init 31 = .ok (.newarray .int, 2) := by decide +kernel
theorem dX2_init_33 : decode cX2_init 33 = .ok (.putfield 20, 3) := by decide +kernel
theorem dX2_init_36 : decode cX2_init 36 = .ok (.aload_n 0, 1) := by decide +kernel
theorem dX2_init_37 : decode cX2_init 37 = .ok (.sipush 2048, 3) := by decide +kernel
theorem dX2_init_40 : decode cX2_init 40 = .ok (.newarray .int, 2) := by decide +kernel
theorem dX2_init_42 : decode cX2_init 42 = .ok (.putfield 23, 3) := by decide +kernel
theorem dX2_init_45 : decode cX2_init 45 = .ok (.aload_n 0, 1) := by decide +kernel
theorem dX2_init_46 : decode cX2_init 46 = .ok (.sipush 256, 3) := by decide +kernel
theorem dX2_init_49 : decode cX2_init 49 = .ok (.newarray .int, 2) := by decide +kernel
theorem dX2_init_51 : decode cX2_init 51 = .ok (.putfield 26, 3) := by decide +kernel
theorem dX2_init_54 : decode cX2_init 54 = .ok (.aload_n 0, 1) := by decide +kernel
theorem dX2_init_55 : decode cX2_init 55 = .ok (.sipush 16384, 3) := by decide +kernel
theorem dX2_init_58 : decode cX2_init 58 = .ok (.newarray .int, 2) := by decide +kernel
theorem dX2_init_60 : decode cX2_init 60 = .ok (.putfield 29, 3) := by decide +kernel
theorem dX2_init_63 : decode cX2_init 63 = .ok (.aload_n 0, 1) := by decide +kernel
theorem dX2_init_64 : decode cX2_init 64 = .ok (.sipush 16384, 3) := by decide +kernel
theorem dX2_init_67 : decode cX2_init 67 = .ok (.newarray .int, 2) := by decide +kernel
theorem dX2_init_69 : decode cX2_init 69 = .ok (.putfield 32, 3) := by decide +kernel
theorem dX2_init_72 : decode cX2_init 72 = .ok (.aload_n 0, 1) := by decide +kernel
theorem dX2_init_73 : decode cX2_init 73 = .ok (.sipush 16384, 3) := by decide +kernel
theorem dX2_init_76 : decode cX2_init 76 = .ok (.newarray .int, 2) := by decide +kernel
theorem dX2_init_78 : decode cX2_init 78 = .ok (.putfield 35, 3) := by decide +kernel
theorem dX2_init_81 : decode cX2_init 81 = .ok (.aload_n 0, 1) := by decide +kernel
theorem dX2_init_82 : decode cX2_init 82 = .ok (.iconst 4, 1) := by decide +kernel
theorem dX2_init_83 : decode cX2_init 83 = .ok (.newarray .int, 2) := by decide +kernel
theorem dX2_init_85 : decode cX2_init 85 = .ok (.putfield 38, 3) := by decide +kernel
theorem dX2_init_88 : decode cX2_init 88 = .ok (.aload_n 0, 1) := by decide +kernel
theorem dX2_init_89 : decode cX2_init 89 = .ok (.bipush 64, 2) := by decide +kernel
theorem dX2_init_91 : decode cX2_init 91 = .ok (.newarray .int, 2) := by decide +kernel
theorem dX2_init_93 : decode cX2_init 93 = .ok (.putfield 41, 3) := by decide +kernel
theorem dX2_init_96 : decode cX2_init 96 = .ok (.aload_n 0, 1) := by decide +kernel
theorem dX2_init_97 : decode cX2_init 97 = .ok (.bipush 64, 2) := by decide +kernel
theorem dX2_init_99 : decode cX2_init 99 = .ok (.newarray .int, 2) := by decide +kernel
theorem dX2_init_101 : decode cX2_init 101 = .ok (.putfield 44, 3) := by decide +kernel
theorem dX2_init_104 : decode cX2_init 104 = .ok (.return_, 1) := by decide +kernel
theorem dX2_thrown_0 : decode cX2_thrown 0 = .ok (.aload_n 0, 1) := by decide +kernel
theorem dX2_thrown_1 : decode cX2_thrown 1 = .ok (.getfield 47, 3) := by decide +kernel
theorem dX2_thrown_4 : decode cX2_thrown 4 = .ok (.ireturn, 1) := by decide +kernel
theorem dX2_goes_0 : decode cX2_goes 0 = .ok (.aload_n 0, 1) := by decide +kernel
theorem dX2_goes_1 : decode cX2_goes 1 = .ok (.iload_n 1, 1) := by decide +kernel
theorem dX2_goes_2 : decode cX2_goes 2 = .ok (.ifCond .ne 7, 3) := by decide +kernel
theorem dX2_goes_5 : decode cX2_goes 5 = .ok (.iconst 1, 1) := by decide +kernel
theorem dX2_goes_6 : decode cX2_goes 6 = .ok (.goto 20, 3) := by decide +kernel
theorem dX2_goes_9 : decode cX2_goes 9 = .ok (.iload_n 2, 1) := by decide +kernel
theorem dX2_goes_10 : decode cX2_goes 10 = .ok (.ifCond .ne 7, 3) := by decide +kernel
theorem dX2_goes_13 : decode cX2_goes 13 = .ok (.iconst 2, 1) := by decide +kernel
theorem dX2_goes_14 : decode cX2_goes 14 = .ok (.goto 12, 3) := by decide +kernel
theorem dX2_goes_17 : decode cX2_goes 17 = .ok (.iload_n 3, 1) := by decide +kernel
theorem dX2_goes_18 : decode cX2_goes 18 = .ok (.ifCond .ne 7, 3) := by decide +kernel
theorem dX2_goes_21 : decode cX2_goes 21 = .ok (.iconst 3, 1) := by decide +kernel
theorem dX2_goes_22 : decode cX2_goes 22 = .ok (.goto 4, 3) := by decide +kernel
theorem dX2_goes_25 : decode cX2_goes 25 = .ok (.iconst 0, 1) := by decide +kernel
theorem dX2_goes_26 : decode cX2_goes 26 = .ok (.putfield 47, 3) := by decide +kernel
theorem dX2_goes_29 : decode cX2_goes 29 = .ok (.aload_n 0, 1) := by decide +kernel
theorem dX2_goes_30 : decode cX2_goes 30 = .ok (.getfield 47, 3) := by decide +kernel
theorem dX2_goes_33 : decode cX2_goes 33 = .ok (.ifCond .ne 7, 3) := by decide +kernel
theorem dX2_goes_36 : decode cX2_goes 36 = .ok (.iconst 1, 1) := by decide +kernel
theorem dX2_goes_37 : decode cX2_goes 37 = .ok (.goto 4, 3) := by decide +kernel
theorem dX2_goes_40 : decode cX2_goes 40 = .ok (.iconst 0, 1) := by decide +kernel
theorem dX2_goes_41 : decode cX2_goes 41 = .ok (.ireturn, 1) := by decide +kernel
theorem dX2_isPoint_0 : decode cX2_isPoint 0 = .ok (.iload_n 0, 1) := by decide +kernel
theorem dX2_isPoint_1 : decode cX2_isPoint 1 = .ok (.ifCond .lt 14, 3) := by decide +kernel
theorem dX2_isPoint_4 : decode cX2_isPoint 4 = .ok (.iload_n 0, 1) := by decide +kernel
theorem dX2_isPoint_5 : decode cX2_isPoint 5 = .ok (.sipush 256, 3) := by decide +kernel
theorem dX2_isPoint_8 : decode cX2_isPoint 8 = .ok (.if_icmp .ge 7, 3) := by decide +kernel
theorem dX2_isPoint_11 : decode cX2_isPoint 11 = .ok (.iconst 1, 1) := by decide +kernel
theorem dX2_isPoint_12 : decode cX2_isPoint 12 = .ok (.goto 4, 3) := by decide +kernel
theorem dX2_isPoint_15 : decode cX2_isPoint 15 = .ok (.iconst 0, 1) := by decide +kernel
theorem dX2_isPoint_16 : decode cX2_isPoint 16 = .ok (.ireturn, 1) := by decide +kernel
theorem dX2_isKey_0 : decode cX2_isKey 0 = .ok (.iload_n 0, 1) := by decide +kernel
theorem dX2_isKey_1 : decode cX2_isKey 1 = .ok (.ifCond .lt 13, 3) := by decide +kernel
theorem dX2_isKey_4 : decode cX2_isKey 4 = .ok (.iload_n 0, 1) := by decide +kernel
theorem dX2_isKey_5 : decode cX2_isKey 5 = .ok (.bipush 64, 2) := by decide +kernel
theorem dX2_isKey_7 : decode cX2_isKey 7 = .ok (.if_icmp .ge 7, 3) := by decide +kernel
theorem dX2_isKey_10 : decode cX2_isKey 10 = .ok (.iconst 1, 1) := by decide +kernel
theorem dX2_isKey_11 : decode cX2_isKey 11 = .ok (.goto 4, 3) := by decide +kernel
theorem dX2_isKey_14 : decode cX2_isKey 14 = .ok (.iconst 0, 1) := by decide +kernel
theorem dX2_isKey_15 : decode cX2_isKey 15 = .ok (.ireturn, 1) := by decide +kernel
theorem dX2_live_0 : decode cX2_live 0 = .ok (.iload_n 1, 1) := by decide +kernel
theorem dX2_live_1 : decode cX2_live 1 = .ok (.invokestatic 50, 3) := by decide +kernel
theorem dX2_live_4 : decode cX2_live 4 = .ok (.ifCond .eq 17, 3) := by decide +kernel
theorem dX2_live_7 : decode cX2_live 7 = .ok (.aload_n 0, 1) := by decide +kernel
theorem dX2_live_8 : decode cX2_live 8 = .ok (.getfield 13, 3) := by decide +kernel
theorem dX2_live_11 : decode cX2_live 11 = .ok (.iload_n 1, 1) := by decide +kernel
theorem dX2_live_12 : decode cX2_live 12 = .ok (.iaload, 1) := by decide +kernel
theorem dX2_live_13 : decode cX2_live 13 = .ok (.iconst 1, 1) := by decide +kernel
theorem dX2_live_14 : decode cX2_live 14 = .ok (.if_icmp .ne 7, 3) := by decide +kernel
theorem dX2_live_17 : decode cX2_live 17 = .ok (.iconst 1, 1) := by decide +kernel
theorem dX2_live_18 : decode cX2_live 18 = .ok (.goto 4, 3) := by decide +kernel
theorem dX2_live_21 : decode cX2_live 21 = .ok (.iconst 0, 1) := by decide +kernel
theorem dX2_live_22 : decode cX2_live 22 = .ok (.ireturn, 1) := by decide +kernel
theorem dX2_member_0 : decode cX2_member 0 = .ok (.aload_n 0, 1) := by decide +kernel
theorem dX2_member_1 : decode cX2_member 1 = .ok (.getfield 54, 3) := by decide +kernel
theorem dX2_member_4 : decode cX2_member 4 = .ok (.ifCond .eq 15, 3) := by decide +kernel
theorem dX2_member_7 : decode cX2_member 7 = .ok (.aload_n 0, 1) := by decide +kernel
theorem dX2_member_8 : decode cX2_member 8 = .ok (.iload_n 1, 1) := by decide +kernel
theorem dX2_member_9 : decode cX2_member 9 = .ok (.invokevirtual 58, 3) := by decide +kernel
theorem dX2_member_12 : decode cX2_member 12 = .ok (.ifCond .eq 7, 3) := by decide +kernel
theorem dX2_member_15 : decode cX2_member 15 = .ok (.iconst 1, 1) := by decide +kernel
theorem dX2_member_16 : decode cX2_member 16 = .ok (.goto 4, 3) := by decide +kernel
theorem dX2_member_19 : decode cX2_member 19 = .ok (.iconst 0, 1) := by decide +kernel
theorem dX2_member_20 : decode cX2_member 20 = .ok (.ireturn, 1) := by decide +kernel
theorem dX2_up_0 : decode cX2_up 0 = .ok (.iload_n 1, 1) := by decide +kernel
theorem dX2_up_1 : decode cX2_up 1 = .ok (.iload_n 0, 1) := by decide +kernel
theorem dX2_up_2 : decode cX2_up 2 = .ok (.isub, 1) := by decide +kernel
theorem dX2_up_3 : decode cX2_up 3 = .ok (.sipush 256, 3) := by decide +kernel
theorem dX2_up_6 : decode cX2_up 6 = .ok (.iadd, 1) := by decide +kernel
theorem dX2_up_7 : decode cX2_up 7 = .ok (.sipush 256, 3) := by decide +kernel
theorem dX2_up_10 : decode cX2_up 10 = .ok (.irem, 1) := by decide +kernel
theorem dX2_up_11 : decode cX2_up 11 = .ok (.ireturn, 1) := by decide +kernel
theorem dX2_between_0 : decode cX2_between 0 = .ok (.iload_n 1, 1) := by decide +kernel
theorem dX2_between_1 : decode cX2_between 1 = .ok (.iload_n 2, 1) := by decide +kernel
theorem dX2_between_2 : decode cX2_between 2 = .ok (.if_icmp .ne 16, 3) := by decide +kernel
theorem dX2_between_5 : decode cX2_between 5 = .ok (.iload_n 0, 1) := by decide +kernel
theorem dX2_between_6 : decode cX2_between 6 = .ok (.iload_n 1, 1) := by decide +kernel
theorem dX2_between_7 : decode cX2_between 7 = .ok (.if_icmp .eq 7, 3) := by decide +kernel
theorem dX2_between_10 : decode cX2_between 10 = .ok (.iconst 1, 1) := by decide +kernel
theorem dX2_between_11 : decode cX2_between 11 = .ok (.goto 33, 3) := by decide +kernel
theorem dX2_between_14 : decode cX2_between 14 = .ok (.iconst 0, 1) := by decide +kernel
theorem dX2_between_15 : decode cX2_between 15 = .ok (.goto 29, 3) := by decide +kernel
theorem dX2_between_18 : decode cX2_between 18 = .ok (.iload_n 1, 1) := by decide +kernel
theorem dX2_between_19 : decode cX2_between 19 = .ok (.iload_n 0, 1) := by decide +kernel
theorem dX2_between_20 : decode cX2_between 20 = .ok (.invokestatic 61, 3) := by decide +kernel
theorem dX2_between_23 : decode cX2_between 23 = .ok (.ifCond .le 20, 3) := by decide +kernel
theorem dX2_between_26 : decode cX2_between 26 = .ok (.iload_n 1, 1) := by decide +kernel
theorem dX2_between_27 : decode cX2_between 27 = .ok (.iload_n 0, 1) := by decide +kernel
theorem dX2_between_28 : decode cX2_between 28 = .ok (.invokestatic 61, 3) := by decide +kernel
theorem dX2_between_31 : decode cX2_between 31 = .ok (.iload_n 1, 1) := by decide +kernel
theorem dX2_between_32 : decode cX2_between 32 = .ok (.iload_n 2, 1) := by decide +kernel
theorem dX2_between_33 : decode cX2_between 33 = .ok (.invokestatic 61, 3) := by decide +kernel
theorem dX2_between_36 : decode cX2_between 36 = .ok (.if_icmp .ge 7, 3) := by decide +kernel
theorem dX2_between_39 : decode cX2_between 39 = .ok (.iconst 1, 1) := by decide +kernel
theorem dX2_between_40 : decode cX2_between 40 = .ok (.goto 4, 3) := by decide +kernel
theorem dX2_between_43 : decode cX2_between 43 = .ok (.iconst 0, 1) := by decide +kernel
theorem dX2_between_44 : decode cX2_between 44 = .ok (.ireturn, 1) := by decide +kernel
theorem dX2_pointOf_0 : decode cX2_pointOf 0 = .ok (.iload_n 0, 1) := by decide +kernel
theorem dX2_pointOf_1 : decode cX2_pointOf 1 = .ok (.bipush 61, 2) := by decide +kernel
theorem dX2_pointOf_3 : decode cX2_pointOf 3 = .ok (.imul, 1) := by decide +kernel
theorem dX2_pointOf_4 : decode cX2_pointOf 4 = .ok (.bipush 17, 2) := by decide +kernel
theorem dX2_pointOf_6 : decode cX2_pointOf 6 = .ok (.iadd, 1) := by decide +kernel
theorem dX2_pointOf_7 : decode cX2_pointOf 7 = .ok (.sipush 256, 3) := by decide +kernel
theorem dX2_pointOf_10 : decode cX2_pointOf 10 = .ok (.irem, 1) := by decide +kernel
theorem dX2_pointOf_11 : decode cX2_pointOf 11 = .ok (.ireturn, 1) := by decide +kernel
theorem dX2_many_0 : decode cX2_many 0 = .ok (.iconst 0, 1) := by decide +kernel
theorem dX2_many_1 : decode cX2_many 1 = .ok (.istore_n 1, 1) := by decide +kernel
theorem dX2_many_2 : decode cX2_many 2 = .ok (.iconst 0, 1) := by decide +kernel
theorem dX2_many_3 : decode cX2_many 3 = .ok (.istore_n 2, 1) := by decide +kernel
theorem dX2_many_4 : decode cX2_many 4 = .ok (.iload_n 2, 1) := by decide +kernel
theorem dX2_many_5 : decode cX2_many 5 = .ok (.sipush 256, 3) := by decide +kernel
theorem dX2_many_8 : decode cX2_many 8 = .ok (.if_icmp .ge 27, 3) := by decide +kernel
theorem dX2_many_11 : decode cX2_many 11 = .ok (.aload_n 0, 1) := by decide +kernel
theorem dX2_many_12 : decode cX2_many 12 = .ok (.getfield 13, 3) := by decide +kernel
theorem dX2_many_15 : decode cX2_many 15 = .ok (.iload_n 2, 1) := by decide +kernel
theorem dX2_many_16 : decode cX2_many 16 = .ok (.iaload, 1) := by decide +kernel
theorem dX2_many_17 : decode cX2_many 17 = .ok (.iconst 1, 1) := by decide +kernel
theorem dX2_many_18 : decode cX2_many 18 = .ok (.if_icmp .ne 9, 3) := by decide +kernel
theorem dX2_many_21 : decode cX2_many 21 = .ok (.iload_n 1, 1) := by decide +kernel
theorem dX2_many_22 : decode cX2_many 22 = .ok (.iconst 1, 1) := by decide +kernel
theorem dX2_many_23 : decode cX2_many 23 = .ok (.iadd, 1) := by decide +kernel
theorem dX2_many_24 : decode cX2_many 24 = .ok (.goto 4, 3) := by decide +kernel
theorem dX2_many_27 : decode cX2_many 27 = .ok (.iload_n 1, 1) := by decide +kernel
theorem dX2_many_28 : decode cX2_many 28 = .ok (.istore_n 1, 1) := by decide +kernel
theorem dX2_many_29 : decode cX2_many 29 = .ok (.iinc 2 1, 3) := by decide +kernel
theorem dX2_many_32 : decode cX2_many 32 = .ok (.goto (-28), 3) := by decide +kernel
theorem dX2_many_35 : decode cX2_many 35 = .ok (.iload_n 1, 1) := by decide +kernel
theorem dX2_many_36 : decode cX2_many 36 = .ok (.ireturn, 1) := by decide +kernel
theorem dX2_next_0 : decode cX2_next 0 = .ok (.iconst 0, 1) := by decide +kernel
theorem dX2_next_1 : decode cX2_next 1 = .ok (.istore_n 2, 1) := by decide +kernel
theorem dX2_next_2 : decode cX2_next 2 = .ok (.iload_n 2, 1) := by decide +kernel
theorem dX2_next_3 : decode cX2_next 3 = .ok (.sipush 256, 3) := by decide +kernel
theorem dX2_next_6 : decode cX2_next 6 = .ok (.if_icmp .ge 33, 3) := by decide +kernel
theorem dX2_next_9 : decode cX2_next 9 = .ok (.aload_n 0, 1) := by decide +kernel
theorem dX2_next_10 : decode cX2_next 10 = .ok (.getfield 13, 3) := by decide +kernel
theorem dX2_next_13 : decode cX2_next 13 = .ok (.iload_n 1, 1) := by decide +kernel
theorem dX2_next_14 : decode cX2_next 14 = .ok (.iload_n 2, 1) := by decide +kernel
theorem dX2_next_15 : decode cX2_next 15 = .ok (.iadd, 1) := by decide +kernel
theorem dX2_next_16 : decode cX2_next 16 = .ok (.sipush 256, 3) := by decide +kernel
theorem dX2_next_19 : decode cX2_next 19 = .ok (.irem, 1) := by decide +kernel
theorem dX2_next_20 : decode cX2_next 20 = .ok (.iaload, 1) := by decide +kernel
theorem dX2_next_21 : decode cX2_next 21 = .ok (.iconst 1, 1) := by decide +kernel
theorem dX2_next_22 : decode cX2_next 22 = .ok (.if_icmp .ne 11, 3) := by decide +kernel
theorem dX2_next_25 : decode cX2_next 25 = .ok (.iload_n 1, 1) := by decide +kernel
theorem dX2_next_26 : decode cX2_next 26 = .ok (.iload_n 2, 1) := by decide +kernel
theorem dX2_next_27 : decode cX2_next 27 = .ok (.iadd, 1) := by decide +kernel
theorem dX2_next_28 : decode cX2_next 28 = .ok (.sipush 256, 3) := by decide +kernel
theorem dX2_next_31 : decode cX2_next 31 = .ok (.irem, 1) := by decide +kernel
theorem dX2_next_32 : decode cX2_next 32 = .ok (.ireturn, 1) := by decide +kernel
theorem dX2_next_33 : decode cX2_next 33 = .ok (.iinc 2 1, 3) := by decide +kernel
theorem dX2_next_36 : decode cX2_next 36 = .ok (.goto (-34), 3) := by decide +kernel
theorem dX2_next_39 : decode cX2_next 39 = .ok (.iconst (-1), 1) := by decide +kernel
theorem dX2_next_40 : decode cX2_next 40 = .ok (.ireturn, 1) := by decide +kernel
theorem dX2_last_0 : decode cX2_last 0 = .ok (.iconst 0, 1) := by decide +kernel
theorem dX2_last_1 : decode cX2_last 1 = .ok (.istore_n 2, 1) := by decide +kernel
theorem dX2_last_2 : decode cX2_last 2 = .ok (.iload_n 2, 1) := by decide +kernel
theorem dX2_last_3 : decode cX2_last 3 = .ok (.sipush 256, 3) := by decide +kernel
theorem dX2_last_6 : decode cX2_last 6 = .ok (.if_icmp .ge 41, 3) := by decide +kernel
theorem dX2_last_9 : decode cX2_last 9 = .ok (.aload_n 0, 1) := by decide +kernel
theorem dX2_last_10 : decode cX2_last 10 = .ok (.getfield 13, 3) := by decide +kernel
theorem dX2_last_13 : decode cX2_last 13 = .ok (.iload_n 1, 1) := by decide +kernel
theorem dX2_last_14 : decode cX2_last 14 = .ok (.sipush 256, 3) := by decide +kernel
theorem dX2_last_17 : decode cX2_last 17 = .ok (.iadd, 1) := by decide +kernel
theorem dX2_last_18 : decode cX2_last 18 = .ok (.iload_n 2, 1) := by decide +kernel
theorem dX2_last_19 : decode cX2_last 19 = .ok (.isub, 1) := by decide +kernel
theorem dX2_last_20 : decode cX2_last 20 = .ok (.sipush 256, 3) := by decide +kernel
theorem dX2_last_23 : decode cX2_last 23 = .ok (.irem, 1) := by decide +kernel
theorem dX2_last_24 : decode cX2_last 24 = .ok (.iaload, 1) := by decide +kernel
theorem dX2_last_25 : decode cX2_last 25 = .ok (.iconst 1, 1) := by decide +kernel
theorem dX2_last_26 : decode cX2_last 26 = .ok (.if_icmp .ne 15, 3) := by decide +kernel
theorem dX2_last_29 : decode cX2_last 29 = .ok (.iload_n 1, 1) := by decide +kernel
theorem dX2_last_30 : decode cX2_last 30 = .ok (.sipush 256, 3) := by decide +kernel
theorem dX2_last_33 : decode cX2_last 33 = .ok (.iadd, 1) := by decide +kernel
theorem dX2_last_34 : decode cX2_last 34 = .ok (.iload_n 2, 1) := by decide +kernel
theorem dX2_last_35 : decode cX2_last 35 = .ok (.isub, 1) := by decide +kernel
theorem dX2_last_36 : decode cX2_last 36 = .ok (.sipush 256, 3) := by decide +kernel
theorem dX2_last_39 : decode cX2_last 39 = .ok (.irem, 1) := by decide +kernel
theorem dX2_last_40 : decode cX2_last 40 = .ok (.ireturn, 1) := by decide +kernel
theorem dX2_last_41 : decode cX2_last 41 = .ok (.iinc 2 1, 3) := by decide +kernel
theorem dX2_last_44 : decode cX2_last 44 = .ok (.goto (-42), 3) := by decide +kernel
theorem dX2_last_47 : decode cX2_last 47 = .ok (.iconst (-1), 1) := by decide +kernel
theorem dX2_last_48 : decode cX2_last 48 = .ok (.ireturn, 1) := by decide +kernel
theorem dX2_depth_0 : decode cX2_depth 0 = .ok (.aload_n 0, 1) := by decide +kernel
theorem dX2_depth_1 : decode cX2_depth 1 = .ok (.iload_n 1, 1) := by decide +kernel
theorem dX2_depth_2 : decode cX2_depth 2 = .ok (.iconst 2, 1) := by decide +kernel
theorem dX2_depth_3 : decode cX2_depth 3 = .ok (.if_icmp .lt 12, 3) := by decide +kernel
theorem dX2_depth_6 : decode cX2_depth 6 = .ok (.iload_n 1, 1) := by decide +kernel
theorem dX2_depth_7 : decode cX2_depth 7 = .ok (.iconst 4, 1) := by decide +kernel
theorem dX2_depth_8 : decode cX2_depth 8 = .ok (.if_icmp .gt 7, 3) := by decide +kernel
theorem dX2_depth_11 : decode cX2_depth 11 = .ok (.iconst 1, 1) := by decide +kernel
theorem dX2_depth_12 : decode cX2_depth 12 = .ok (.goto 4, 3) := by decide +kernel
theorem dX2_depth_15 : decode cX2_depth 15 = .ok (.iconst 0, 1) := by decide +kernel
theorem dX2_depth_16 : decode cX2_depth 16 = .ok (.aload_n 0, 1) := by decide +kernel
theorem dX2_depth_17 : decode cX2_depth 17 = .ok (.getfield 54, 3) := by decide +kernel
theorem dX2_depth_20 : decode cX2_depth 20 = .ok (.ifCond .ne 14, 3) := by decide +kernel
theorem dX2_depth_23 : decode cX2_depth 23 = .ok (.aload_n 0, 1) := by decide +kernel
theorem dX2_depth_24 : decode cX2_depth 24 = .ok (.invokevirtual 65, 3) := by decide +kernel
theorem dX2_depth_27 : decode cX2_depth 27 = .ok (.ifCond .ne 7, 3) := by decide +kernel
theorem dX2_depth_30 : decode cX2_depth 30 = .ok (.iconst 1, 1) := by decide +kernel
theorem dX2_depth_31 : decode cX2_depth 31 = .ok (.goto 4, 3) := by decide +kernel
theorem dX2_depth_34 : decode cX2_depth 34 = .ok (.iconst 0, 1) := by decide +kernel
theorem dX2_depth_35 : decode cX2_depth 35 = .ok (.iconst 1, 1) := by decide +kernel
theorem dX2_depth_36 : decode cX2_depth 36 = .ok (.invokevirtual 69, 3) := by decide +kernel
theorem dX2_depth_39 : decode cX2_depth 39 = .ok (.ifCond .ne 5, 3) := by decide +kernel
theorem dX2_depth_42 : decode cX2_depth 42 = .ok (.iconst 0, 1) := by decide +kernel
theorem dX2_depth_43 : decode cX2_depth 43 = .ok (.ireturn, 1) := by decide +kernel
theorem dX2_depth_44 : decode cX2_depth 44 = .ok (.aload_n 0, 1) := by decide +kernel
theorem dX2_depth_45 : decode cX2_depth 45 = .ok (.getfield 7, 3) := by decide +kernel
theorem dX2_depth_48 : decode cX2_depth 48 = .ok (.istore_n 2, 1) := by decide +kernel
theorem dX2_depth_49 : decode cX2_depth 49 = .ok (.aload_n 0, 1) := by decide +kernel
theorem dX2_depth_50 : decode cX2_depth 50 = .ok (.iload_n 1, 1) := by decide +kernel
theorem dX2_depth_51 : decode cX2_depth 51 = .ok (.putfield 7, 3) := by decide +kernel
theorem dX2_depth_54 : decode cX2_depth 54 = .ok (.iload_n 2, 1) := by decide +kernel
theorem dX2_depth_55 : decode cX2_depth 55 = .ok (.ireturn, 1) := by decide +kernel
theorem dX2_found_0 : decode cX2_found 0 = .ok (.aload_n 0, 1) := by decide +kernel
theorem dX2_found_1 : decode cX2_found 1 = .ok (.iload_n 1, 1) := by decide +kernel
theorem dX2_found_2 : decode cX2_found 2 = .ok (.invokestatic 50, 3) := by decide +kernel
theorem dX2_found_5 : decode cX2_found 5 = .ok (.aload_n 0, 1) := by decide +kernel
theorem dX2_found_6 : decode cX2_found 6 = .ok (.getfield 54, 3) := by decide +kernel
theorem dX2_found_9 : decode cX2_found 9 = .ok (.ifCond .ne 32, 3) := by decide +kernel
theorem dX2_found_12 : decode cX2_found 12 = .ok (.iload_n 1, 1) := by decide +kernel
theorem dX2_found_13 : decode cX2_found 13 = .ok (.invokestatic 50, 3) := by decide +kernel
theorem dX2_found_16 : decode cX2_found 16 = .ok (.ifCond .eq 25, 3) := by decide +kernel
theorem dX2_found_19 : decode cX2_found 19 = .ok (.aload_n 0, 1) := by decide +kernel
theorem dX2_found_20 : decode cX2_found 20 = .ok (.getfield 13, 3) := by decide +kernel
theorem dX2_found_23 : decode cX2_found 23 = .ok (.iload_n 1, 1) := by decide +kernel
theorem dX2_found_24 : decode cX2_found 24 = .ok (.iaload, 1) := by decide +kernel
theorem dX2_found_25 : decode cX2_found 25 = .ok (.ifCond .ne 16, 3) := by decide +kernel
theorem dX2_found_28 : decode cX2_found 28 = .ok (.aload_n 0, 1) := by decide +kernel
theorem dX2_found_29 : decode cX2_found 29 = .ok (.invokevirtual 65, 3) := by decide +kernel
theorem dX2_found_32 : decode cX2_found 32 = .ok (.bipush 20, 2) := by decide +kernel
theorem dX2_found_34 : decode cX2_found 34 = .ok (.if_icmp .ge 7, 3) := by decide +kernel
theorem dX2_found_37 : decode cX2_found 37 = .ok (.iconst 1, 1) := by decide +kernel
theorem dX2_found_38 : decode cX2_found 38 = .ok (.goto 4, 3) := by decide +kernel
theorem dX2_found_41 : decode cX2_found 41 = .ok (.iconst 0, 1) := by decide +kernel
theorem dX2_found_42 : decode cX2_found 42 = .ok (.iconst 1, 1) := by decide +kernel
theorem dX2_found_43 : decode cX2_found 43 = .ok (.invokevirtual 69, 3) := by decide +kernel
theorem dX2_found_46 : decode cX2_found 46 = .ok (.ifCond .ne 5, 3) := by decide +kernel
theorem dX2_found_49 : decode cX2_found 49 = .ok (.iconst 0, 1) := by decide +kernel
theorem dX2_found_50 : decode cX2_found 50 = .ok (.ireturn, 1) := by decide +kernel
theorem dX2_found_51 : decode cX2_found 51 = .ok (.aload_n 0, 1) := by decide +kernel
theorem dX2_found_52 : decode cX2_found 52 = .ok (.getfield 13, 3) := by decide +kernel
theorem dX2_found_55 : decode cX2_found 55 = .ok (.iload_n 1, 1) := by decide +kernel
theorem dX2_found_56 : decode cX2_found 56 = .ok (.iconst 1, 1) := by decide +kernel
theorem dX2_found_57 : decode cX2_found 57 = .ok (.iastore, 1) := by decide +kernel
theorem dX2_found_58 : decode cX2_found 58 = .ok (.aload_n 0, 1) := by decide +kernel
theorem dX2_found_59 : decode cX2_found 59 = .ok (.invokevirtual 65, 3) := by decide +kernel
theorem dX2_found_62 : decode cX2_found 62 = .ok (.ireturn, 1) := by decide +kernel
theorem dX2_empty_0 : decode cX2_empty 0 = .ok (.aload_n 0, 1) := by decide +kernel
theorem dX2_empty_1 : decode cX2_empty 1 = .ok (.getfield 20, 3) := by decide +kernel
theorem dX2_empty_4 : decode cX2_empty 4 = .ok (.iload_n 1, 1) := by decide +kernel
theorem dX2_empty_5 : decode cX2_empty 5 = .ok (.iconst (-1), 1) := by decide +kernel
theorem dX2_empty_6 : decode cX2_empty 6 = .ok (.iastore, 1) := by decide +kernel
theorem dX2_empty_7 : decode cX2_empty 7 = .ok (.aload_n 0, 1) := by decide +kernel
theorem dX2_empty_8 : decode cX2_empty 8 = .ok (.getfield 26, 3) := by decide +kernel
theorem dX2_empty_11 : decode cX2_empty 11 = .ok (.iload_n 1, 1) := by decide +kernel
theorem dX2_empty_12 : decode cX2_empty 12 = .ok (.iconst 0, 1) := by decide +kernel
theorem dX2_empty_13 : decode cX2_empty 13 = .ok (.iastore, 1) := by decide +kernel
theorem dX2_empty_14 : decode cX2_empty 14 = .ok (.iconst 0, 1) := by decide +kernel
theorem dX2_empty_15 : decode cX2_empty 15 = .ok (.istore_n 2, 1) := by decide +kernel
theorem dX2_empty_16 : decode cX2_empty 16 = .ok (.iload_n 2, 1) := by decide +kernel
theorem dX2_empty_17 : decode cX2_empty 17 = .ok (.bipush 8, 2) := by decide +kernel
theorem dX2_empty_19 : decode cX2_empty 19 = .ok (.if_icmp .ge 21, 3) := by decide +kernel
theorem dX2_empty_22 : decode cX2_empty 22 = .ok (.aload_n 0, 1) := by decide +kernel
theorem dX2_empty_23 : decode cX2_empty 23 = .ok (.getfield 23, 3) := by decide +kernel
theorem dX2_empty_26 : decode cX2_empty 26 = .ok (.bipush 8, 2) := by decide +kernel
theorem dX2_empty_28 : decode cX2_empty 28 = .ok (.iload_n 1, 1) := by decide +kernel
theorem dX2_empty_29 : decode cX2_empty 29 = .ok (.imul, 1) := by decide +kernel
theorem dX2_empty_30 : decode cX2_empty 30 = .ok (.iload_n 2, 1) := by decide +kernel
theorem dX2_empty_31 : decode cX2_empty 31 = .ok (.iadd, 1) := by decide +kernel
theorem dX2_empty_32 : decode cX2_empty 32 = .ok (.iconst (-1), 1) := by decide +kernel
theorem dX2_empty_33 : decode cX2_empty 33 = .ok (.iastore, 1) := by decide +kernel
theorem dX2_empty_34 : decode cX2_empty 34 = .ok (.iinc 2 1, 3) := by decide +kernel
theorem dX2_empty_37 : decode cX2_empty 37 = .ok (.goto (-21), 3) := by decide +kernel
theorem dX2_empty_40 : decode cX2_empty 40 = .ok (.iconst 0, 1) := by decide +kernel
theorem dX2_empty_41 : decode cX2_empty 41 = .ok (.istore_n 2, 1) := by decide +kernel
theorem dX2_empty_42 : decode cX2_empty 42 = .ok (.iload_n 2, 1) := by decide +kernel
theorem dX2_empty_43 : decode cX2_empty 43 = .ok (.bipush 64, 2) := by decide +kernel
theorem dX2_empty_45 : decode cX2_empty 45 = .ok (.if_icmp .ge 21, 3) := by decide +kernel
theorem dX2_empty_48 : decode cX2_empty 48 = .ok (.aload_n 0, 1) := by decide +kernel
theorem dX2_empty_49 : decode cX2_empty 49 = .ok (.getfield 29, 3) := by decide +kernel
theorem dX2_empty_52 : decode cX2_empty 52 = .ok (.bipush 64, 2) := by decide +kernel
theorem dX2_empty_54 : decode cX2_empty 54 = .ok (.iload_n 1, 1) := by decide +kernel
theorem dX2_empty_55 : decode cX2_empty 55 = .ok (.imul, 1) := by decide +kernel
theorem dX2_empty_56 : decode cX2_empty 56 = .ok (.iload_n 2, 1) := by decide +kernel
theorem dX2_empty_57 : decode cX2_empty 57 = .ok (.iadd, 1) := by decide +kernel
theorem dX2_empty_58 : decode cX2_empty 58 = .ok (.iconst 0, 1) := by decide +kernel
theorem dX2_empty_59 : decode cX2_empty 59 = .ok (.iastore, 1) := by decide +kernel
theorem dX2_empty_60 : decode cX2_empty 60 = .ok (.iinc 2 1, 3) := by decide +kernel
theorem dX2_empty_63 : decode cX2_empty 63 = .ok (.goto (-21), 3) := by decide +kernel
theorem dX2_empty_66 : decode cX2_empty 66 = .ok (.return_, 1) := by decide +kernel
theorem dX2_open_0 : decode cX2_open 0 = .ok (.aload_n 0, 1) := by decide +kernel
theorem dX2_open_1 : decode cX2_open 1 = .ok (.aload_n 0, 1) := by decide +kernel
theorem dX2_open_2 : decode cX2_open 2 = .ok (.getfield 54, 3) := by decide +kernel
theorem dX2_open_5 : decode cX2_open 5 = .ok (.ifCond .ne 18, 3) := by decide +kernel
theorem dX2_open_8 : decode cX2_open 8 = .ok (.aload_n 0, 1) := by decide +kernel
theorem dX2_open_9 : decode cX2_open 9 = .ok (.invokevirtual 65, 3) := by decide +kernel
theorem dX2_open_12 : decode cX2_open 12 = .ok (.aload_n 0, 1) := by decide +kernel
theorem dX2_open_13 : decode cX2_open 13 = .ok (.getfield 7, 3) := by decide +kernel
theorem dX2_open_16 : decode cX2_open 16 = .ok (.if_icmp .le 7, 3) := by decide +kernel
theorem dX2_open_19 : decode cX2_open 19 = .ok (.iconst 1, 1) := by decide +kernel
theorem dX2_open_20 : decode cX2_open 20 = .ok (.goto 4, 3) := by decide +kernel
theorem dX2_open_23 : decode cX2_open 23 = .ok (.iconst 0, 1) := by decide +kernel
theorem dX2_open_24 : decode cX2_open 24 = .ok (.iconst 1, 1) := by decide +kernel
theorem dX2_open_25 : decode cX2_open 25 = .ok (.iconst 1, 1) := by decide +kernel
theorem dX2_open_26 : decode cX2_open 26 = .ok (.invokevirtual 69, 3) := by decide +kernel
theorem dX2_open_29 : decode cX2_open 29 = .ok (.ifCond .ne 5, 3) := by decide +kernel
theorem dX2_open_32 : decode cX2_open 32 = .ok (.iconst 0, 1) := by decide +kernel
theorem dX2_open_33 : decode cX2_open 33 = .ok (.ireturn, 1) := by decide +kernel
theorem dX2_open_34 : decode cX2_open 34 = .ok (.aload_n 0, 1) := by decide +kernel
theorem dX2_open_35 : decode cX2_open 35 = .ok (.iconst 1, 1) := by decide +kernel
theorem dX2_open_36 : decode cX2_open 36 = .ok (.putfield 54, 3) := by decide +kernel
theorem dX2_open_39 : decode cX2_open 39 = .ok (.iconst 0, 1) := by decide +kernel
theorem dX2_open_40 : decode cX2_open 40 = .ok (.istore_n 1, 1) := by decide +kernel
theorem dX2_open_41 : decode cX2_open 41 = .ok (.iload_n 1, 1) := by decide +kernel
theorem dX2_open_42 : decode cX2_open 42 = .ok (.sipush 256, 3) := by decide +kernel
theorem dX2_open_45 : decode cX2_open 45 = .ok (.if_icmp .ge 84, 3) := by decide +kernel
theorem dX2_open_48 : decode cX2_open 48 = .ok (.aload_n 0, 1) := by decide +kernel
theorem dX2_open_49 : decode cX2_open 49 = .ok (.getfield 13, 3) := by decide +kernel
theorem dX2_open_52 : decode cX2_open 52 = .ok (.iload_n 1, 1) := by decide +kernel
theorem dX2_open_53 : decode cX2_open 53 = .ok (.iaload, 1) := by decide +kernel
theorem dX2_open_54 : decode cX2_open 54 = .ok (.iconst 1, 1) := by decide +kernel
theorem dX2_open_55 : decode cX2_open 55 = .ok (.if_icmp .ne 68, 3) := by decide +kernel
theorem dX2_open_58 : decode cX2_open 58 = .ok (.aload_n 0, 1) := by decide +kernel
theorem dX2_open_59 : decode cX2_open 59 = .ok (.iload_n 1, 1) := by decide +kernel
theorem dX2_open_60 : decode cX2_open 60 = .ok (.invokevirtual 73, 3) := by decide +kernel
theorem dX2_open_63 : decode cX2_open 63 = .ok (.iload_n 1, 1) := by decide +kernel
theorem dX2_open_64 : decode cX2_open 64 = .ok (.istore_n 2, 1) := by decide +kernel
theorem dX2_open_65 : decode cX2_open 65 = .ok (.iconst 0, 1) := by decide +kernel
theorem dX2_open_66 : decode cX2_open 66 = .ok (.istore_n 3, 1) := by decide +kernel
theorem dX2_open_67 : decode cX2_open 67 = .ok (.iload_n 3, 1) := by decide +kernel
theorem dX2_open_68 : decode cX2_open 68 = .ok (.aload_n 0, 1) := by decide +kernel
theorem dX2_open_69 : decode cX2_open 69 = .ok (.getfield 7, 3) := by decide +kernel
theorem dX2_open_72 : decode cX2_open 72 = .ok (.if_icmp .ge 32, 3) := by decide +kernel
theorem dX2_open_75 : decode cX2_open 75 = .ok (.aload_n 0, 1) := by decide +kernel
theorem dX2_open_76 : decode cX2_open 76 = .ok (.iload_n 2, 1) := by decide +kernel
theorem dX2_open_77 : decode cX2_open 77 = .ok (.iconst 1, 1) := by decide +kernel
theorem dX2_open_78 : decode cX2_open 78 = .ok (.iadd, 1) := by decide +kernel
theorem dX2_open_79 : decode cX2_open 79 = .ok (.sipush 256, 3) := by decide +kernel
theorem dX2_open_82 : decode cX2_open 82 = .ok (.irem, 1) := by decide +kernel
theorem dX2_open_83 : decode cX2_open 83 = .ok (.invokevirtual 77, 3) := by decide +kernel
theorem dX2_open_86 : decode cX2_open 86 = .ok (.istore_n 2, 1) := by decide +kernel
theorem dX2_open_87 : decode cX2_open 87 = .ok (.aload_n 0, 1) := by decide +kernel
theorem dX2_open_88 : decode cX2_open 88 = .ok (.getfield 17, 3) := by decide +kernel
theorem dX2_open_91 : decode cX2_open 91 = .ok (.iconst 4, 1) := by decide +kernel
theorem dX2_open_92 : decode cX2_open 92 = .ok (.iload_n 1, 1) := by decide +kernel
theorem dX2_open_93 : decode cX2_open 93 = .ok (.imul, 1) := by decide +kernel
theorem dX2_open_94 : decode cX2_open 94 = .ok (.iload_n 3, 1) := by decide +kernel
theorem dX2_open_95 : decode cX2_open 95 = .ok (.iadd, 1) := by decide +kernel
theorem dX2_open_96 : decode cX2_open 96 = .ok (.iload_n 2, 1) := by decide +kernel
theorem dX2_open_97 : decode cX2_open 97 = .ok (.iastore, 1) := by decide +kernel
theorem dX2_open_98 : decode cX2_open 98 = .ok (.iinc 3 1, 3) := by decide +kernel
theorem dX2_open_101 : decode cX2_open 101 = .ok (.goto (-34), 3) := by decide +kernel
theorem dX2_open_104 : decode cX2_open 104 = .ok (.aload_n 0, 1) := by decide +kernel
theorem dX2_open_105 : decode cX2_open 105 = .ok (.getfield 20, 3) := by decide +kernel
theorem dX2_open_108 : decode cX2_open 108 = .ok (.iload_n 1, 1) := by decide +kernel
theorem dX2_open_109 : decode cX2_open 109 = .ok (.aload_n 0, 1) := by decide +kernel
theorem dX2_open_110 : decode cX2_open 110 = .ok (.iload_n 1, 1) := by decide +kernel
theorem dX2_open_111 : decode cX2_open 111 = .ok (.sipush 255, 3) := by decide +kernel
theorem dX2_open_114 : decode cX2_open 114 = .ok (.iadd, 1) := by decide +kernel
theorem dX2_open_115 : decode cX2_open 115 = .ok (.sipush 256, 3) := by decide +kernel
theorem dX2_open_118 : decode cX2_open 118 = .ok (.irem, 1) := by decide +kernel
theorem dX2_open_119 : decode cX2_open 119 = .ok (.invokevirtual 81, 3) := by decide +kernel
theorem dX2_open_122 : decode cX2_open 122 = .ok (.iastore, 1) := by decide +kernel
theorem dX2_open_123 : decode cX2_open 123 = .ok (.iinc 1 1, 3) := by decide +kernel
theorem dX2_open_126 : decode cX2_open 126 = .ok (.goto (-85), 3) := by decide +kernel
theorem dX2_open_129 : decode cX2_open 129 = .ok (.aload_n 0, 1) := by decide +kernel
theorem dX2_open_130 : decode cX2_open 130 = .ok (.invokevirtual 65, 3) := by decide +kernel
theorem dX2_open_133 : decode cX2_open 133 = .ok (.ireturn, 1) := by decide +kernel
theorem dX2_successor_0 : decode cX2_successor 0 = .ok (.iconst 0, 1) := by decide +kernel
theorem dX2_successor_1 : decode cX2_successor 1 = .ok (.istore_n 2, 1) := by decide +kernel
theorem dX2_successor_2 : decode cX2_successor 2 = .ok (.iload_n 2, 1) := by decide +kernel
theorem dX2_successor_3 : decode cX2_successor 3 = .ok (.aload_n 0, 1) := by decide +kernel
theorem dX2_successor_4 : decode cX2_successor 4 = .ok (.getfield 7, 3) := by decide +kernel
theorem dX2_successor_7 : decode cX2_successor 7 = .ok (.if_icmp .ge 37, 3) := by decide +kernel
theorem dX2_successor_10 : decode cX2_successor 10 = .ok (.aload_n 0, 1) := by decide +kernel
theorem dX2_successor_11 : decode cX2_successor 11 = .ok (.aload_n 0, 1) := by decide +kernel
theorem dX2_successor_12 : decode cX2_successor 12 = .ok (.getfield 17, 3) := by decide +kernel
theorem dX2_successor_15 : decode cX2_successor 15 = .ok (.iconst 4, 1) := by decide +kernel
theorem dX2_successor_16 : decode cX2_successor 16 = .ok (.iload_n 1, 1) := by decide +kernel
theorem dX2_successor_17 : decode cX2_successor 17 = .ok (.imul, 1) := by decide +kernel
theorem dX2_successor_18 : decode cX2_successor 18 = .ok (.iload_n 2, 1) := by decide +kernel
theorem dX2_successor_19 : decode cX2_successor 19 = .ok (.iadd, 1) := by decide +kernel
theorem dX2_successor_20 : decode cX2_successor 20 = .ok (.iaload, 1) := by decide +kernel
theorem dX2_successor_21 : decode cX2_successor 21 = .ok (.invokevirtual 58, 3) := by decide +kernel
theorem dX2_successor_24 : decode cX2_successor 24 = .ok (.ifCond .eq 14, 3) := by decide +kernel
theorem dX2_successor_27 : decode cX2_successor 27 = .ok (.aload_n 0, 1) := by decide +kernel
theorem dX2_successor_28 : decode cX2_successor 28 = .ok (.getfield 17, 3) := by decide +kernel
theorem dX2_successor_31 : decode cX2_successor 31 = .ok (.iconst 4, 1) := by decide +kernel
theorem dX2_successor_32 : decode cX2_successor 32 = .ok (.iload_n 1, 1) := by decide +kernel
theorem dX2_successor_33 : decode cX2_successor 33 = .ok (.imul, 1) := by decide +kernel
theorem dX2_successor_34 : decode cX2_successor 34 = .ok (.iload_n 2, 1) := by decide +kernel
theorem dX2_successor_35 : decode cX2_successor 35 = .ok (.iadd, 1) := by decide +kernel
theorem dX2_successor_36 : decode cX2_successor 36 = .ok (.iaload, 1) := by decide +kernel
theorem dX2_successor_37 : decode cX2_successor 37 = .ok (.ireturn, 1) := by decide +kernel
theorem dX2_successor_38 : decode cX2_successor 38 = .ok (.iinc 2 1, 3) := by decide +kernel
theorem dX2_successor_41 : decode cX2_successor 41 = .ok (.goto (-39), 3) := by decide +kernel
theorem dX2_successor_44 : decode cX2_successor 44 = .ok (.iconst (-1), 1) := by decide +kernel
theorem dX2_successor_45 : decode cX2_successor 45 = .ok (.ireturn, 1) := by decide +kernel
theorem dX2_takeOver_0 : decode cX2_takeOver 0 = .ok (.iconst 0, 1) := by decide +kernel
theorem dX2_takeOver_1 : decode cX2_takeOver 1 = .ok (.istore_n 3, 1) := by decide +kernel
theorem dX2_takeOver_2 : decode cX2_takeOver 2 = .ok (.iload_n 3, 1) := by decide +kernel
theorem dX2_takeOver_3 : decode cX2_takeOver 3 = .ok (.aload_n 0, 1) := by decide +kernel
theorem dX2_takeOver_4 : decode cX2_takeOver 4 = .ok (.getfield 7, 3) := by decide +kernel
theorem dX2_takeOver_7 : decode cX2_takeOver 7 = .ok (.if_icmp .ge 35, 3) := by decide +kernel
theorem dX2_takeOver_10 : decode cX2_takeOver 10 = .ok (.aload_n 0, 1) := by decide +kernel
theorem dX2_takeOver_11 : decode cX2_takeOver 11 = .ok (.getfield 38, 3) := by decide +kernel
theorem dX2_takeOver_14 : decode cX2_takeOver 14 = .ok (.iload_n 3, 1) := by decide +kernel
theorem dX2_takeOver_15 : decode cX2_takeOver 15 = .ok (.iload_n 3, 1) := by decide +kernel
theorem dX2_takeOver_16 : decode cX2_takeOver 16 = .ok (.ifCond .ne 7, 3) := by decide +kernel
theorem dX2_takeOver_19 : decode cX2_takeOver 19 = .ok (.iload_n 2, 1) := by decide +kernel
theorem dX2_takeOver_20 : decode cX2_takeOver 20 = .ok (.goto 15, 3) := by decide +kernel
theorem dX2_takeOver_23 : decode cX2_takeOver 23 = .ok (.aload_n 0, 1) := by decide +kernel
theorem dX2_takeOver_24 : decode cX2_takeOver 24 = .ok (.getfield 17, 3) := by decide +kernel
theorem dX2_takeOver_27 : decode cX2_takeOver 27 = .ok (.iconst 4, 1) := by decide +kernel
theorem dX2_takeOver_28 : decode cX2_takeOver 28 = .ok (.iload_n 2, 1) := by decide +kernel
theorem dX2_takeOver_29 : decode cX2_takeOver 29 = .ok (.imul, 1) := by decide +kernel
theorem dX2_takeOver_30 : decode cX2_takeOver 30 = .ok (.iload_n 3, 1) := by decide +kernel
theorem dX2_takeOver_31 : decode cX2_takeOver 31 = .ok (.iadd, 1) := by decide +kernel
theorem dX2_takeOver_32 : decode cX2_takeOver 32 = .ok (.iconst 1, 1) := by decide +kernel
theorem dX2_takeOver_33 : decode cX2_takeOver 33 = .ok (.isub, 1) := by decide +kernel
theorem dX2_takeOver_34 : decode cX2_takeOver 34 = .ok (.iaload, 1) := by decide +kernel
theorem dX2_takeOver_35 : decode cX2_takeOver 35 = .ok (.iastore, 1) := by decide +kernel
theorem dX2_takeOver_36 : decode cX2_takeOver 36 = .ok (.iinc 3 1, 3) := by decide +kernel
theorem dX2_takeOver_39 : decode cX2_takeOver 39 = .ok (.goto (-37), 3) := by decide +kernel
theorem dX2_takeOver_42 : decode cX2_takeOver 42 = .ok (.iconst 0, 1) := by decide +kernel
theorem dX2_takeOver_43 : decode cX2_takeOver 43 = .ok (.istore_n 3, 1) := by decide +kernel
theorem dX2_takeOver_44 : decode cX2_takeOver 44 = .ok (.iload_n 3, 1) := by decide +kernel
theorem dX2_takeOver_45 : decode cX2_takeOver 45 = .ok (.aload_n 0, 1) := by decide +kernel
theorem dX2_takeOver_46 : decode cX2_takeOver 46 = .ok (.getfield 7, 3) := by decide +kernel
theorem dX2_takeOver_49 : decode cX2_takeOver 49 = .ok (.if_icmp .ge 25, 3) := by decide +kernel
theorem dX2_takeOver_52 : decode cX2_takeOver 52 = .ok (.aload_n 0, 1) := by decide +kernel
theorem dX2_takeOver_53 : decode cX2_takeOver 53 = .ok (.getfield 17, 3) := by decide +kernel
theorem dX2_takeOver_56 : decode cX2_takeOver 56 = .ok (.iconst 4, 1) := by decide +kernel
theorem dX2_takeOver_57 : decode cX2_takeOver 57 = .ok (.iload_n 1, 1) := by decide +kernel
theorem dX2_takeOver_58 : decode cX2_takeOver 58 = .ok (.imul, 1) := by decide +kernel
theorem dX2_takeOver_59 : decode cX2_takeOver 59 = .ok (.iload_n 3, 1) := by decide +kernel
theorem dX2_takeOver_60 : decode cX2_takeOver 60 = .ok (.iadd, 1) := by decide +kernel
theorem dX2_takeOver_61 : decode cX2_takeOver 61 = .ok (.aload_n 0, 1) := by decide +kernel
theorem dX2_takeOver_62 : decode cX2_takeOver 62 = .ok (.getfield 38, 3) := by decide +kernel
theorem dX2_takeOver_65 : decode cX2_takeOver 65 = .ok (.iload_n 3, 1) := by decide +kernel
theorem dX2_takeOver_66 : decode cX2_takeOver 66 = .ok (.iaload, 1) := by decide +kernel
theorem dX2_takeOver_67 : decode cX2_takeOver 67 = .ok (.iastore, 1) := by decide +kernel
theorem dX2_takeOver_68 : decode cX2_takeOver 68 = .ok (.iinc 3 1, 3) := by decide +kernel
theorem dX2_takeOver_71 : decode cX2_takeOver 71 = .ok (.goto (-27), 3) := by decide +kernel
theorem dX2_takeOver_74 : decode cX2_takeOver 74 = .ok (.return_, 1) := by decide +kernel
theorem dX2_later_0 : decode cX2_later 0 = .ok (.aload_n 0, 1) := by decide +kernel
theorem dX2_later_1 : decode cX2_later 1 = .ok (.iload 4, 2) := by decide +kernel
theorem dX2_later_3 : decode cX2_later 3 = .ok (.invokevirtual 58, 3) := by decide +kernel
theorem dX2_later_6 : decode cX2_later 6 = .ok (.ifCond .eq 13, 3) := by decide +kernel
theorem dX2_later_9 : decode cX2_later 9 = .ok (.iload 4, 2) := by decide +kernel
theorem dX2_later_11 : decode cX2_later 11 = .ok (.iload_n 1, 1) := by decide +kernel
theorem dX2_later_12 : decode cX2_later 12 = .ok (.iload_n 2, 1) := by decide +kernel
theorem dX2_later_13 : decode cX2_later 13 = .ok (.invokestatic 84, 3) := by decide +kernel
theorem dX2_later_16 : decode cX2_later 16 = .ok (.ifCond .ne 5, 3) := by decide +kernel
theorem dX2_later_19 : decode cX2_later 19 = .ok (.iload_n 3, 1) := by decide +kernel
theorem dX2_later_20 : decode cX2_later 20 = .ok (.ireturn, 1) := by decide +kernel
theorem dX2_later_21 : decode cX2_later 21 = .ok (.iload_n 3, 1) := by decide +kernel
theorem dX2_later_22 : decode cX2_later 22 = .ok (.iconst (-1), 1) := by decide +kernel
theorem dX2_later_23 : decode cX2_later 23 = .ok (.if_icmp .eq 17, 3) := by decide +kernel
theorem dX2_later_26 : decode cX2_later 26 = .ok (.iload_n 1, 1) := by decide +kernel
theorem dX2_later_27 : decode cX2_later 27 = .ok (.iload 4, 2) := by decide +kernel
theorem dX2_later_29 : decode cX2_later 29 = .ok (.invokestatic 61, 3) := by decide +kernel
theorem dX2_later_32 : decode cX2_later 32 = .ok (.iload_n 1, 1) := by decide +kernel
theorem dX2_later_33 : decode cX2_later 33 = .ok (.iload_n 3, 1) := by decide +kernel
theorem dX2_later_34 : decode cX2_later 34 = .ok (.invokestatic 61, 3) := by decide +kernel
theorem dX2_later_37 : decode cX2_later 37 = .ok (.if_icmp .le 8, 3) := by decide +kernel
theorem dX2_later_40 : decode cX2_later 40 = .ok (.iload 4, 2) := by decide +kernel
theorem dX2_later_42 : decode cX2_later 42 = .ok (.goto 4, 3) := by decide +kernel
theorem dX2_later_45 : decode cX2_later 45 = .ok (.iload_n 3, 1) := by decide +kernel
theorem dX2_later_46 : decode cX2_later 46 = .ok (.ireturn, 1) := by decide +kernel
theorem dX2_lookFor_0 : decode cX2_lookFor 0 = .ok (.iload_n 1, 1) := by decide +kernel
theorem dX2_lookFor_1 : decode cX2_lookFor 1 = .ok (.istore_n 3, 1) := by decide +kernel
theorem dX2_lookFor_2 : decode cX2_lookFor 2 = .ok (.aload_n 0, 1) := by decide +kernel
theorem dX2_lookFor_3 : decode cX2_lookFor 3 = .ok (.iconst 0, 1) := by decide +kernel
theorem dX2_lookFor_4 : decode cX2_lookFor 4 = .ok (.putfield 88, 3) := by decide +kernel
theorem dX2_lookFor_7 : decode cX2_lookFor 7 = .ok (.aload_n 0, 1) := by decide +kernel
theorem dX2_lookFor_8 : decode cX2_lookFor 8 = .ok (.iload_n 3, 1) := by decide +kernel
theorem dX2_lookFor_9 : decode cX2_lookFor 9 = .ok (.invokevirtual 91, 3) := by decide +kernel
theorem dX2_lookFor_12 : decode cX2_lookFor 12 = .ok (.istore 4, 2) := by decide +kernel
theorem dX2_lookFor_14 : decode cX2_lookFor 14 = .ok (.iload_n 2, 1) := by decide +kernel
theorem dX2_lookFor_15 : decode cX2_lookFor 15 = .ok (.iload_n 3, 1) := by decide +kernel
theorem dX2_lookFor_16 : decode cX2_lookFor 16 = .ok (.if_icmp .ne 5, 3) := by decide +kernel
theorem dX2_lookFor_19 : decode cX2_lookFor 19 = .ok (.iload_n 3, 1) := by decide +kernel
theorem dX2_lookFor_20 : decode cX2_lookFor 20 = .ok (.ireturn, 1) := by decide +kernel
theorem dX2_lookFor_21 : decode cX2_lookFor 21 = .ok (.iload_n 2, 1) := by decide +kernel
theorem dX2_lookFor_22 : decode cX2_lookFor 22 = .ok (.iload 4, 2) := by decide +kernel
theorem dX2_lookFor_24 : decode cX2_lookFor 24 = .ok (.if_icmp .eq 13, 3) := by decide +kernel
theorem dX2_lookFor_27 : decode cX2_lookFor 27 = .ok (.iload_n 2, 1) := by decide +kernel
theorem dX2_lookFor_28 : decode cX2_lookFor 28 = .ok (.iload_n 3, 1) := by decide +kernel
theorem dX2_lookFor_29 : decode cX2_lookFor 29 = .ok (.iload 4, 2) := by decide +kernel
theorem dX2_lookFor_31 : decode cX2_lookFor 31 = .ok (.invokestatic 84, 3) := by decide +kernel
theorem dX2_lookFor_34 : decode cX2_lookFor 34 = .ok (.ifCond .eq 6, 3) := by decide +kernel
theorem dX2_lookFor_37 : decode cX2_lookFor 37 = .ok (.iload 4, 2) := by decide +kernel
theorem dX2_lookFor_39 : decode cX2_lookFor 39 = .ok (.ireturn, 1) := by decide +kernel
theorem dX2_lookFor_40 : decode cX2_lookFor 40 = .ok (.iconst (-1), 1) := by decide +kernel
theorem dX2_lookFor_41 : decode cX2_lookFor 41 = .ok (.istore 5, 2) := by decide +kernel
theorem dX2_lookFor_43 : decode cX2_lookFor 43 = .ok (.iconst 0, 1) := by decide +kernel
theorem dX2_lookFor_44 : decode cX2_lookFor 44 = .ok (.istore 6, 2) := by decide +kernel
theorem dX2_lookFor_46 : decode cX2_lookFor 46 = .ok (.iload 6, 2) := by decide +kernel
theorem dX2_lookFor_48 : decode cX2_lookFor 48 = .ok (.bipush 8, 2) := by decide +kernel
theorem dX2_lookFor_50 : decode cX2_lookFor 50 = .ok (.if_icmp .ge 31, 3) := by decide +kernel
theorem dX2_lookFor_53 : decode cX2_lookFor 53 = .ok (.aload_n 0, 1) := by decide +kernel
theorem dX2_lookFor_54 : decode cX2_lookFor 54 = .ok (.iload_n 3, 1) := by decide +kernel
theorem dX2_lookFor_55 : decode cX2_lookFor 55 = .ok (.iload_n 2, 1) := by decide +kernel
theorem dX2_lookFor_56 : decode cX2_lookFor 56 = .ok (.iload 5, 2) := by decide +kernel
theorem dX2_lookFor_58 : decode cX2_lookFor 58 = .ok (.aload_n 0, 1) := by decide +kernel
theorem dX2_lookFor_59 : decode cX2_lookFor 59 = .ok (.getfield 23, 3) := by decide +kernel
theorem dX2_lookFor_62 : decode cX2_lookFor 62 = .ok (.bipush 8, 2) := by decide +kernel
theorem dX2_lookFor_64 : decode cX2_lookFor 64 = .ok (.iload_n 3, 1) := by decide +kernel
theorem dX2_lookFor_65 : decode cX2_lookFor 65 = .ok (.imul, 1) := by decide +kernel
theorem dX2_lookFor_66 : decode cX2_lookFor 66 = .ok (.iload 6, 2) := by decide +kernel
theorem dX2_lookFor_68 : decode cX2_lookFor 68 = .ok (.iadd, 1) := by decide +kernel
theorem dX2_lookFor_69 : decode cX2_lookFor 69 = .ok (.iaload, 1) := by decide +kernel
theorem dX2_lookFor_70 : decode cX2_lookFor 70 = .ok (.invokevirtual 94, 3) := by decide +kernel
theorem dX2_lookFor_73 : decode cX2_lookFor 73 = .ok (.istore 5, 2) := by decide +kernel
theorem dX2_lookFor_75 : decode cX2_lookFor 75 = .ok (.iinc 6 1, 3) := by decide +kernel
theorem dX2_lookFor_78 : decode cX2_lookFor 78 = .ok (.goto (-32), 3) := by decide +kernel
theorem dX2_lookFor_81 : decode cX2_lookFor 81 = .ok (.iconst 0, 1) := by decide +kernel
theorem dX2_lookFor_82 : decode cX2_lookFor 82 = .ok (.istore 6, 2) := by decide +kernel
theorem dX2_lookFor_84 : decode cX2_lookFor 84 = .ok (.iload 6, 2) := by decide +kernel
theorem dX2_lookFor_86 : decode cX2_lookFor 86 = .ok (.aload_n 0, 1) := by decide +kernel
theorem dX2_lookFor_87 : decode cX2_lookFor 87 = .ok (.getfield 7, 3) := by decide +kernel
theorem dX2_lookFor_90 : decode cX2_lookFor 90 = .ok (.if_icmp .ge 30, 3) := by decide +kernel
theorem dX2_lookFor_93 : decode cX2_lookFor 93 = .ok (.aload_n 0, 1) := by decide +kernel
theorem dX2_lookFor_94 : decode cX2_lookFor 94 = .ok (.iload_n 3, 1) := by decide +kernel
theorem dX2_lookFor_95 : decode cX2_lookFor 95 = .ok (.iload_n 2, 1) := by decide +kernel
theorem dX2_lookFor_96 : decode cX2_lookFor 96 = .ok (.iload 5, 2) := by decide +kernel
theorem dX2_lookFor_98 : decode cX2_lookFor 98 = .ok (.aload_n 0, 1) := by decide +kernel
theorem dX2_lookFor_99 : decode cX2_lookFor 99 = .ok (.getfield 17, 3) := by decide +kernel
theorem dX2_lookFor_102 : decode cX2_lookFor 102 = .ok (.iconst 4, 1) := by decide +kernel
theorem dX2_lookFor_103 : decode cX2_lookFor 103 = .ok (.iload_n 3, 1) := by decide +kernel
theorem dX2_lookFor_104 : decode cX2_lookFor 104 = .ok (.imul, 1) := by decide +kernel
theorem dX2_lookFor_105 : decode cX2_lookFor 105 = .ok (.iload 6, 2) := by decide +kernel
theorem dX2_lookFor_107 : decode cX2_lookFor 107 = .ok (.iadd, 1) := by decide +kernel
theorem dX2_lookFor_108 : decode cX2_lookFor 108 = .ok (.iaload, 1) := by decide +kernel
theorem dX2_lookFor_109 : decode cX2_lookFor 109 = .ok (.invokevirtual 94, 3) := by decide +kernel
theorem dX2_lookFor_112 : decode cX2_lookFor 112 = .ok (.istore 5, 2) := by decide +kernel
theorem dX2_lookFor_114 : decode cX2_lookFor 114 = .ok (.iinc 6 1, 3) := by decide +kernel
theorem dX2_lookFor_117 : decode cX2_lookFor 117 = .ok (.goto (-33), 3) := by decide +kernel
theorem dX2_lookFor_120 : decode cX2_lookFor 120 = .ok (.iload 5, 2) := by decide +kernel
theorem dX2_lookFor_122 : decode cX2_lookFor 122 = .ok (.istore_n 3, 1) := by decide +kernel
theorem dX2_lookFor_123 : decode cX2_lookFor 123 = .ok (.aload_n 0, 1) := by decide +kernel
theorem dX2_lookFor_124 : decode cX2_lookFor 124 = .ok (.getfield 41, 3) := by decide +kernel
theorem dX2_lookFor_127 : decode cX2_lookFor 127 = .ok (.aload_n 0, 1) := by decide +kernel
theorem dX2_lookFor_128 : decode cX2_lookFor 128 = .ok (.getfield 88, 3) := by decide +kernel
theorem dX2_lookFor_131 : decode cX2_lookFor 131 = .ok (.iload_n 3, 1) := by decide +kernel
theorem dX2_lookFor_132 : decode cX2_lookFor 132 = .ok (.iastore, 1) := by decide +kernel
theorem dX2_lookFor_133 : decode cX2_lookFor 133 = .ok (.aload_n 0, 1) := by decide +kernel
theorem dX2_lookFor_134 : decode cX2_lookFor 134 = .ok (.dup, 1) := by decide +kernel
theorem dX2_lookFor_135 : decode cX2_lookFor 135 = .ok (.getfield 88, 3) := by decide +kernel
theorem dX2_lookFor_138 : decode cX2_lookFor 138 = .ok (.iconst 1, 1) := by decide +kernel
theorem dX2_lookFor_139 : decode cX2_lookFor 139 = .ok (.iadd, 1) := by decide +kernel
theorem dX2_lookFor_140 : decode cX2_lookFor 140 = .ok (.putfield 88, 3) := by decide +kernel
theorem dX2_lookFor_143 : decode cX2_lookFor 143 = .ok (.aload_n 0, 1) := by decide +kernel
theorem dX2_lookFor_144 : decode cX2_lookFor 144 = .ok (.dup, 1) := by decide +kernel
theorem dX2_lookFor_145 : decode cX2_lookFor 145 = .ok (.getfield 98, 3) := by decide +kernel
theorem dX2_lookFor_148 : decode cX2_lookFor 148 = .ok (.iconst 1, 1) := by decide +kernel
theorem dX2_lookFor_149 : decode cX2_lookFor 149 = .ok (.iadd, 1) := by decide +kernel
theorem dX2_lookFor_150 : decode cX2_lookFor 150 = .ok (.putfield 98, 3) := by decide +kernel
theorem dX2_lookFor_153 : decode cX2_lookFor 153 = .ok (.goto (-146), 3) := by decide +kernel
theorem dX2_join_0 : decode cX2_join 0 = .ok (.aload_n 0, 1) := by decide +kernel
theorem dX2_join_1 : decode cX2_join 1 = .ok (.aload_n 0, 1) := by decide +kernel
theorem dX2_join_2 : decode cX2_join 2 = .ok (.iload_n 2, 1) := by decide +kernel
theorem dX2_join_3 : decode cX2_join 3 = .ok (.invokevirtual 101, 3) := by decide +kernel
theorem dX2_join_6 : decode cX2_join 6 = .ok (.iload_n 1, 1) := by decide +kernel
theorem dX2_join_7 : decode cX2_join 7 = .ok (.invokestatic 50, 3) := by decide +kernel
theorem dX2_join_10 : decode cX2_join 10 = .ok (.iload_n 1, 1) := by decide +kernel
theorem dX2_join_11 : decode cX2_join 11 = .ok (.invokestatic 50, 3) := by decide +kernel
theorem dX2_join_14 : decode cX2_join 14 = .ok (.ifCond .eq 25, 3) := by decide +kernel
theorem dX2_join_17 : decode cX2_join 17 = .ok (.aload_n 0, 1) := by decide +kernel
theorem dX2_join_18 : decode cX2_join 18 = .ok (.getfield 13, 3) := by decide +kernel
theorem dX2_join_21 : decode cX2_join 21 = .ok (.iload_n 1, 1) := by decide +kernel
theorem dX2_join_22 : decode cX2_join 22 = .ok (.iaload, 1) := by decide +kernel
theorem dX2_join_23 : decode cX2_join 23 = .ok (.ifCond .ne 16, 3) := by decide +kernel
theorem dX2_join_26 : decode cX2_join 26 = .ok (.aload_n 0, 1) := by decide +kernel
theorem dX2_join_27 : decode cX2_join 27 = .ok (.invokevirtual 65, 3) := by decide +kernel
theorem dX2_join_30 : decode cX2_join 30 = .ok (.bipush 20, 2) := by decide +kernel
theorem dX2_join_32 : decode cX2_join 32 = .ok (.if_icmp .ge 7, 3) := by decide +kernel
theorem dX2_join_35 : decode cX2_join 35 = .ok (.iconst 1, 1) := by decide +kernel
theorem dX2_join_36 : decode cX2_join 36 = .ok (.goto 4, 3) := by decide +kernel
theorem dX2_join_39 : decode cX2_join 39 = .ok (.iconst 0, 1) := by decide +kernel
theorem dX2_join_40 : decode cX2_join 40 = .ok (.invokevirtual 69, 3) := by decide +kernel
theorem dX2_join_43 : decode cX2_join 43 = .ok (.ifCond .ne 5, 3) := by decide +kernel
theorem dX2_join_46 : decode cX2_join 46 = .ok (.iconst 0, 1) := by decide +kernel
theorem dX2_join_47 : decode cX2_join 47 = .ok (.ireturn, 1) := by decide +kernel
theorem dX2_join_48 : decode cX2_join 48 = .ok (.aload_n 0, 1) := by decide +kernel
theorem dX2_join_49 : decode cX2_join 49 = .ok (.iload_n 2, 1) := by decide +kernel
theorem dX2_join_50 : decode cX2_join 50 = .ok (.iload_n 1, 1) := by decide +kernel
theorem dX2_join_51 : decode cX2_join 51 = .ok (.invokevirtual 104, 3) := by decide +kernel
theorem dX2_join_54 : decode cX2_join 54 = .ok (.istore_n 3, 1) := by decide +kernel
theorem dX2_join_55 : decode cX2_join 55 = .ok (.aload_n 0, 1) := by decide +kernel
theorem dX2_join_56 : decode cX2_join 56 = .ok (.getfield 13, 3) := by decide +kernel
theorem dX2_join_59 : decode cX2_join 59 = .ok (.iload_n 1, 1) := by decide +kernel
theorem dX2_join_60 : decode cX2_join 60 = .ok (.iconst 1, 1) := by decide +kernel
theorem dX2_join_61 : decode cX2_join 61 = .ok (.iastore, 1) := by decide +kernel
theorem dX2_join_62 : decode cX2_join 62 = .ok (.aload_n 0, 1) := by decide +kernel
theorem dX2_join_63 : decode cX2_join 63 = .ok (.iload_n 1, 1) := by decide +kernel
theorem dX2_join_64 : decode cX2_join 64 = .ok (.invokevirtual 73, 3) := by decide +kernel
theorem dX2_join_67 : decode cX2_join 67 = .ok (.aload_n 0, 1) := by decide +kernel
theorem dX2_join_68 : decode cX2_join 68 = .ok (.iload_n 1, 1) := by decide +kernel
theorem dX2_join_69 : decode cX2_join 69 = .ok (.iload_n 3, 1) := by decide +kernel
theorem dX2_join_70 : decode cX2_join 70 = .ok (.invokevirtual 107, 3) := by decide +kernel
theorem dX2_join_73 : decode cX2_join 73 = .ok (.iload_n 3, 1) := by decide +kernel
theorem dX2_join_74 : decode cX2_join 74 = .ok (.ireturn, 1) := by decide +kernel
theorem dX2_without_0 : decode cX2_without 0 = .ok (.iconst 1, 1) := by decide +kernel
theorem dX2_without_1 : decode cX2_without 1 = .ok (.istore_n 2, 1) := by decide +kernel
theorem dX2_without_2 : decode cX2_without 2 = .ok (.iconst 0, 1) := by decide +kernel
theorem dX2_without_3 : decode cX2_without 3 = .ok (.istore_n 3, 1) := by decide +kernel
theorem dX2_without_4 : decode cX2_without 4 = .ok (.iload_n 3, 1) := by decide +kernel
theorem dX2_without_5 : decode cX2_without 5 = .ok (.sipush 256, 3) := by decide +kernel
theorem dX2_without_8 : decode cX2_without 8 = .ok (.if_icmp .ge 110, 3) := by decide +kernel
theorem dX2_without_11 : decode cX2_without 11 = .ok (.aload_n 0, 1) := by decide +kernel
theorem dX2_without_12 : decode cX2_without 12 = .ok (.getfield 13, 3) := by decide +kernel
theorem dX2_without_15 : decode cX2_without 15 = .ok (.iload_n 3, 1) := by decide +kernel
theorem dX2_without_16 : decode cX2_without 16 = .ok (.iaload, 1) := by decide +kernel
theorem dX2_without_17 : decode cX2_without 17 = .ok (.iconst 1, 1) := by decide +kernel
theorem dX2_without_18 : decode cX2_without 18 = .ok (.if_icmp .ne 8, 3) := by decide +kernel
theorem dX2_without_21 : decode cX2_without 21 = .ok (.iload_n 3, 1) := by decide +kernel
theorem dX2_without_22 : decode cX2_without 22 = .ok (.iload_n 1, 1) := by decide +kernel
theorem dX2_without_23 : decode cX2_without 23 = .ok (.if_icmp .ne 7, 3) := by decide +kernel
theorem dX2_without_26 : decode cX2_without 26 = .ok (.iconst 1, 1) := by decide +kernel
theorem dX2_without_27 : decode cX2_without 27 = .ok (.goto 4, 3) := by decide +kernel
theorem dX2_without_30 : decode cX2_without 30 = .ok (.iconst 0, 1) := by decide +kernel
theorem dX2_without_31 : decode cX2_without 31 = .ok (.istore 4, 2) := by decide +kernel
theorem dX2_without_33 : decode cX2_without 33 = .ok (.iconst 0, 1) := by decide +kernel
theorem dX2_without_34 : decode cX2_without 34 = .ok (.istore 5, 2) := by decide +kernel
theorem dX2_without_36 : decode cX2_without 36 = .ok (.iload 5, 2) := by decide +kernel
theorem dX2_without_38 : decode cX2_without 38 = .ok (.aload_n 0, 1) := by decide +kernel
theorem dX2_without_39 : decode cX2_without 39 = .ok (.getfield 7, 3) := by decide +kernel
theorem dX2_without_42 : decode cX2_without 42 = .ok (.if_icmp .ge 55, 3) := by decide +kernel
theorem dX2_without_45 : decode cX2_without 45 = .ok (.aload_n 0, 1) := by decide +kernel
theorem dX2_without_46 : decode cX2_without 46 = .ok (.getfield 17, 3) := by decide +kernel
theorem dX2_without_49 : decode cX2_without 49 = .ok (.iconst 4, 1) := by decide +kernel
theorem dX2_without_50 : decode cX2_without 50 = .ok (.iload_n 3, 1) := by decide +kernel
theorem dX2_without_51 : decode cX2_without 51 = .ok (.imul, 1) := by decide +kernel
theorem dX2_without_52 : decode cX2_without 52 = .ok (.iload 5, 2) := by decide +kernel
theorem dX2_without_54 : decode cX2_without 54 = .ok (.iadd, 1) := by decide +kernel
theorem dX2_without_55 : decode cX2_without 55 = .ok (.iaload, 1) := by decide +kernel
theorem dX2_without_56 : decode cX2_without 56 = .ok (.istore 6, 2) := by decide +kernel
theorem dX2_without_58 : decode cX2_without 58 = .ok (.iload 4, 2) := by decide +kernel
theorem dX2_without_60 : decode cX2_without 60 = .ok (.ifCond .ne 24, 3) := by decide +kernel
theorem dX2_without_63 : decode cX2_without 63 = .ok (.aload_n 0, 1) := by decide +kernel
theorem dX2_without_64 : decode cX2_without 64 = .ok (.iload 6, 2) := by decide +kernel
theorem dX2_without_66 : decode cX2_without 66 = .ok (.invokevirtual 58, 3) := by decide +kernel
theorem dX2_without_69 : decode cX2_without 69 = .ok (.ifCond .eq 19, 3) := by decide +kernel
theorem dX2_without_72 : decode cX2_without 72 = .ok (.iload 6, 2) := by decide +kernel
theorem dX2_without_74 : decode cX2_without 74 = .ok (.iload_n 1, 1) := by decide +kernel
theorem dX2_without_75 : decode cX2_without 75 = .ok (.if_icmp .eq 13, 3) := by decide +kernel
theorem dX2_without_78 : decode cX2_without 78 = .ok (.iload 6, 2) := by decide +kernel
theorem dX2_without_80 : decode cX2_without 80 = .ok (.iload_n 3, 1) := by decide +kernel
theorem dX2_without_81 : decode cX2_without 81 = .ok (.if_icmp .eq 7, 3) := by decide +kernel
theorem dX2_without_84 : decode cX2_without 84 = .ok (.iconst 1, 1) := by decide +kernel
theorem dX2_without_85 : decode cX2_without 85 = .ok (.goto 4, 3) := by decide +kernel
theorem dX2_without_88 : decode cX2_without 88 = .ok (.iconst 0, 1) := by decide +kernel
theorem dX2_without_89 : decode cX2_without 89 = .ok (.istore 4, 2) := by decide +kernel
theorem dX2_without_91 : decode cX2_without 91 = .ok (.iinc 5 1, 3) := by decide +kernel
theorem dX2_without_94 : decode cX2_without 94 = .ok (.goto (-58), 3) := by decide +kernel
theorem dX2_without_97 : decode cX2_without 97 = .ok (.iload_n 2, 1) := by decide +kernel
theorem dX2_without_98 : decode cX2_without 98 = .ok (.ifCond .eq 12, 3) := by decide +kernel
theorem dX2_without_101 : decode cX2_without 101 = .ok (.iload 4, 2) := by decide +kernel
theorem dX2_without_103 : decode cX2_without 103 = .ok (.ifCond .eq 7, 3) := by decide +kernel
theorem dX2_without_106 : decode cX2_without 106 = .ok (.iconst 1, 1) := by decide +kernel
theorem dX2_without_107 : decode cX2_without 107 = .ok (.goto 4, 3) := by decide +kernel
theorem dX2_without_110 : decode cX2_without 110 = .ok (.iconst 0, 1) := by decide +kernel
theorem dX2_without_111 : decode cX2_without 111 = .ok (.istore_n 2, 1) := by decide +kernel
theorem dX2_without_112 : decode cX2_without 112 = .ok (.iinc 3 1, 3) := by decide +kernel
theorem dX2_without_115 : decode cX2_without 115 = .ok (.goto (-111), 3) := by decide +kernel
theorem dX2_without_118 : decode cX2_without 118 = .ok (.iload_n 2, 1) := by decide +kernel
theorem dX2_without_119 : decode cX2_without 119 = .ok (.ireturn, 1) := by decide +kernel
theorem dX2_fail_0 : decode cX2_fail 0 = .ok (.aload_n 0, 1) := by decide +kernel
theorem dX2_fail_1 : decode cX2_fail 1 = .ok (.iload_n 1, 1) := by decide +kernel
theorem dX2_fail_2 : decode cX2_fail 2 = .ok (.invokevirtual 101, 3) := by decide +kernel
theorem dX2_fail_5 : decode cX2_fail 5 = .ok (.istore_n 2, 1) := by decide +kernel
theorem dX2_fail_6 : decode cX2_fail 6 = .ok (.aload_n 0, 1) := by decide +kernel
theorem dX2_fail_7 : decode cX2_fail 7 = .ok (.iload_n 2, 1) := by decide +kernel
theorem dX2_fail_8 : decode cX2_fail 8 = .ok (.iload_n 2, 1) := by decide +kernel
theorem dX2_fail_9 : decode cX2_fail 9 = .ok (.ifCond .eq 28, 3) := by decide +kernel
theorem dX2_fail_12 : decode cX2_fail 12 = .ok (.aload_n 0, 1) := by decide +kernel
theorem dX2_fail_13 : decode cX2_fail 13 = .ok (.invokevirtual 65, 3) := by decide +kernel
theorem dX2_fail_16 : decode cX2_fail 16 = .ok (.iconst 1, 1) := by decide +kernel
theorem dX2_fail_17 : decode cX2_fail 17 = .ok (.isub, 1) := by decide +kernel
theorem dX2_fail_18 : decode cX2_fail 18 = .ok (.aload_n 0, 1) := by decide +kernel
theorem dX2_fail_19 : decode cX2_fail 19 = .ok (.getfield 7, 3) := by decide +kernel
theorem dX2_fail_22 : decode cX2_fail 22 = .ok (.if_icmp .le 15, 3) := by decide +kernel
theorem dX2_fail_25 : decode cX2_fail 25 = .ok (.aload_n 0, 1) := by decide +kernel
theorem dX2_fail_26 : decode cX2_fail 26 = .ok (.iload_n 1, 1) := by decide +kernel
theorem dX2_fail_27 : decode cX2_fail 27 = .ok (.invokevirtual 111, 3) := by decide +kernel
theorem dX2_fail_30 : decode cX2_fail 30 = .ok (.ifCond .eq 7, 3) := by decide +kernel
theorem dX2_fail_33 : decode cX2_fail 33 = .ok (.iconst 1, 1) := by decide +kernel
theorem dX2_fail_34 : decode cX2_fail 34 = .ok (.goto 4, 3) := by decide +kernel
theorem dX2_fail_37 : decode cX2_fail 37 = .ok (.iconst 0, 1) := by decide +kernel
theorem dX2_fail_38 : decode cX2_fail 38 = .ok (.iconst 1, 1) := by decide +kernel
theorem dX2_fail_39 : decode cX2_fail 39 = .ok (.invokevirtual 69, 3) := by decide +kernel
theorem dX2_fail_42 : decode cX2_fail 42 = .ok (.ifCond .ne 5, 3) := by decide +kernel
theorem dX2_fail_45 : decode cX2_fail 45 = .ok (.iconst 0, 1) := by decide +kernel
theorem dX2_fail_46 : decode cX2_fail 46 = .ok (.ireturn, 1) := by decide +kernel
theorem dX2_fail_47 : decode cX2_fail 47 = .ok (.aload_n 0, 1) := by decide +kernel
theorem dX2_fail_48 : decode cX2_fail 48 = .ok (.getfield 13, 3) := by decide +kernel
theorem dX2_fail_51 : decode cX2_fail 51 = .ok (.iload_n 1, 1) := by decide +kernel
theorem dX2_fail_52 : decode cX2_fail 52 = .ok (.iconst 2, 1) := by decide +kernel
theorem dX2_fail_53 : decode cX2_fail 53 = .ok (.iastore, 1) := by decide +kernel
theorem dX2_fail_54 : decode cX2_fail 54 = .ok (.aload_n 0, 1) := by decide +kernel
theorem dX2_fail_55 : decode cX2_fail 55 = .ok (.iload_n 1, 1) := by decide +kernel
theorem dX2_fail_56 : decode cX2_fail 56 = .ok (.invokevirtual 73, 3) := by decide +kernel
theorem dX2_fail_59 : decode cX2_fail 59 = .ok (.aload_n 0, 1) := by decide +kernel
theorem dX2_fail_60 : decode cX2_fail 60 = .ok (.invokevirtual 65, 3) := by decide +kernel
theorem dX2_fail_63 : decode cX2_fail 63 = .ok (.ireturn, 1) := by decide +kernel
theorem dX2_stable_0 : decode cX2_stable 0 = .ok (.aload_n 0, 1) := by decide +kernel
theorem dX2_stable_1 : decode cX2_stable 1 = .ok (.iload_n 1, 1) := by decide +kernel
theorem dX2_stable_2 : decode cX2_stable 2 = .ok (.invokevirtual 91, 3) := by decide +kernel
theorem dX2_stable_5 : decode cX2_stable 5 = .ok (.istore_n 2, 1) := by decide +kernel
theorem dX2_stable_6 : decode cX2_stable 6 = .ok (.aload_n 0, 1) := by decide +kernel
theorem dX2_stable_7 : decode cX2_stable 7 = .ok (.iload_n 1, 1) := by decide +kernel
theorem dX2_stable_8 : decode cX2_stable 8 = .ok (.iload_n 2, 1) := by decide +kernel
theorem dX2_stable_9 : decode cX2_stable 9 = .ok (.invokevirtual 107, 3) := by decide +kernel
theorem dX2_stable_12 : decode cX2_stable 12 = .ok (.aload_n 0, 1) := by decide +kernel
theorem dX2_stable_13 : decode cX2_stable 13 = .ok (.getfield 20, 3) := by decide +kernel
theorem dX2_stable_16 : decode cX2_stable 16 = .ok (.iload_n 2, 1) := by decide +kernel
theorem dX2_stable_17 : decode cX2_stable 17 = .ok (.iaload, 1) := by decide +kernel
theorem dX2_stable_18 : decode cX2_stable 18 = .ok (.istore_n 3, 1) := by decide +kernel
theorem dX2_stable_19 : decode cX2_stable 19 = .ok (.aload_n 0, 1) := by decide +kernel
theorem dX2_stable_20 : decode cX2_stable 20 = .ok (.iload_n 3, 1) := by decide +kernel
theorem dX2_stable_21 : decode cX2_stable 21 = .ok (.invokevirtual 58, 3) := by decide +kernel
theorem dX2_stable_24 : decode cX2_stable 24 = .ok (.ifCond .eq 18, 3) := by decide +kernel
theorem dX2_stable_27 : decode cX2_stable 27 = .ok (.iload_n 3, 1) := by decide +kernel
theorem dX2_stable_28 : decode cX2_stable 28 = .ok (.iload_n 1, 1) := by decide +kernel
theorem dX2_stable_29 : decode cX2_stable 29 = .ok (.iload_n 2, 1) := by decide +kernel
theorem dX2_stable_30 : decode cX2_stable 30 = .ok (.invokestatic 84, 3) := by decide +kernel
theorem dX2_stable_33 : decode cX2_stable 33 = .ok (.ifCond .eq 9, 3) := by decide +kernel
theorem dX2_stable_36 : decode cX2_stable 36 = .ok (.aload_n 0, 1) := by decide +kernel
theorem dX2_stable_37 : decode cX2_stable 37 = .ok (.iload_n 1, 1) := by decide +kernel
theorem dX2_stable_38 : decode cX2_stable 38 = .ok (.iload_n 3, 1) := by decide +kernel
theorem dX2_stable_39 : decode cX2_stable 39 = .ok (.invokevirtual 107, 3) := by decide +kernel
theorem dX2_stable_42 : decode cX2_stable 42 = .ok (.aload_n 0, 1) := by decide +kernel
theorem dX2_stable_43 : decode cX2_stable 43 = .ok (.iload_n 1, 1) := by decide +kernel
theorem dX2_stable_44 : decode cX2_stable 44 = .ok (.invokevirtual 91, 3) := by decide +kernel
theorem dX2_stable_47 : decode cX2_stable 47 = .ok (.istore 4, 2) := by decide +kernel
theorem dX2_stable_49 : decode cX2_stable 49 = .ok (.iload_n 1, 1) := by decide +kernel
theorem dX2_stable_50 : decode cX2_stable 50 = .ok (.iload 4, 2) := by decide +kernel
theorem dX2_stable_52 : decode cX2_stable 52 = .ok (.if_icmp .eq 41, 3) := by decide +kernel
theorem dX2_stable_55 : decode cX2_stable 55 = .ok (.aload_n 0, 1) := by decide +kernel
theorem dX2_stable_56 : decode cX2_stable 56 = .ok (.aload_n 0, 1) := by decide +kernel
theorem dX2_stable_57 : decode cX2_stable 57 = .ok (.getfield 20, 3) := by decide +kernel
theorem dX2_stable_60 : decode cX2_stable 60 = .ok (.iload 4, 2) := by decide +kernel
theorem dX2_stable_62 : decode cX2_stable 62 = .ok (.iaload, 1) := by decide +kernel
theorem dX2_stable_63 : decode cX2_stable 63 = .ok (.invokevirtual 58, 3) := by decide +kernel
theorem dX2_stable_66 : decode cX2_stable 66 = .ok (.ifCond .eq 19, 3) := by decide +kernel
theorem dX2_stable_69 : decode cX2_stable 69 = .ok (.iload_n 1, 1) := by decide +kernel
theorem dX2_stable_70 : decode cX2_stable 70 = .ok (.aload_n 0, 1) := by decide +kernel
theorem dX2_stable_71 : decode cX2_stable 71 = .ok (.getfield 20, 3) := by decide +kernel
theorem dX2_stable_74 : decode cX2_stable 74 = .ok (.iload 4, 2) := by decide +kernel
theorem dX2_stable_76 : decode cX2_stable 76 = .ok (.iaload, 1) := by decide +kernel
theorem dX2_stable_77 : decode cX2_stable 77 = .ok (.iload 4, 2) := by decide +kernel
theorem dX2_stable_79 : decode cX2_stable 79 = .ok (.invokestatic 84, 3) := by decide +kernel
theorem dX2_stable_82 : decode cX2_stable 82 = .ok (.ifCond .eq 11, 3) := by decide +kernel
theorem dX2_stable_85 : decode cX2_stable 85 = .ok (.aload_n 0, 1) := by decide +kernel
theorem dX2_stable_86 : decode cX2_stable 86 = .ok (.getfield 20, 3) := by decide +kernel
theorem dX2_stable_89 : decode cX2_stable 89 = .ok (.iload 4, 2) := by decide +kernel
theorem dX2_stable_91 : decode cX2_stable 91 = .ok (.iload_n 1, 1) := by decide +kernel
theorem dX2_stable_92 : decode cX2_stable 92 = .ok (.iastore, 1) := by decide +kernel
theorem dX2_stable_93 : decode cX2_stable 93 = .ok (.iload 4, 2) := by decide +kernel
theorem dX2_stable_95 : decode cX2_stable 95 = .ok (.ireturn, 1) := by decide +kernel
theorem dX2_stabilise_0 : decode cX2_stabilise 0 = .ok (.aload_n 0, 1) := by decide +kernel
theorem dX2_stabilise_1 : decode cX2_stabilise 1 = .ok (.aload_n 0, 1) := by decide +kernel
theorem dX2_stabilise_2 : decode cX2_stabilise 2 = .ok (.iload_n 1, 1) := by decide +kernel
theorem dX2_stabilise_3 : decode cX2_stabilise 3 = .ok (.invokevirtual 101, 3) := by decide +kernel
theorem dX2_stabilise_6 : decode cX2_stabilise 6 = .ok (.iconst 1, 1) := by decide +kernel
theorem dX2_stabilise_7 : decode cX2_stabilise 7 = .ok (.iconst 1, 1) := by decide +kernel
theorem dX2_stabilise_8 : decode cX2_stabilise 8 = .ok (.invokevirtual 69, 3) := by decide +kernel
theorem dX2_stabilise_11 : decode cX2_stabilise 11 = .ok (.ifCond .eq 11, 3) := by decide +kernel
theorem dX2_stabilise_14 : decode cX2_stabilise 14 = .ok (.aload_n 0, 1) := by decide +kernel
theorem dX2_stabilise_15 : decode cX2_stabilise 15 = .ok (.iload_n 1, 1) := by decide +kernel
theorem dX2_stabilise_16 : decode cX2_stabilise 16 = .ok (.invokevirtual 114, 3) := by decide +kernel
theorem dX2_stabilise_19 : decode cX2_stabilise 19 = .ok (.goto 4, 3) := by decide +kernel
theorem dX2_stabilise_22 : decode cX2_stabilise 22 = .ok (.iconst 0, 1) := by decide +kernel
theorem dX2_stabilise_23 : decode cX2_stabilise 23 = .ok (.ireturn, 1) := by decide +kernel
theorem dX2_mended_0 : decode cX2_mended 0 = .ok (.aload_n 0, 1) := by decide +kernel
theorem dX2_mended_1 : decode cX2_mended 1 = .ok (.getfield 23, 3) := by decide +kernel
theorem dX2_mended_4 : decode cX2_mended 4 = .ok (.bipush 8, 2) := by decide +kernel
theorem dX2_mended_6 : decode cX2_mended 6 = .ok (.iload_n 1, 1) := by decide +kernel
theorem dX2_mended_7 : decode cX2_mended 7 = .ok (.imul, 1) := by decide +kernel
theorem dX2_mended_8 : decode cX2_mended 8 = .ok (.iload_n 2, 1) := by decide +kernel
theorem dX2_mended_9 : decode cX2_mended 9 = .ok (.iadd, 1) := by decide +kernel
theorem dX2_mended_10 : decode cX2_mended 10 = .ok (.aload_n 0, 1) := by decide +kernel
theorem dX2_mended_11 : decode cX2_mended 11 = .ok (.iload_n 1, 1) := by decide +kernel
theorem dX2_mended_12 : decode cX2_mended 12 = .ok (.iload_n 1, 1) := by decide +kernel
theorem dX2_mended_13 : decode cX2_mended 13 = .ok (.iconst 1, 1) := by decide +kernel
theorem dX2_mended_14 : decode cX2_mended 14 = .ok (.iload_n 2, 1) := by decide +kernel
theorem dX2_mended_15 : decode cX2_mended 15 = .ok (.ishl, 1) := by decide +kernel
theorem dX2_mended_16 : decode cX2_mended 16 = .ok (.iadd, 1) := by decide +kernel
theorem dX2_mended_17 : decode cX2_mended 17 = .ok (.sipush 256, 3) := by decide +kernel
theorem dX2_mended_20 : decode cX2_mended 20 = .ok (.irem, 1) := by decide +kernel
theorem dX2_mended_21 : decode cX2_mended 21 = .ok (.invokevirtual 104, 3) := by decide +kernel
theorem dX2_mended_24 : decode cX2_mended 24 = .ok (.iastore, 1) := by decide +kernel
theorem dX2_mended_25 : decode cX2_mended 25 = .ok (.aload_n 0, 1) := by decide +kernel
theorem dX2_mended_26 : decode cX2_mended 26 = .ok (.getfield 23, 3) := by decide +kernel
theorem dX2_mended_29 : decode cX2_mended 29 = .ok (.bipush 8, 2) := by decide +kernel
theorem dX2_mended_31 : decode cX2_mended 31 = .ok (.iload_n 1, 1) := by decide +kernel
theorem dX2_mended_32 : decode cX2_mended 32 = .ok (.imul, 1) := by decide +kernel
theorem dX2_mended_33 : decode cX2_mended 33 = .ok (.iload_n 2, 1) := by decide +kernel
theorem dX2_mended_34 : decode cX2_mended 34 = .ok (.iadd, 1) := by decide +kernel
theorem dX2_mended_35 : decode cX2_mended 35 = .ok (.iaload, 1) := by decide +kernel
theorem dX2_mended_36 : decode cX2_mended 36 = .ok (.ireturn, 1) := by decide +kernel
theorem dX2_mend_0 : decode cX2_mend 0 = .ok (.aload_n 0, 1) := by decide +kernel
theorem dX2_mend_1 : decode cX2_mend 1 = .ok (.aload_n 0, 1) := by decide +kernel
theorem dX2_mend_2 : decode cX2_mend 2 = .ok (.iload_n 1, 1) := by decide +kernel
theorem dX2_mend_3 : decode cX2_mend 3 = .ok (.invokevirtual 101, 3) := by decide +kernel
theorem dX2_mend_6 : decode cX2_mend 6 = .ok (.ifCond .eq 17, 3) := by decide +kernel
theorem dX2_mend_9 : decode cX2_mend 9 = .ok (.iload_n 2, 1) := by decide +kernel
theorem dX2_mend_10 : decode cX2_mend 10 = .ok (.ifCond .lt 13, 3) := by decide +kernel
theorem dX2_mend_13 : decode cX2_mend 13 = .ok (.iload_n 2, 1) := by decide +kernel
theorem dX2_mend_14 : decode cX2_mend 14 = .ok (.bipush 8, 2) := by decide +kernel
theorem dX2_mend_16 : decode cX2_mend 16 = .ok (.if_icmp .ge 7, 3) := by decide +kernel
theorem dX2_mend_19 : decode cX2_mend 19 = .ok (.iconst 1, 1) := by decide +kernel
theorem dX2_mend_20 : decode cX2_mend 20 = .ok (.goto 4, 3) := by decide +kernel
theorem dX2_mend_23 : decode cX2_mend 23 = .ok (.iconst 0, 1) := by decide +kernel
theorem dX2_mend_24 : decode cX2_mend 24 = .ok (.iconst 1, 1) := by decide +kernel
theorem dX2_mend_25 : decode cX2_mend 25 = .ok (.iconst 1, 1) := by decide +kernel
theorem dX2_mend_26 : decode cX2_mend 26 = .ok (.invokevirtual 69, 3) := by decide +kernel
theorem dX2_mend_29 : decode cX2_mend 29 = .ok (.ifCond .eq 12, 3) := by decide +kernel
theorem dX2_mend_32 : decode cX2_mend 32 = .ok (.aload_n 0, 1) := by decide +kernel
theorem dX2_mend_33 : decode cX2_mend 33 = .ok (.iload_n 1, 1) := by decide +kernel
theorem dX2_mend_34 : decode cX2_mend 34 = .ok (.iload_n 2, 1) := by decide +kernel
theorem dX2_mend_35 : decode cX2_mend 35 = .ok (.invokevirtual 117, 3) := by decide +kernel
theorem dX2_mend_38 : decode cX2_mend 38 = .ok (.goto 4, 3) := by decide +kernel
theorem dX2_mend_41 : decode cX2_mend 41 = .ok (.iconst 0, 1) := by decide +kernel
theorem dX2_mend_42 : decode cX2_mend 42 = .ok (.ireturn, 1) := by decide +kernel
theorem dX2_higher_0 : decode cX2_higher 0 = .ok (.aload_n 0, 1) := by decide +kernel
theorem dX2_higher_1 : decode cX2_higher 1 = .ok (.getfield 29, 3) := by decide +kernel
theorem dX2_higher_4 : decode cX2_higher 4 = .ok (.iload_n 1, 1) := by decide +kernel
theorem dX2_higher_5 : decode cX2_higher 5 = .ok (.iaload, 1) := by decide +kernel
theorem dX2_higher_6 : decode cX2_higher 6 = .ok (.aload_n 0, 1) := by decide +kernel
theorem dX2_higher_7 : decode cX2_higher 7 = .ok (.getfield 29, 3) := by decide +kernel
theorem dX2_higher_10 : decode cX2_higher 10 = .ok (.iload_n 2, 1) := by decide +kernel
theorem dX2_higher_11 : decode cX2_higher 11 = .ok (.iaload, 1) := by decide +kernel
theorem dX2_higher_12 : decode cX2_higher 12 = .ok (.if_icmp .gt 42, 3) := by decide +kernel
theorem dX2_higher_15 : decode cX2_higher 15 = .ok (.aload_n 0, 1) := by decide +kernel
theorem dX2_higher_16 : decode cX2_higher 16 = .ok (.getfield 29, 3) := by decide +kernel
theorem dX2_higher_19 : decode cX2_higher 19 = .ok (.iload_n 1, 1) := by decide +kernel
theorem dX2_higher_20 : decode cX2_higher 20 = .ok (.iaload, 1) := by decide +kernel
theorem dX2_higher_21 : decode cX2_higher 21 = .ok (.aload_n 0, 1) := by decide +kernel
theorem dX2_higher_22 : decode cX2_higher 22 = .ok (.getfield 29, 3) := by decide +kernel
theorem dX2_higher_25 : decode cX2_higher 25 = .ok (.iload_n 2, 1) := by decide +kernel
theorem dX2_higher_26 : decode cX2_higher 26 = .ok (.iaload, 1) := by decide +kernel
theorem dX2_higher_27 : decode cX2_higher 27 = .ok (.if_icmp .ne 31, 3) := by decide +kernel
theorem dX2_higher_30 : decode cX2_higher 30 = .ok (.aload_n 0, 1) := by decide +kernel
theorem dX2_higher_31 : decode cX2_higher 31 = .ok (.getfield 29, 3) := by decide +kernel
theorem dX2_higher_34 : decode cX2_higher 34 = .ok (.iload_n 1, 1) := by decide +kernel
theorem dX2_higher_35 : decode cX2_higher 35 = .ok (.iaload, 1) := by decide +kernel
theorem dX2_higher_36 : decode cX2_higher 36 = .ok (.ifCond .le 22, 3) := by decide +kernel
theorem dX2_higher_39 : decode cX2_higher 39 = .ok (.aload_n 0, 1) := by decide +kernel
theorem dX2_higher_40 : decode cX2_higher 40 = .ok (.getfield 32, 3) := by decide +kernel
theorem dX2_higher_43 : decode cX2_higher 43 = .ok (.iload_n 1, 1) := by decide +kernel
theorem dX2_higher_44 : decode cX2_higher 44 = .ok (.iaload, 1) := by decide +kernel
theorem dX2_higher_45 : decode cX2_higher 45 = .ok (.aload_n 0, 1) := by decide +kernel
theorem dX2_higher_46 : decode cX2_higher 46 = .ok (.getfield 32, 3) := by decide +kernel
theorem dX2_higher_49 : decode cX2_higher 49 = .ok (.iload_n 2, 1) := by decide +kernel
theorem dX2_higher_50 : decode cX2_higher 50 = .ok (.iaload, 1) := by decide +kernel
theorem dX2_higher_51 : decode cX2_higher 51 = .ok (.if_icmp .le 7, 3) := by decide +kernel
theorem dX2_higher_54 : decode cX2_higher 54 = .ok (.iconst 1, 1) := by decide +kernel
theorem dX2_higher_55 : decode cX2_higher 55 = .ok (.goto 4, 3) := by decide +kernel
theorem dX2_higher_58 : decode cX2_higher 58 = .ok (.iconst 0, 1) := by decide +kernel
theorem dX2_higher_59 : decode cX2_higher 59 = .ok (.ireturn, 1) := by decide +kernel
theorem dX2_copy_0 : decode cX2_copy 0 = .ok (.aload_n 0, 1) := by decide +kernel
theorem dX2_copy_1 : decode cX2_copy 1 = .ok (.getfield 29, 3) := by decide +kernel
theorem dX2_copy_4 : decode cX2_copy 4 = .ok (.iload_n 2, 1) := by decide +kernel
theorem dX2_copy_5 : decode cX2_copy 5 = .ok (.aload_n 0, 1) := by decide +kernel
theorem dX2_copy_6 : decode cX2_copy 6 = .ok (.getfield 29, 3) := by decide +kernel
theorem dX2_copy_9 : decode cX2_copy 9 = .ok (.iload_n 1, 1) := by decide +kernel
theorem dX2_copy_10 : decode cX2_copy 10 = .ok (.iaload, 1) := by decide +kernel
theorem dX2_copy_11 : decode cX2_copy 11 = .ok (.iastore, 1) := by decide +kernel
theorem dX2_copy_12 : decode cX2_copy 12 = .ok (.aload_n 0, 1) := by decide +kernel
theorem dX2_copy_13 : decode cX2_copy 13 = .ok (.getfield 32, 3) := by decide +kernel
theorem dX2_copy_16 : decode cX2_copy 16 = .ok (.iload_n 2, 1) := by decide +kernel
theorem dX2_copy_17 : decode cX2_copy 17 = .ok (.aload_n 0, 1) := by decide +kernel
theorem dX2_copy_18 : decode cX2_copy 18 = .ok (.getfield 32, 3) := by decide +kernel
theorem dX2_copy_21 : decode cX2_copy 21 = .ok (.iload_n 1, 1) := by decide +kernel
theorem dX2_copy_22 : decode cX2_copy 22 = .ok (.iaload, 1) := by decide +kernel
theorem dX2_copy_23 : decode cX2_copy 23 = .ok (.iastore, 1) := by decide +kernel
theorem dX2_copy_24 : decode cX2_copy 24 = .ok (.aload_n 0, 1) := by decide +kernel
theorem dX2_copy_25 : decode cX2_copy 25 = .ok (.getfield 35, 3) := by decide +kernel
theorem dX2_copy_28 : decode cX2_copy 28 = .ok (.iload_n 2, 1) := by decide +kernel
theorem dX2_copy_29 : decode cX2_copy 29 = .ok (.aload_n 0, 1) := by decide +kernel
theorem dX2_copy_30 : decode cX2_copy 30 = .ok (.getfield 35, 3) := by decide +kernel
theorem dX2_copy_33 : decode cX2_copy 33 = .ok (.iload_n 1, 1) := by decide +kernel
theorem dX2_copy_34 : decode cX2_copy 34 = .ok (.iaload, 1) := by decide +kernel
theorem dX2_copy_35 : decode cX2_copy 35 = .ok (.iastore, 1) := by decide +kernel
theorem dX2_copy_36 : decode cX2_copy 36 = .ok (.return_, 1) := by decide +kernel
theorem dX2_belongs_0 : decode cX2_belongs 0 = .ok (.iload_n 1, 1) := by decide +kernel
theorem dX2_belongs_1 : decode cX2_belongs 1 = .ok (.invokestatic 120, 3) := by decide +kernel
theorem dX2_belongs_4 : decode cX2_belongs 4 = .ok (.iload_n 2, 1) := by decide +kernel
theorem dX2_belongs_5 : decode cX2_belongs 5 = .ok (.if_icmp .eq 20, 3) := by decide +kernel
theorem dX2_belongs_8 : decode cX2_belongs 8 = .ok (.iload_n 1, 1) := by decide +kernel
theorem dX2_belongs_9 : decode cX2_belongs 9 = .ok (.invokestatic 120, 3) := by decide +kernel
theorem dX2_belongs_12 : decode cX2_belongs 12 = .ok (.aload_n 0, 1) := by decide +kernel
theorem dX2_belongs_13 : decode cX2_belongs 13 = .ok (.getfield 20, 3) := by decide +kernel
theorem dX2_belongs_16 : decode cX2_belongs 16 = .ok (.iload_n 2, 1) := by decide +kernel
theorem dX2_belongs_17 : decode cX2_belongs 17 = .ok (.iaload, 1) := by decide +kernel
theorem dX2_belongs_18 : decode cX2_belongs 18 = .ok (.iload_n 2, 1) := by decide +kernel
theorem dX2_belongs_19 : decode cX2_belongs 19 = .ok (.invokestatic 84, 3) := by decide +kernel
theorem dX2_belongs_22 : decode cX2_belongs 22 = .ok (.ifCond .eq 7, 3) := by decide +kernel
theorem dX2_belongs_25 : decode cX2_belongs 25 = .ok (.iconst 1, 1) := by decide +kernel
theorem dX2_belongs_26 : decode cX2_belongs 26 = .ok (.goto 4, 3) := by decide +kernel
theorem dX2_belongs_29 : decode cX2_belongs 29 = .ok (.iconst 0, 1) := by decide +kernel
theorem dX2_belongs_30 : decode cX2_belongs 30 = .ok (.ireturn, 1) := by decide +kernel
theorem dX2_handed_0 : decode cX2_handed 0 = .ok (.aload_n 0, 1) := by decide +kernel
theorem dX2_handed_1 : decode cX2_handed 1 = .ok (.iload_n 1, 1) := by decide +kernel
theorem dX2_handed_2 : decode cX2_handed 2 = .ok (.invokevirtual 91, 3) := by decide +kernel
theorem dX2_handed_5 : decode cX2_handed 5 = .ok (.istore_n 2, 1) := by decide +kernel
theorem dX2_handed_6 : decode cX2_handed 6 = .ok (.iconst 0, 1) := by decide +kernel
theorem dX2_handed_7 : decode cX2_handed 7 = .ok (.istore_n 3, 1) := by decide +kernel
theorem dX2_handed_8 : decode cX2_handed 8 = .ok (.iconst 0, 1) := by decide +kernel
theorem dX2_handed_9 : decode cX2_handed 9 = .ok (.istore 4, 2) := by decide +kernel
theorem dX2_handed_11 : decode cX2_handed 11 = .ok (.iload 4, 2) := by decide +kernel
theorem dX2_handed_13 : decode cX2_handed 13 = .ok (.bipush 64, 2) := by decide +kernel
theorem dX2_handed_15 : decode cX2_handed 15 = .ok (.if_icmp .ge 79, 3) := by decide +kernel
theorem dX2_handed_18 : decode cX2_handed 18 = .ok (.aload_n 0, 1) := by decide +kernel
theorem dX2_handed_19 : decode cX2_handed 19 = .ok (.aload_n 0, 1) := by decide +kernel
theorem dX2_handed_20 : decode cX2_handed 20 = .ok (.getfield 20, 3) := by decide +kernel
theorem dX2_handed_23 : decode cX2_handed 23 = .ok (.iload_n 1, 1) := by decide +kernel
theorem dX2_handed_24 : decode cX2_handed 24 = .ok (.iaload, 1) := by decide +kernel
theorem dX2_handed_25 : decode cX2_handed 25 = .ok (.invokevirtual 58, 3) := by decide +kernel
theorem dX2_handed_28 : decode cX2_handed 28 = .ok (.ifCond .eq 66, 3) := by decide +kernel
theorem dX2_handed_31 : decode cX2_handed 31 = .ok (.iload_n 2, 1) := by decide +kernel
theorem dX2_handed_32 : decode cX2_handed 32 = .ok (.iload_n 1, 1) := by decide +kernel
theorem dX2_handed_33 : decode cX2_handed 33 = .ok (.if_icmp .eq 61, 3) := by decide +kernel
theorem dX2_handed_36 : decode cX2_handed 36 = .ok (.aload_n 0, 1) := by decide +kernel
theorem dX2_handed_37 : decode cX2_handed 37 = .ok (.iload 4, 2) := by decide +kernel
theorem dX2_handed_39 : decode cX2_handed 39 = .ok (.iload_n 1, 1) := by decide +kernel
theorem dX2_handed_40 : decode cX2_handed 40 = .ok (.invokevirtual 123, 3) := by decide +kernel
theorem dX2_handed_43 : decode cX2_handed 43 = .ok (.ifCond .eq 45, 3) := by decide +kernel
theorem dX2_handed_46 : decode cX2_handed 46 = .ok (.aload_n 0, 1) := by decide +kernel
theorem dX2_handed_47 : decode cX2_handed 47 = .ok (.bipush 64, 2) := by decide +kernel
theorem dX2_handed_49 : decode cX2_handed 49 = .ok (.iload_n 2, 1) := by decide +kernel
theorem dX2_handed_50 : decode cX2_handed 50 = .ok (.imul, 1) := by decide +kernel
theorem dX2_handed_51 : decode cX2_handed 51 = .ok (.iload 4, 2) := by decide +kernel
theorem dX2_handed_53 : decode cX2_handed 53 = .ok (.iadd, 1) := by decide +kernel
theorem dX2_handed_54 : decode cX2_handed 54 = .ok (.bipush 64, 2) := by decide +kernel
theorem dX2_handed_56 : decode cX2_handed 56 = .ok (.iload_n 1, 1) := by decide +kernel
theorem dX2_handed_57 : decode cX2_handed 57 = .ok (.imul, 1) := by decide +kernel
theorem dX2_handed_58 : decode cX2_handed 58 = .ok (.iload 4, 2) := by decide +kernel
theorem dX2_handed_60 : decode cX2_handed 60 = .ok (.iadd, 1) := by decide +kernel
theorem dX2_handed_61 : decode cX2_handed 61 = .ok (.invokevirtual 127, 3) := by decide +kernel
theorem dX2_handed_64 : decode cX2_handed 64 = .ok (.ifCond .eq 24, 3) := by decide +kernel
theorem dX2_handed_67 : decode cX2_handed 67 = .ok (.aload_n 0, 1) := by decide +kernel
theorem dX2_handed_68 : decode cX2_handed 68 = .ok (.bipush 64, 2) := by decide +kernel
theorem dX2_handed_70 : decode cX2_handed 70 = .ok (.iload_n 2, 1) := by decide +kernel
theorem dX2_handed_71 : decode cX2_handed 71 = .ok (.imul, 1) := by decide +kernel
theorem dX2_handed_72 : decode cX2_handed 72 = .ok (.iload 4, 2) := by decide +kernel
theorem dX2_handed_74 : decode cX2_handed 74 = .ok (.iadd, 1) := by decide +kernel
theorem dX2_handed_75 : decode cX2_handed 75 = .ok (.bipush 64, 2) := by decide +kernel
theorem dX2_handed_77 : decode cX2_handed 77 = .ok (.iload_n 1, 1) := by decide +kernel
theorem dX2_handed_78 : decode cX2_handed 78 = .ok (.imul, 1) := by decide +kernel
theorem dX2_handed_79 : decode cX2_handed 79 = .ok (.iload 4, 2) := by decide +kernel
theorem dX2_handed_81 : decode cX2_handed 81 = .ok (.iadd, 1) := by decide +kernel
theorem dX2_handed_82 : decode cX2_handed 82 = .ok (.invokevirtual 130, 3) := by decide +kernel
theorem dX2_handed_85 : decode cX2_handed 85 = .ok (.iinc 3 1, 3) := by decide +kernel
theorem dX2_handed_88 : decode cX2_handed 88 = .ok (.iinc 4 1, 3) := by decide +kernel
theorem dX2_handed_91 : decode cX2_handed 91 = .ok (.goto (-80), 3) := by decide +kernel
theorem dX2_handed_94 : decode cX2_handed 94 = .ok (.iload_n 3, 1) := by decide +kernel
theorem dX2_handed_95 : decode cX2_handed 95 = .ok (.ireturn, 1) := by decide +kernel
theorem dX2_handOver_0 : decode cX2_handOver 0 = .ok (.aload_n 0, 1) := by decide +kernel
theorem dX2_handOver_1 : decode cX2_handOver 1 = .ok (.aload_n 0, 1) := by decide +kernel
theorem dX2_handOver_2 : decode cX2_handOver 2 = .ok (.iload_n 1, 1) := by decide +kernel
theorem dX2_handOver_3 : decode cX2_handOver 3 = .ok (.invokevirtual 101, 3) := by decide +kernel
theorem dX2_handOver_6 : decode cX2_handOver 6 = .ok (.iconst 1, 1) := by decide +kernel
theorem dX2_handOver_7 : decode cX2_handOver 7 = .ok (.iconst 1, 1) := by decide +kernel
theorem dX2_handOver_8 : decode cX2_handOver 8 = .ok (.invokevirtual 69, 3) := by decide +kernel
theorem dX2_handOver_11 : decode cX2_handOver 11 = .ok (.ifCond .eq 11, 3) := by decide +kernel
theorem dX2_handOver_14 : decode cX2_handOver 14 = .ok (.aload_n 0, 1) := by decide +kernel
theorem dX2_handOver_15 : decode cX2_handOver 15 = .ok (.iload_n 1, 1) := by decide +kernel
theorem dX2_handOver_16 : decode cX2_handOver 16 = .ok (.invokevirtual 133, 3) := by decide +kernel
theorem dX2_handOver_19 : decode cX2_handOver 19 = .ok (.goto 4, 3) := by decide +kernel
theorem dX2_handOver_22 : decode cX2_handOver 22 = .ok (.iconst 0, 1) := by decide +kernel
theorem dX2_handOver_23 : decode cX2_handOver 23 = .ok (.ireturn, 1) := by decide +kernel
theorem dX2_give_0 : decode cX2_give 0 = .ok (.iconst 0, 1) := by decide +kernel
theorem dX2_give_1 : decode cX2_give 1 = .ok (.istore_n 3, 1) := by decide +kernel
theorem dX2_give_2 : decode cX2_give 2 = .ok (.iconst 0, 1) := by decide +kernel
theorem dX2_give_3 : decode cX2_give 3 = .ok (.istore 4, 2) := by decide +kernel
theorem dX2_give_5 : decode cX2_give 5 = .ok (.iload 4, 2) := by decide +kernel
theorem dX2_give_7 : decode cX2_give 7 = .ok (.aload_n 0, 1) := by decide +kernel
theorem dX2_give_8 : decode cX2_give 8 = .ok (.getfield 7, 3) := by decide +kernel
theorem dX2_give_11 : decode cX2_give 11 = .ok (.if_icmp .ge 77, 3) := by decide +kernel
theorem dX2_give_14 : decode cX2_give 14 = .ok (.aload_n 0, 1) := by decide +kernel
theorem dX2_give_15 : decode cX2_give 15 = .ok (.getfield 17, 3) := by decide +kernel
theorem dX2_give_18 : decode cX2_give 18 = .ok (.iconst 4, 1) := by decide +kernel
theorem dX2_give_19 : decode cX2_give 19 = .ok (.iload_n 1, 1) := by decide +kernel
theorem dX2_give_20 : decode cX2_give 20 = .ok (.imul, 1) := by decide +kernel
theorem dX2_give_21 : decode cX2_give 21 = .ok (.iload 4, 2) := by decide +kernel
theorem dX2_give_23 : decode cX2_give 23 = .ok (.iadd, 1) := by decide +kernel
theorem dX2_give_24 : decode cX2_give 24 = .ok (.iaload, 1) := by decide +kernel
theorem dX2_give_25 : decode cX2_give 25 = .ok (.istore 5, 2) := by decide +kernel
theorem dX2_give_27 : decode cX2_give 27 = .ok (.aload_n 0, 1) := by decide +kernel
theorem dX2_give_28 : decode cX2_give 28 = .ok (.iload 5, 2) := by decide +kernel
theorem dX2_give_30 : decode cX2_give 30 = .ok (.invokevirtual 58, 3) := by decide +kernel
theorem dX2_give_33 : decode cX2_give 33 = .ok (.ifCond .eq 49, 3) := by decide +kernel
theorem dX2_give_36 : decode cX2_give 36 = .ok (.iload 5, 2) := by decide +kernel
theorem dX2_give_38 : decode cX2_give 38 = .ok (.iload_n 1, 1) := by decide +kernel
theorem dX2_give_39 : decode cX2_give 39 = .ok (.if_icmp .eq 43, 3) := by decide +kernel
theorem dX2_give_42 : decode cX2_give 42 = .ok (.aload_n 0, 1) := by decide +kernel
theorem dX2_give_43 : decode cX2_give 43 = .ok (.bipush 64, 2) := by decide +kernel
theorem dX2_give_45 : decode cX2_give 45 = .ok (.iload_n 1, 1) := by decide +kernel
theorem dX2_give_46 : decode cX2_give 46 = .ok (.imul, 1) := by decide +kernel
theorem dX2_give_47 : decode cX2_give 47 = .ok (.iload_n 2, 1) := by decide +kernel
theorem dX2_give_48 : decode cX2_give 48 = .ok (.iadd, 1) := by decide +kernel
theorem dX2_give_49 : decode cX2_give 49 = .ok (.bipush 64, 2) := by decide +kernel
theorem dX2_give_51 : decode cX2_give 51 = .ok (.iload 5, 2) := by decide +kernel
theorem dX2_give_53 : decode cX2_give 53 = .ok (.imul, 1) := by decide +kernel
theorem dX2_give_54 : decode cX2_give 54 = .ok (.iload_n 2, 1) := by decide +kernel
theorem dX2_give_55 : decode cX2_give 55 = .ok (.iadd, 1) := by decide +kernel
theorem dX2_give_56 : decode cX2_give 56 = .ok (.invokevirtual 127, 3) := by decide +kernel
theorem dX2_give_59 : decode cX2_give 59 = .ok (.ifCond .eq 23, 3) := by decide +kernel
theorem dX2_give_62 : decode cX2_give 62 = .ok (.aload_n 0, 1) := by decide +kernel
theorem dX2_give_63 : decode cX2_give 63 = .ok (.bipush 64, 2) := by decide +kernel
theorem dX2_give_65 : decode cX2_give 65 = .ok (.iload_n 1, 1) := by decide +kernel
theorem dX2_give_66 : decode cX2_give 66 = .ok (.imul, 1) := by decide +kernel
theorem dX2_give_67 : decode cX2_give 67 = .ok (.iload_n 2, 1) := by decide +kernel
theorem dX2_give_68 : decode cX2_give 68 = .ok (.iadd, 1) := by decide +kernel
theorem dX2_give_69 : decode cX2_give 69 = .ok (.bipush 64, 2) := by decide +kernel
theorem dX2_give_71 : decode cX2_give 71 = .ok (.iload 5, 2) := by decide +kernel
theorem dX2_give_73 : decode cX2_give 73 = .ok (.imul, 1) := by decide +kernel
theorem dX2_give_74 : decode cX2_give 74 = .ok (.iload_n 2, 1) := by decide +kernel
theorem dX2_give_75 : decode cX2_give 75 = .ok (.iadd, 1) := by decide +kernel
theorem dX2_give_76 : decode cX2_give 76 = .ok (.invokevirtual 130, 3) := by decide +kernel
theorem dX2_give_79 : decode cX2_give 79 = .ok (.iinc 3 1, 3) := by decide +kernel
theorem dX2_give_82 : decode cX2_give 82 = .ok (.iinc 4 1, 3) := by decide +kernel
theorem dX2_give_85 : decode cX2_give 85 = .ok (.goto (-80), 3) := by decide +kernel
theorem dX2_give_88 : decode cX2_give 88 = .ok (.iload_n 3, 1) := by decide +kernel
theorem dX2_give_89 : decode cX2_give 89 = .ok (.ireturn, 1) := by decide +kernel
theorem dX2_spreadFrom_0 : decode cX2_spreadFrom 0 = .ok (.iconst 0, 1) := by decide +kernel
theorem dX2_spreadFrom_1 : decode cX2_spreadFrom 1 = .ok (.istore_n 2, 1) := by decide +kernel
theorem dX2_spreadFrom_2 : decode cX2_spreadFrom 2 = .ok (.iconst 0, 1) := by decide +kernel
theorem dX2_spreadFrom_3 : decode cX2_spreadFrom 3 = .ok (.istore_n 3, 1) := by decide +kernel
theorem dX2_spreadFrom_4 : decode cX2_spreadFrom 4 = .ok (.iload_n 3, 1) := by decide +kernel
theorem dX2_spreadFrom_5 : decode cX2_spreadFrom 5 = .ok (.bipush 64, 2) := by decide +kernel
theorem dX2_spreadFrom_7 : decode cX2_spreadFrom 7 = .ok (.if_icmp .ge 58, 3) := by decide +kernel
theorem dX2_spreadFrom_10 : decode cX2_spreadFrom 10 = .ok (.aload_n 0, 1) := by decide +kernel
theorem dX2_spreadFrom_11 : decode cX2_spreadFrom 11 = .ok (.aload_n 0, 1) := by decide +kernel
theorem dX2_spreadFrom_12 : decode cX2_spreadFrom 12 = .ok (.getfield 20, 3) := by decide +kernel
theorem dX2_spreadFrom_15 : decode cX2_spreadFrom 15 = .ok (.iload_n 1, 1) := by decide +kernel
theorem dX2_spreadFrom_16 : decode cX2_spreadFrom 16 = .ok (.iaload, 1) := by decide +kernel
theorem dX2_spreadFrom_17 : decode cX2_spreadFrom 17 = .ok (.invokevirtual 58, 3) := by decide +kernel
theorem dX2_spreadFrom_20 : decode cX2_spreadFrom 20 = .ok (.ifCond .eq 45, 3) := by decide +kernel
theorem dX2_spreadFrom_23 : decode cX2_spreadFrom 23 = .ok (.aload_n 0, 1) := by decide +kernel
theorem dX2_spreadFrom_24 : decode cX2_spreadFrom 24 = .ok (.getfield 29, 3) := by decide +kernel
theorem dX2_spreadFrom_27 : decode cX2_spreadFrom 27 = .ok (.bipush 64, 2) := by decide +kernel
theorem dX2_spreadFrom_29 : decode cX2_spreadFrom 29 = .ok (.iload_n 1, 1) := by decide +kernel
theorem dX2_spreadFrom_30 : decode cX2_spreadFrom 30 = .ok (.imul, 1) := by decide +kernel
theorem dX2_spreadFrom_31 : decode cX2_spreadFrom 31 = .ok (.iload_n 3, 1) := by decide +kernel
theorem dX2_spreadFrom_32 : decode cX2_spreadFrom 32 = .ok (.iadd, 1) := by decide +kernel
theorem dX2_spreadFrom_33 : decode cX2_spreadFrom 33 = .ok (.iaload, 1) := by decide +kernel
theorem dX2_spreadFrom_34 : decode cX2_spreadFrom 34 = .ok (.ifCond .le 23, 3) := by decide +kernel
theorem dX2_spreadFrom_37 : decode cX2_spreadFrom 37 = .ok (.aload_n 0, 1) := by decide +kernel
theorem dX2_spreadFrom_38 : decode cX2_spreadFrom 38 = .ok (.iload_n 3, 1) := by decide +kernel
theorem dX2_spreadFrom_39 : decode cX2_spreadFrom 39 = .ok (.iload_n 1, 1) := by decide +kernel
theorem dX2_spreadFrom_40 : decode cX2_spreadFrom 40 = .ok (.invokevirtual 123, 3) := by decide +kernel
theorem dX2_spreadFrom_43 : decode cX2_spreadFrom 43 = .ok (.ifCond .eq 14, 3) := by decide +kernel
theorem dX2_spreadFrom_46 : decode cX2_spreadFrom 46 = .ok (.iload_n 2, 1) := by decide +kernel
theorem dX2_spreadFrom_47 : decode cX2_spreadFrom 47 = .ok (.aload_n 0, 1) := by decide +kernel
theorem dX2_spreadFrom_48 : decode cX2_spreadFrom 48 = .ok (.iload_n 1, 1) := by decide +kernel
theorem dX2_spreadFrom_49 : decode cX2_spreadFrom 49 = .ok (.iload_n 3, 1) := by decide +kernel
theorem dX2_spreadFrom_50 : decode cX2_spreadFrom 50 = .ok (.invokevirtual 136, 3) := by decide +kernel
theorem dX2_spreadFrom_53 : decode cX2_spreadFrom 53 = .ok (.iadd, 1) := by decide +kernel
theorem dX2_spreadFrom_54 : decode cX2_spreadFrom 54 = .ok (.goto 4, 3) := by decide +kernel
theorem dX2_spreadFrom_57 : decode cX2_spreadFrom 57 = .ok (.iload_n 2, 1) := by decide +kernel
theorem dX2_spreadFrom_58 : decode cX2_spreadFrom 58 = .ok (.istore_n 2, 1) := by decide +kernel
theorem dX2_spreadFrom_59 : decode cX2_spreadFrom 59 = .ok (.iinc 3 1, 3) := by decide +kernel
theorem dX2_spreadFrom_62 : decode cX2_spreadFrom 62 = .ok (.goto (-58), 3) := by decide +kernel
theorem dX2_spreadFrom_65 : decode cX2_spreadFrom 65 = .ok (.iload_n 2, 1) := by decide +kernel
theorem dX2_spreadFrom_66 : decode cX2_spreadFrom 66 = .ok (.ireturn, 1) := by decide +kernel
theorem dX2_spread_0 : decode cX2_spread 0 = .ok (.aload_n 0, 1) := by decide +kernel
theorem dX2_spread_1 : decode cX2_spread 1 = .ok (.aload_n 0, 1) := by decide +kernel
theorem dX2_spread_2 : decode cX2_spread 2 = .ok (.iload_n 1, 1) := by decide +kernel
theorem dX2_spread_3 : decode cX2_spread 3 = .ok (.invokevirtual 101, 3) := by decide +kernel
theorem dX2_spread_6 : decode cX2_spread 6 = .ok (.iconst 1, 1) := by decide +kernel
theorem dX2_spread_7 : decode cX2_spread 7 = .ok (.iconst 1, 1) := by decide +kernel
theorem dX2_spread_8 : decode cX2_spread 8 = .ok (.invokevirtual 69, 3) := by decide +kernel
theorem dX2_spread_11 : decode cX2_spread 11 = .ok (.ifCond .eq 11, 3) := by decide +kernel
theorem dX2_spread_14 : decode cX2_spread 14 = .ok (.aload_n 0, 1) := by decide +kernel
theorem dX2_spread_15 : decode cX2_spread 15 = .ok (.iload_n 1, 1) := by decide +kernel
theorem dX2_spread_16 : decode cX2_spread 16 = .ok (.invokevirtual 139, 3) := by decide +kernel
theorem dX2_spread_19 : decode cX2_spread 19 = .ok (.goto 4, 3) := by decide +kernel
theorem dX2_spread_22 : decode cX2_spread 22 = .ok (.iconst 0, 1) := by decide +kernel
theorem dX2_spread_23 : decode cX2_spread 23 = .ok (.ireturn, 1) := by decide +kernel
theorem dX2_rounds_0 : decode cX2_rounds 0 = .ok (.aload_n 0, 1) := by decide +kernel
theorem dX2_rounds_1 : decode cX2_rounds 1 = .ok (.iload_n 1, 1) := by decide +kernel
theorem dX2_rounds_2 : decode cX2_rounds 2 = .ok (.ifCond .lt 13, 3) := by decide +kernel
theorem dX2_rounds_5 : decode cX2_rounds 5 = .ok (.iload_n 1, 1) := by decide +kernel
theorem dX2_rounds_6 : decode cX2_rounds 6 = .ok (.bipush 40, 2) := by decide +kernel
theorem dX2_rounds_8 : decode cX2_rounds 8 = .ok (.if_icmp .gt 7, 3) := by decide +kernel
theorem dX2_rounds_11 : decode cX2_rounds 11 = .ok (.iconst 1, 1) := by decide +kernel
theorem dX2_rounds_12 : decode cX2_rounds 12 = .ok (.goto 4, 3) := by decide +kernel
theorem dX2_rounds_15 : decode cX2_rounds 15 = .ok (.iconst 0, 1) := by decide +kernel
theorem dX2_rounds_16 : decode cX2_rounds 16 = .ok (.aload_n 0, 1) := by decide +kernel
theorem dX2_rounds_17 : decode cX2_rounds 17 = .ok (.getfield 54, 3) := by decide +kernel
theorem dX2_rounds_20 : decode cX2_rounds 20 = .ok (.iconst 1, 1) := by decide +kernel
theorem dX2_rounds_21 : decode cX2_rounds 21 = .ok (.invokevirtual 69, 3) := by decide +kernel
theorem dX2_rounds_24 : decode cX2_rounds 24 = .ok (.ifCond .ne 5, 3) := by decide +kernel
theorem dX2_rounds_27 : decode cX2_rounds 27 = .ok (.iconst 0, 1) := by decide +kernel
theorem dX2_rounds_28 : decode cX2_rounds 28 = .ok (.ireturn, 1) := by decide +kernel
theorem dX2_rounds_29 : decode cX2_rounds 29 = .ok (.iconst 0, 1) := by decide +kernel
theorem dX2_rounds_30 : decode cX2_rounds 30 = .ok (.istore_n 2, 1) := by decide +kernel
theorem dX2_rounds_31 : decode cX2_rounds 31 = .ok (.iconst 0, 1) := by decide +kernel
theorem dX2_rounds_32 : decode cX2_rounds 32 = .ok (.istore_n 3, 1) := by decide +kernel
theorem dX2_rounds_33 : decode cX2_rounds 33 = .ok (.iload_n 3, 1) := by decide +kernel
theorem dX2_rounds_34 : decode cX2_rounds 34 = .ok (.iload_n 1, 1) := by decide +kernel
theorem dX2_rounds_35 : decode cX2_rounds 35 = .ok (.if_icmp .ge 97, 3) := by decide +kernel
theorem dX2_rounds_38 : decode cX2_rounds 38 = .ok (.iconst 0, 1) := by decide +kernel
theorem dX2_rounds_39 : decode cX2_rounds 39 = .ok (.istore 4, 2) := by decide +kernel
theorem dX2_rounds_41 : decode cX2_rounds 41 = .ok (.iload 4, 2) := by decide +kernel
theorem dX2_rounds_43 : decode cX2_rounds 43 = .ok (.sipush 256, 3) := by decide +kernel
theorem dX2_rounds_46 : decode cX2_rounds 46 = .ok (.if_icmp .ge 80, 3) := by decide +kernel
theorem dX2_rounds_49 : decode cX2_rounds 49 = .ok (.aload_n 0, 1) := by decide +kernel
theorem dX2_rounds_50 : decode cX2_rounds 50 = .ok (.getfield 13, 3) := by decide +kernel
theorem dX2_rounds_53 : decode cX2_rounds 53 = .ok (.iload 4, 2) := by decide +kernel
theorem dX2_rounds_55 : decode cX2_rounds 55 = .ok (.iaload, 1) := by decide +kernel
theorem dX2_rounds_56 : decode cX2_rounds 56 = .ok (.iconst 1, 1) := by decide +kernel
theorem dX2_rounds_57 : decode cX2_rounds 57 = .ok (.if_icmp .ne 63, 3) := by decide +kernel
theorem dX2_rounds_60 : decode cX2_rounds 60 = .ok (.aload_n 0, 1) := by decide +kernel
theorem dX2_rounds_61 : decode cX2_rounds 61 = .ok (.iload 4, 2) := by decide +kernel
theorem dX2_rounds_63 : decode cX2_rounds 63 = .ok (.invokevirtual 114, 3) := by decide +kernel
theorem dX2_rounds_66 : decode cX2_rounds 66 = .ok (.istore 5, 2) := by decide +kernel
theorem dX2_rounds_68 : decode cX2_rounds 68 = .ok (.aload_n 0, 1) := by decide +kernel
theorem dX2_rounds_69 : decode cX2_rounds 69 = .ok (.iload 4, 2) := by decide +kernel
theorem dX2_rounds_71 : decode cX2_rounds 71 = .ok (.aload_n 0, 1) := by decide +kernel
theorem dX2_rounds_72 : decode cX2_rounds 72 = .ok (.getfield 26, 3) := by decide +kernel
theorem dX2_rounds_75 : decode cX2_rounds 75 = .ok (.iload 4, 2) := by decide +kernel
theorem dX2_rounds_77 : decode cX2_rounds 77 = .ok (.iaload, 1) := by decide +kernel
theorem dX2_rounds_78 : decode cX2_rounds 78 = .ok (.invokevirtual 117, 3) := by decide +kernel
theorem dX2_rounds_81 : decode cX2_rounds 81 = .ok (.istore 6, 2) := by decide +kernel
theorem dX2_rounds_83 : decode cX2_rounds 83 = .ok (.aload_n 0, 1) := by decide +kernel
theorem dX2_rounds_84 : decode cX2_rounds 84 = .ok (.getfield 26, 3) := by decide +kernel
theorem dX2_rounds_87 : decode cX2_rounds 87 = .ok (.iload 4, 2) := by decide +kernel
theorem dX2_rounds_89 : decode cX2_rounds 89 = .ok (.aload_n 0, 1) := by decide +kernel
theorem dX2_rounds_90 : decode cX2_rounds 90 = .ok (.getfield 26, 3) := by decide +kernel
theorem dX2_rounds_93 : decode cX2_rounds 93 = .ok (.iload 4, 2) := by decide +kernel
theorem dX2_rounds_95 : decode cX2_rounds 95 = .ok (.iaload, 1) := by decide +kernel
theorem dX2_rounds_96 : decode cX2_rounds 96 = .ok (.iconst 1, 1) := by decide +kernel
theorem dX2_rounds_97 : decode cX2_rounds 97 = .ok (.iadd, 1) := by decide +kernel
theorem dX2_rounds_98 : decode cX2_rounds 98 = .ok (.bipush 8, 2) := by decide +kernel
theorem dX2_rounds_100 : decode cX2_rounds 100 = .ok (.irem, 1) := by decide +kernel
theorem dX2_rounds_101 : decode cX2_rounds 101 = .ok (.iastore, 1) := by decide +kernel
theorem dX2_rounds_102 : decode cX2_rounds 102 = .ok (.iload_n 2, 1) := by decide +kernel
theorem dX2_rounds_103 : decode cX2_rounds 103 = .ok (.aload_n 0, 1) := by decide +kernel
theorem dX2_rounds_104 : decode cX2_rounds 104 = .ok (.iload 4, 2) := by decide +kernel
theorem dX2_rounds_106 : decode cX2_rounds 106 = .ok (.invokevirtual 133, 3) := by decide +kernel
theorem dX2_rounds_109 : decode cX2_rounds 109 = .ok (.iadd, 1) := by decide +kernel
theorem dX2_rounds_110 : decode cX2_rounds 110 = .ok (.istore_n 2, 1) := by decide +kernel
theorem dX2_rounds_111 : decode cX2_rounds 111 = .ok (.iload_n 2, 1) := by decide +kernel
theorem dX2_rounds_112 : decode cX2_rounds 112 = .ok (.aload_n 0, 1) := by decide +kernel
theorem dX2_rounds_113 : decode cX2_rounds 113 = .ok (.iload 4, 2) := by decide +kernel
theorem dX2_rounds_115 : decode cX2_rounds 115 = .ok (.invokevirtual 139, 3) := by decide +kernel
theorem dX2_rounds_118 : decode cX2_rounds 118 = .ok (.iadd, 1) := by decide +kernel
theorem dX2_rounds_119 : decode cX2_rounds 119 = .ok (.istore_n 2, 1) := by decide +kernel
theorem dX2_rounds_120 : decode cX2_rounds 120 = .ok (.iinc 4 1, 3) := by decide +kernel
theorem dX2_rounds_123 : decode cX2_rounds 123 = .ok (.goto (-82), 3) := by decide +kernel
theorem dX2_rounds_126 : decode cX2_rounds 126 = .ok (.iinc 3 1, 3) := by decide +kernel
theorem dX2_rounds_129 : decode cX2_rounds 129 = .ok (.goto (-96), 3) := by decide +kernel
theorem dX2_rounds_132 : decode cX2_rounds 132 = .ok (.iload_n 2, 1) := by decide +kernel
theorem dX2_rounds_133 : decode cX2_rounds 133 = .ok (.ireturn, 1) := by decide +kernel
theorem dX2_look_0 : decode cX2_look 0 = .ok (.aload_n 0, 1) := by decide +kernel
theorem dX2_look_1 : decode cX2_look 1 = .ok (.aload_n 0, 1) := by decide +kernel
theorem dX2_look_2 : decode cX2_look 2 = .ok (.iload_n 1, 1) := by decide +kernel
theorem dX2_look_3 : decode cX2_look 3 = .ok (.invokevirtual 101, 3) := by decide +kernel
theorem dX2_look_6 : decode cX2_look 6 = .ok (.iload_n 2, 1) := by decide +kernel
theorem dX2_look_7 : decode cX2_look 7 = .ok (.invokestatic 50, 3) := by decide +kernel
theorem dX2_look_10 : decode cX2_look 10 = .ok (.iconst 1, 1) := by decide +kernel
theorem dX2_look_11 : decode cX2_look 11 = .ok (.invokevirtual 69, 3) := by decide +kernel
theorem dX2_look_14 : decode cX2_look 14 = .ok (.ifCond .ne 5, 3) := by decide +kernel
theorem dX2_look_17 : decode cX2_look 17 = .ok (.iconst 0, 1) := by decide +kernel
theorem dX2_look_18 : decode cX2_look 18 = .ok (.ireturn, 1) := by decide +kernel
theorem dX2_look_19 : decode cX2_look 19 = .ok (.aload_n 0, 1) := by decide +kernel
theorem dX2_look_20 : decode cX2_look 20 = .ok (.iload_n 1, 1) := by decide +kernel
theorem dX2_look_21 : decode cX2_look 21 = .ok (.iload_n 2, 1) := by decide +kernel
theorem dX2_look_22 : decode cX2_look 22 = .ok (.invokevirtual 104, 3) := by decide +kernel
theorem dX2_look_25 : decode cX2_look 25 = .ok (.istore_n 3, 1) := by decide +kernel
theorem dX2_look_26 : decode cX2_look 26 = .ok (.aload_n 0, 1) := by decide +kernel
theorem dX2_look_27 : decode cX2_look 27 = .ok (.aload_n 0, 1) := by decide +kernel
theorem dX2_look_28 : decode cX2_look 28 = .ok (.getfield 88, 3) := by decide +kernel
theorem dX2_look_31 : decode cX2_look 31 = .ok (.putfield 142, 3) := by decide +kernel
theorem dX2_look_34 : decode cX2_look 34 = .ok (.iconst 0, 1) := by decide +kernel
theorem dX2_look_35 : decode cX2_look 35 = .ok (.istore 4, 2) := by decide +kernel
theorem dX2_look_37 : decode cX2_look 37 = .ok (.iload 4, 2) := by decide +kernel
theorem dX2_look_39 : decode cX2_look 39 = .ok (.aload_n 0, 1) := by decide +kernel
theorem dX2_look_40 : decode cX2_look 40 = .ok (.getfield 88, 3) := by decide +kernel
theorem dX2_look_43 : decode cX2_look 43 = .ok (.if_icmp .ge 23, 3) := by decide +kernel
theorem dX2_look_46 : decode cX2_look 46 = .ok (.aload_n 0, 1) := by decide +kernel
theorem dX2_look_47 : decode cX2_look 47 = .ok (.getfield 44, 3) := by decide +kernel
theorem dX2_look_50 : decode cX2_look 50 = .ok (.iload 4, 2) := by decide +kernel
theorem dX2_look_52 : decode cX2_look 52 = .ok (.aload_n 0, 1) := by decide +kernel
theorem dX2_look_53 : decode cX2_look 53 = .ok (.getfield 41, 3) := by decide +kernel
theorem dX2_look_56 : decode cX2_look 56 = .ok (.iload 4, 2) := by decide +kernel
theorem dX2_look_58 : decode cX2_look 58 = .ok (.iaload, 1) := by decide +kernel
theorem dX2_look_59 : decode cX2_look 59 = .ok (.iastore, 1) := by decide +kernel
theorem dX2_look_60 : decode cX2_look 60 = .ok (.iinc 4 1, 3) := by decide +kernel
theorem dX2_look_63 : decode cX2_look 63 = .ok (.goto (-26), 3) := by decide +kernel
theorem dX2_look_66 : decode cX2_look 66 = .ok (.iload_n 3, 1) := by decide +kernel
theorem dX2_look_67 : decode cX2_look 67 = .ok (.ireturn, 1) := by decide +kernel
theorem dX2_hop_0 : decode cX2_hop 0 = .ok (.aload_n 0, 1) := by decide +kernel
theorem dX2_hop_1 : decode cX2_hop 1 = .ok (.iload_n 1, 1) := by decide +kernel
theorem dX2_hop_2 : decode cX2_hop 2 = .ok (.ifCond .lt 15, 3) := by decide +kernel
theorem dX2_hop_5 : decode cX2_hop 5 = .ok (.iload_n 1, 1) := by decide +kernel
theorem dX2_hop_6 : decode cX2_hop 6 = .ok (.aload_n 0, 1) := by decide +kernel
theorem dX2_hop_7 : decode cX2_hop 7 = .ok (.getfield 142, 3) := by decide +kernel
theorem dX2_hop_10 : decode cX2_hop 10 = .ok (.if_icmp .ge 7, 3) := by decide +kernel
theorem dX2_hop_13 : decode cX2_hop 13 = .ok (.iconst 1, 1) := by decide +kernel
theorem dX2_hop_14 : decode cX2_hop 14 = .ok (.goto 4, 3) := by decide +kernel
theorem dX2_hop_17 : decode cX2_hop 17 = .ok (.iconst 0, 1) := by decide +kernel
theorem dX2_hop_18 : decode cX2_hop 18 = .ok (.iconst 1, 1) := by decide +kernel
theorem dX2_hop_19 : decode cX2_hop 19 = .ok (.iconst 1, 1) := by decide +kernel
theorem dX2_hop_20 : decode cX2_hop 20 = .ok (.invokevirtual 69, 3) := by decide +kernel
theorem dX2_hop_23 : decode cX2_hop 23 = .ok (.ifCond .eq 12, 3) := by decide +kernel
theorem dX2_hop_26 : decode cX2_hop 26 = .ok (.aload_n 0, 1) := by decide +kernel
theorem dX2_hop_27 : decode cX2_hop 27 = .ok (.getfield 44, 3) := by decide +kernel
theorem dX2_hop_30 : decode cX2_hop 30 = .ok (.iload_n 1, 1) := by decide +kernel
theorem dX2_hop_31 : decode cX2_hop 31 = .ok (.iaload, 1) := by decide +kernel
theorem dX2_hop_32 : decode cX2_hop 32 = .ok (.goto 4, 3) := by decide +kernel
theorem dX2_hop_35 : decode cX2_hop 35 = .ok (.iconst 0, 1) := by decide +kernel
theorem dX2_hop_36 : decode cX2_hop 36 = .ok (.ireturn, 1) := by decide +kernel
theorem dX2_put_0 : decode cX2_put 0 = .ok (.aload_n 0, 1) := by decide +kernel
theorem dX2_put_1 : decode cX2_put 1 = .ok (.aload_n 0, 1) := by decide +kernel
theorem dX2_put_2 : decode cX2_put 2 = .ok (.iload_n 1, 1) := by decide +kernel
theorem dX2_put_3 : decode cX2_put 3 = .ok (.invokevirtual 101, 3) := by decide +kernel
theorem dX2_put_6 : decode cX2_put 6 = .ok (.ifCond .eq 14, 3) := by decide +kernel
theorem dX2_put_9 : decode cX2_put 9 = .ok (.iload_n 2, 1) := by decide +kernel
theorem dX2_put_10 : decode cX2_put 10 = .ok (.invokestatic 145, 3) := by decide +kernel
theorem dX2_put_13 : decode cX2_put 13 = .ok (.ifCond .eq 7, 3) := by decide +kernel
theorem dX2_put_16 : decode cX2_put 16 = .ok (.iconst 1, 1) := by decide +kernel
theorem dX2_put_17 : decode cX2_put 17 = .ok (.goto 4, 3) := by decide +kernel
theorem dX2_put_20 : decode cX2_put 20 = .ok (.iconst 0, 1) := by decide +kernel
theorem dX2_put_21 : decode cX2_put 21 = .ok (.iload_n 3, 1) := by decide +kernel
theorem dX2_put_22 : decode cX2_put 22 = .ok (.ifCond .lt 7, 3) := by decide +kernel
theorem dX2_put_25 : decode cX2_put 25 = .ok (.iconst 1, 1) := by decide +kernel
theorem dX2_put_26 : decode cX2_put 26 = .ok (.goto 4, 3) := by decide +kernel
theorem dX2_put_29 : decode cX2_put 29 = .ok (.iconst 0, 1) := by decide +kernel
theorem dX2_put_30 : decode cX2_put 30 = .ok (.iconst 1, 1) := by decide +kernel
theorem dX2_put_31 : decode cX2_put 31 = .ok (.invokevirtual 69, 3) := by decide +kernel
theorem dX2_put_34 : decode cX2_put 34 = .ok (.ifCond .ne 5, 3) := by decide +kernel
theorem dX2_put_37 : decode cX2_put 37 = .ok (.iconst 0, 1) := by decide +kernel
theorem dX2_put_38 : decode cX2_put 38 = .ok (.ireturn, 1) := by decide +kernel
theorem dX2_put_39 : decode cX2_put 39 = .ok (.aload_n 0, 1) := by decide +kernel
theorem dX2_put_40 : decode cX2_put 40 = .ok (.iload_n 1, 1) := by decide +kernel
theorem dX2_put_41 : decode cX2_put 41 = .ok (.iload_n 2, 1) := by decide +kernel
theorem dX2_put_42 : decode cX2_put 42 = .ok (.invokestatic 120, 3) := by decide +kernel
theorem dX2_put_45 : decode cX2_put 45 = .ok (.invokevirtual 104, 3) := by decide +kernel
theorem dX2_put_48 : decode cX2_put 48 = .ok (.istore 4, 2) := by decide +kernel
theorem dX2_put_50 : decode cX2_put 50 = .ok (.bipush 64, 2) := by decide +kernel
theorem dX2_put_52 : decode cX2_put 52 = .ok (.iload 4, 2) := by decide +kernel
theorem dX2_put_54 : decode cX2_put 54 = .ok (.imul, 1) := by decide +kernel
theorem dX2_put_55 : decode cX2_put 55 = .ok (.iload_n 2, 1) := by decide +kernel
theorem dX2_put_56 : decode cX2_put 56 = .ok (.iadd, 1) := by decide +kernel
theorem dX2_put_57 : decode cX2_put 57 = .ok (.istore 5, 2) := by decide +kernel
theorem dX2_put_59 : decode cX2_put 59 = .ok (.aload_n 0, 1) := by decide +kernel
theorem dX2_put_60 : decode cX2_put 60 = .ok (.getfield 29, 3) := by decide +kernel
theorem dX2_put_63 : decode cX2_put 63 = .ok (.iload 5, 2) := by decide +kernel
theorem dX2_put_65 : decode cX2_put 65 = .ok (.dup2, 1) := by decide +kernel
theorem dX2_put_66 : decode cX2_put 66 = .ok (.iaload, 1) := by decide +kernel
theorem dX2_put_67 : decode cX2_put 67 = .ok (.iconst 1, 1) := by decide +kernel
theorem dX2_put_68 : decode cX2_put 68 = .ok (.iadd, 1) := by decide +kernel
theorem dX2_put_69 : decode cX2_put 69 = .ok (.iastore, 1) := by decide +kernel
theorem dX2_put_70 : decode cX2_put 70 = .ok (.aload_n 0, 1) := by decide +kernel
theorem dX2_put_71 : decode cX2_put 71 = .ok (.getfield 32, 3) := by decide +kernel
theorem dX2_put_74 : decode cX2_put 74 = .ok (.iload 5, 2) := by decide +kernel
theorem dX2_put_76 : decode cX2_put 76 = .ok (.iload 4, 2) := by decide +kernel
theorem dX2_put_78 : decode cX2_put 78 = .ok (.iastore, 1) := by decide +kernel
theorem dX2_put_79 : decode cX2_put 79 = .ok (.aload_n 0, 1) := by decide +kernel
theorem dX2_put_80 : decode cX2_put 80 = .ok (.getfield 35, 3) := by decide +kernel
theorem dX2_put_83 : decode cX2_put 83 = .ok (.iload 5, 2) := by decide +kernel
theorem dX2_put_85 : decode cX2_put 85 = .ok (.iload_n 3, 1) := by decide +kernel
theorem dX2_put_86 : decode cX2_put 86 = .ok (.iastore, 1) := by decide +kernel
theorem dX2_put_87 : decode cX2_put 87 = .ok (.aload_n 0, 1) := by decide +kernel
theorem dX2_put_88 : decode cX2_put 88 = .ok (.iload 4, 2) := by decide +kernel
theorem dX2_put_90 : decode cX2_put 90 = .ok (.iload_n 2, 1) := by decide +kernel
theorem dX2_put_91 : decode cX2_put 91 = .ok (.invokevirtual 136, 3) := by decide +kernel
theorem dX2_put_94 : decode cX2_put 94 = .ok (.istore 6, 2) := by decide +kernel
theorem dX2_put_96 : decode cX2_put 96 = .ok (.aload_n 0, 1) := by decide +kernel
theorem dX2_put_97 : decode cX2_put 97 = .ok (.getfield 29, 3) := by decide +kernel
theorem dX2_put_100 : decode cX2_put 100 = .ok (.iload 5, 2) := by decide +kernel
theorem dX2_put_102 : decode cX2_put 102 = .ok (.iaload, 1) := by decide +kernel
theorem dX2_put_103 : decode cX2_put 103 = .ok (.ireturn, 1) := by decide +kernel
theorem dX2_get_0 : decode cX2_get 0 = .ok (.aload_n 0, 1) := by decide +kernel
theorem dX2_get_1 : decode cX2_get 1 = .ok (.aload_n 0, 1) := by decide +kernel
theorem dX2_get_2 : decode cX2_get 2 = .ok (.iload_n 1, 1) := by decide +kernel
theorem dX2_get_3 : decode cX2_get 3 = .ok (.invokevirtual 101, 3) := by decide +kernel
theorem dX2_get_6 : decode cX2_get 6 = .ok (.ifCond .eq 14, 3) := by decide +kernel
theorem dX2_get_9 : decode cX2_get 9 = .ok (.iload_n 2, 1) := by decide +kernel
theorem dX2_get_10 : decode cX2_get 10 = .ok (.invokestatic 145, 3) := by decide +kernel
theorem dX2_get_13 : decode cX2_get 13 = .ok (.ifCond .eq 7, 3) := by decide +kernel
theorem dX2_get_16 : decode cX2_get 16 = .ok (.iconst 1, 1) := by decide +kernel
theorem dX2_get_17 : decode cX2_get 17 = .ok (.goto 4, 3) := by decide +kernel
theorem dX2_get_20 : decode cX2_get 20 = .ok (.iconst 0, 1) := by decide +kernel
theorem dX2_get_21 : decode cX2_get 21 = .ok (.iconst 1, 1) := by decide +kernel
theorem dX2_get_22 : decode cX2_get 22 = .ok (.iconst 1, 1) := by decide +kernel
theorem dX2_get_23 : decode cX2_get 23 = .ok (.invokevirtual 69, 3) := by decide +kernel
theorem dX2_get_26 : decode cX2_get 26 = .ok (.ifCond .ne 5, 3) := by decide +kernel
theorem dX2_get_29 : decode cX2_get 29 = .ok (.iconst 0, 1) := by decide +kernel
theorem dX2_get_30 : decode cX2_get 30 = .ok (.ireturn, 1) := by decide +kernel
theorem dX2_get_31 : decode cX2_get 31 = .ok (.aload_n 0, 1) := by decide +kernel
theorem dX2_get_32 : decode cX2_get 32 = .ok (.iload_n 1, 1) := by decide +kernel
theorem dX2_get_33 : decode cX2_get 33 = .ok (.iload_n 2, 1) := by decide +kernel
theorem dX2_get_34 : decode cX2_get 34 = .ok (.invokestatic 120, 3) := by decide +kernel
theorem dX2_get_37 : decode cX2_get 37 = .ok (.invokevirtual 104, 3) := by decide +kernel
theorem dX2_get_40 : decode cX2_get 40 = .ok (.istore_n 3, 1) := by decide +kernel
theorem dX2_get_41 : decode cX2_get 41 = .ok (.bipush 64, 2) := by decide +kernel
theorem dX2_get_43 : decode cX2_get 43 = .ok (.iload_n 3, 1) := by decide +kernel
theorem dX2_get_44 : decode cX2_get 44 = .ok (.imul, 1) := by decide +kernel
theorem dX2_get_45 : decode cX2_get 45 = .ok (.iload_n 2, 1) := by decide +kernel
theorem dX2_get_46 : decode cX2_get 46 = .ok (.iadd, 1) := by decide +kernel
theorem dX2_get_47 : decode cX2_get 47 = .ok (.istore 4, 2) := by decide +kernel
theorem dX2_get_49 : decode cX2_get 49 = .ok (.aload_n 0, 1) := by decide +kernel
theorem dX2_get_50 : decode cX2_get 50 = .ok (.getfield 29, 3) := by decide +kernel
theorem dX2_get_53 : decode cX2_get 53 = .ok (.iload 4, 2) := by decide +kernel
theorem dX2_get_55 : decode cX2_get 55 = .ok (.iaload, 1) := by decide +kernel
theorem dX2_get_56 : decode cX2_get 56 = .ok (.ifCond .le 7, 3) := by decide +kernel
theorem dX2_get_59 : decode cX2_get 59 = .ok (.iconst 1, 1) := by decide +kernel
theorem dX2_get_60 : decode cX2_get 60 = .ok (.goto 4, 3) := by decide +kernel
theorem dX2_get_63 : decode cX2_get 63 = .ok (.iconst 0, 1) := by decide +kernel
theorem dX2_get_64 : decode cX2_get 64 = .ok (.istore 5, 2) := by decide +kernel
theorem dX2_get_66 : decode cX2_get 66 = .ok (.iconst 0, 1) := by decide +kernel
theorem dX2_get_67 : decode cX2_get 67 = .ok (.istore 6, 2) := by decide +kernel
theorem dX2_get_69 : decode cX2_get 69 = .ok (.iload 6, 2) := by decide +kernel
theorem dX2_get_71 : decode cX2_get 71 = .ok (.aload_n 0, 1) := by decide +kernel
theorem dX2_get_72 : decode cX2_get 72 = .ok (.getfield 7, 3) := by decide +kernel
theorem dX2_get_75 : decode cX2_get 75 = .ok (.if_icmp .ge 66, 3) := by decide +kernel
theorem dX2_get_78 : decode cX2_get 78 = .ok (.iload 5, 2) := by decide +kernel
theorem dX2_get_80 : decode cX2_get 80 = .ok (.ifCond .ne 61, 3) := by decide +kernel
theorem dX2_get_83 : decode cX2_get 83 = .ok (.aload_n 0, 1) := by decide +kernel
theorem dX2_get_84 : decode cX2_get 84 = .ok (.getfield 17, 3) := by decide +kernel
theorem dX2_get_87 : decode cX2_get 87 = .ok (.iconst 4, 1) := by decide +kernel
theorem dX2_get_88 : decode cX2_get 88 = .ok (.iload_n 3, 1) := by decide +kernel
theorem dX2_get_89 : decode cX2_get 89 = .ok (.imul, 1) := by decide +kernel
theorem dX2_get_90 : decode cX2_get 90 = .ok (.iload 6, 2) := by decide +kernel
theorem dX2_get_92 : decode cX2_get 92 = .ok (.iadd, 1) := by decide +kernel
theorem dX2_get_93 : decode cX2_get 93 = .ok (.iaload, 1) := by decide +kernel
theorem dX2_get_94 : decode cX2_get 94 = .ok (.istore 7, 2) := by decide +kernel
theorem dX2_get_96 : decode cX2_get 96 = .ok (.aload_n 0, 1) := by decide +kernel
theorem dX2_get_97 : decode cX2_get 97 = .ok (.iload 7, 2) := by decide +kernel
theorem dX2_get_99 : decode cX2_get 99 = .ok (.invokevirtual 58, 3) := by decide +kernel
theorem dX2_get_102 : decode cX2_get 102 = .ok (.ifCond .eq 29, 3) := by decide +kernel
theorem dX2_get_105 : decode cX2_get 105 = .ok (.aload_n 0, 1) := by decide +kernel
theorem dX2_get_106 : decode cX2_get 106 = .ok (.bipush 64, 2) := by decide +kernel
theorem dX2_get_108 : decode cX2_get 108 = .ok (.iload 7, 2) := by decide +kernel
theorem dX2_get_110 : decode cX2_get 110 = .ok (.imul, 1) := by decide +kernel
theorem dX2_get_111 : decode cX2_get 111 = .ok (.iload_n 2, 1) := by decide +kernel
theorem dX2_get_112 : decode cX2_get 112 = .ok (.iadd, 1) := by decide +kernel
theorem dX2_get_113 : decode cX2_get 113 = .ok (.iload 4, 2) := by decide +kernel
theorem dX2_get_115 : decode cX2_get 115 = .ok (.invokevirtual 127, 3) := by decide +kernel
theorem dX2_get_118 : decode cX2_get 118 = .ok (.ifCond .eq 13, 3) := by decide +kernel
theorem dX2_get_121 : decode cX2_get 121 = .ok (.bipush 64, 2) := by decide +kernel
theorem dX2_get_123 : decode cX2_get 123 = .ok (.iload 7, 2) := by decide +kernel
theorem dX2_get_125 : decode cX2_get 125 = .ok (.imul, 1) := by decide +kernel
theorem dX2_get_126 : decode cX2_get 126 = .ok (.iload_n 2, 1) := by decide +kernel
theorem dX2_get_127 : decode cX2_get 127 = .ok (.iadd, 1) := by decide +kernel
theorem dX2_get_128 : decode cX2_get 128 = .ok (.goto 5, 3) := by decide +kernel
theorem dX2_get_131 : decode cX2_get 131 = .ok (.iload 4, 2) := by decide +kernel
theorem dX2_get_133 : decode cX2_get 133 = .ok (.istore 4, 2) := by decide +kernel
theorem dX2_get_135 : decode cX2_get 135 = .ok (.iinc 6 1, 3) := by decide +kernel
theorem dX2_get_138 : decode cX2_get 138 = .ok (.goto (-69), 3) := by decide +kernel
theorem dX2_get_141 : decode cX2_get 141 = .ok (.aload_n 0, 1) := by decide +kernel
theorem dX2_get_142 : decode cX2_get 142 = .ok (.getfield 29, 3) := by decide +kernel
theorem dX2_get_145 : decode cX2_get 145 = .ok (.iload 4, 2) := by decide +kernel
theorem dX2_get_147 : decode cX2_get 147 = .ok (.iaload, 1) := by decide +kernel
theorem dX2_get_148 : decode cX2_get 148 = .ok (.ifCond .le 13, 3) := by decide +kernel
theorem dX2_get_151 : decode cX2_get 151 = .ok (.aload_n 0, 1) := by decide +kernel
theorem dX2_get_152 : decode cX2_get 152 = .ok (.getfield 35, 3) := by decide +kernel
theorem dX2_get_155 : decode cX2_get 155 = .ok (.iload 4, 2) := by decide +kernel
theorem dX2_get_157 : decode cX2_get 157 = .ok (.iaload, 1) := by decide +kernel
theorem dX2_get_158 : decode cX2_get 158 = .ok (.goto 4, 3) := by decide +kernel
theorem dX2_get_161 : decode cX2_get 161 = .ok (.iconst (-1), 1) := by decide +kernel
theorem dX2_get_162 : decode cX2_get 162 = .ok (.ireturn, 1) := by decide +kernel
theorem dX2_held_0 : decode cX2_held 0 = .ok (.aload_n 0, 1) := by decide +kernel
theorem dX2_held_1 : decode cX2_held 1 = .ok (.aload_n 0, 1) := by decide +kernel
theorem dX2_held_2 : decode cX2_held 2 = .ok (.iload_n 1, 1) := by decide +kernel
theorem dX2_held_3 : decode cX2_held 3 = .ok (.invokevirtual 101, 3) := by decide +kernel
theorem dX2_held_6 : decode cX2_held 6 = .ok (.ifCond .eq 14, 3) := by decide +kernel
theorem dX2_held_9 : decode cX2_held 9 = .ok (.iload_n 2, 1) := by decide +kernel
theorem dX2_held_10 : decode cX2_held 10 = .ok (.invokestatic 145, 3) := by decide +kernel
theorem dX2_held_13 : decode cX2_held 13 = .ok (.ifCond .eq 7, 3) := by decide +kernel
theorem dX2_held_16 : decode cX2_held 16 = .ok (.iconst 1, 1) := by decide +kernel
theorem dX2_held_17 : decode cX2_held 17 = .ok (.goto 4, 3) := by decide +kernel
theorem dX2_held_20 : decode cX2_held 20 = .ok (.iconst 0, 1) := by decide +kernel
theorem dX2_held_21 : decode cX2_held 21 = .ok (.iload_n 3, 1) := by decide +kernel
theorem dX2_held_22 : decode cX2_held 22 = .ok (.ifCond .lt 12, 3) := by decide +kernel
theorem dX2_held_25 : decode cX2_held 25 = .ok (.iload_n 3, 1) := by decide +kernel
theorem dX2_held_26 : decode cX2_held 26 = .ok (.iconst 2, 1) := by decide +kernel
theorem dX2_held_27 : decode cX2_held 27 = .ok (.if_icmp .gt 7, 3) := by decide +kernel
theorem dX2_held_30 : decode cX2_held 30 = .ok (.iconst 1, 1) := by decide +kernel
theorem dX2_held_31 : decode cX2_held 31 = .ok (.goto 4, 3) := by decide +kernel
theorem dX2_held_34 : decode cX2_held 34 = .ok (.iconst 0, 1) := by decide +kernel
theorem dX2_held_35 : decode cX2_held 35 = .ok (.iconst 1, 1) := by decide +kernel
theorem dX2_held_36 : decode cX2_held 36 = .ok (.invokevirtual 69, 3) := by decide +kernel
theorem dX2_held_39 : decode cX2_held 39 = .ok (.ifCond .ne 5, 3) := by decide +kernel
theorem dX2_held_42 : decode cX2_held 42 = .ok (.iconst 0, 1) := by decide +kernel
theorem dX2_held_43 : decode cX2_held 43 = .ok (.ireturn, 1) := by decide +kernel
theorem dX2_held_44 : decode cX2_held 44 = .ok (.bipush 64, 2) := by decide +kernel
theorem dX2_held_46 : decode cX2_held 46 = .ok (.iload_n 1, 1) := by decide +kernel
theorem dX2_held_47 : decode cX2_held 47 = .ok (.imul, 1) := by decide +kernel
theorem dX2_held_48 : decode cX2_held 48 = .ok (.iload_n 2, 1) := by decide +kernel
theorem dX2_held_49 : decode cX2_held 49 = .ok (.iadd, 1) := by decide +kernel
theorem dX2_held_50 : decode cX2_held 50 = .ok (.istore 4, 2) := by decide +kernel
theorem dX2_held_52 : decode cX2_held 52 = .ok (.iload_n 3, 1) := by decide +kernel
theorem dX2_held_53 : decode cX2_held 53 = .ok (.ifCond .ne 13, 3) := by decide +kernel
theorem dX2_held_56 : decode cX2_held 56 = .ok (.aload_n 0, 1) := by decide +kernel
theorem dX2_held_57 : decode cX2_held 57 = .ok (.getfield 29, 3) := by decide +kernel
theorem dX2_held_60 : decode cX2_held 60 = .ok (.iload 4, 2) := by decide +kernel
theorem dX2_held_62 : decode cX2_held 62 = .ok (.iaload, 1) := by decide +kernel
theorem dX2_held_63 : decode cX2_held 63 = .ok (.goto 39, 3) := by decide +kernel
theorem dX2_held_66 : decode cX2_held 66 = .ok (.aload_n 0, 1) := by decide +kernel
theorem dX2_held_67 : decode cX2_held 67 = .ok (.getfield 29, 3) := by decide +kernel
theorem dX2_held_70 : decode cX2_held 70 = .ok (.iload 4, 2) := by decide +kernel
theorem dX2_held_72 : decode cX2_held 72 = .ok (.iaload, 1) := by decide +kernel
theorem dX2_held_73 : decode cX2_held 73 = .ok (.ifCond .ne 7, 3) := by decide +kernel
theorem dX2_held_76 : decode cX2_held 76 = .ok (.iconst (-1), 1) := by decide +kernel
theorem dX2_held_77 : decode cX2_held 77 = .ok (.goto 25, 3) := by decide +kernel
theorem dX2_held_80 : decode cX2_held 80 = .ok (.iload_n 3, 1) := by decide +kernel
theorem dX2_held_81 : decode cX2_held 81 = .ok (.iconst 1, 1) := by decide +kernel
theorem dX2_held_82 : decode cX2_held 82 = .ok (.if_icmp .ne 13, 3) := by decide +kernel
theorem dX2_held_85 : decode cX2_held 85 = .ok (.aload_n 0, 1) := by decide +kernel
theorem dX2_held_86 : decode cX2_held 86 = .ok (.getfield 32, 3) := by decide +kernel
theorem dX2_held_89 : decode cX2_held 89 = .ok (.iload 4, 2) := by decide +kernel
theorem dX2_held_91 : decode cX2_held 91 = .ok (.iaload, 1) := by decide +kernel
theorem dX2_held_92 : decode cX2_held 92 = .ok (.goto 10, 3) := by decide +kernel
theorem dX2_held_95 : decode cX2_held 95 = .ok (.aload_n 0, 1) := by decide +kernel
theorem dX2_held_96 : decode cX2_held 96 = .ok (.getfield 35, 3) := by decide +kernel
theorem dX2_held_99 : decode cX2_held 99 = .ok (.iload 4, 2) := by decide +kernel
theorem dX2_held_101 : decode cX2_held 101 = .ok (.iaload, 1) := by decide +kernel
theorem dX2_held_102 : decode cX2_held 102 = .ok (.ireturn, 1) := by decide +kernel
theorem dX2_known_0 : decode cX2_known 0 = .ok (.aload_n 0, 1) := by decide +kernel
theorem dX2_known_1 : decode cX2_known 1 = .ok (.aload_n 0, 1) := by decide +kernel
theorem dX2_known_2 : decode cX2_known 2 = .ok (.iload_n 1, 1) := by decide +kernel
theorem dX2_known_3 : decode cX2_known 3 = .ok (.invokevirtual 101, 3) := by decide +kernel
theorem dX2_known_6 : decode cX2_known 6 = .ok (.ifCond .eq 32, 3) := by decide +kernel
theorem dX2_known_9 : decode cX2_known 9 = .ok (.iload_n 2, 1) := by decide +kernel
theorem dX2_known_10 : decode cX2_known 10 = .ok (.iconst (-1), 1) := by decide +kernel
theorem dX2_known_11 : decode cX2_known 11 = .ok (.if_icmp .lt 11, 3) := by decide +kernel
theorem dX2_known_14 : decode cX2_known 14 = .ok (.iload_n 2, 1) := by decide +kernel
theorem dX2_known_15 : decode cX2_known 15 = .ok (.aload_n 0, 1) := by decide +kernel
theorem dX2_known_16 : decode cX2_known 16 = .ok (.getfield 7, 3) := by decide +kernel
theorem dX2_known_19 : decode cX2_known 19 = .ok (.if_icmp .lt 15, 3) := by decide +kernel
theorem dX2_known_22 : decode cX2_known 22 = .ok (.iload_n 2, 1) := by decide +kernel
theorem dX2_known_23 : decode cX2_known 23 = .ok (.bipush 10, 2) := by decide +kernel
theorem dX2_known_25 : decode cX2_known 25 = .ok (.if_icmp .lt 13, 3) := by decide +kernel
theorem dX2_known_28 : decode cX2_known 28 = .ok (.iload_n 2, 1) := by decide +kernel
theorem dX2_known_29 : decode cX2_known 29 = .ok (.bipush 18, 2) := by decide +kernel
theorem dX2_known_31 : decode cX2_known 31 = .ok (.if_icmp .ge 7, 3) := by decide +kernel
theorem dX2_known_34 : decode cX2_known 34 = .ok (.iconst 1, 1) := by decide +kernel
theorem dX2_known_35 : decode cX2_known 35 = .ok (.goto 4, 3) := by decide +kernel
theorem dX2_known_38 : decode cX2_known 38 = .ok (.iconst 0, 1) := by decide +kernel
theorem dX2_known_39 : decode cX2_known 39 = .ok (.iconst 1, 1) := by decide +kernel
theorem dX2_known_40 : decode cX2_known 40 = .ok (.iconst 1, 1) := by decide +kernel
theorem dX2_known_41 : decode cX2_known 41 = .ok (.invokevirtual 69, 3) := by decide +kernel
theorem dX2_known_44 : decode cX2_known 44 = .ok (.ifCond .ne 5, 3) := by decide +kernel
theorem dX2_known_47 : decode cX2_known 47 = .ok (.iconst 0, 1) := by decide +kernel
theorem dX2_known_48 : decode cX2_known 48 = .ok (.ireturn, 1) := by decide +kernel
theorem dX2_known_49 : decode cX2_known 49 = .ok (.iload_n 2, 1) := by decide +kernel
theorem dX2_known_50 : decode cX2_known 50 = .ok (.iconst (-1), 1) := by decide +kernel
theorem dX2_known_51 : decode cX2_known 51 = .ok (.if_icmp .ne 12, 3) := by decide +kernel
theorem dX2_known_54 : decode cX2_known 54 = .ok (.aload_n 0, 1) := by decide +kernel
theorem dX2_known_55 : decode cX2_known 55 = .ok (.getfield 20, 3) := by decide +kernel
theorem dX2_known_58 : decode cX2_known 58 = .ok (.iload_n 1, 1) := by decide +kernel
theorem dX2_known_59 : decode cX2_known 59 = .ok (.iaload, 1) := by decide +kernel
theorem dX2_known_60 : decode cX2_known 60 = .ok (.goto 36, 3) := by decide +kernel
theorem dX2_known_63 : decode cX2_known 63 = .ok (.iload_n 2, 1) := by decide +kernel
theorem dX2_known_64 : decode cX2_known 64 = .ok (.bipush 10, 2) := by decide +kernel
theorem dX2_known_66 : decode cX2_known 66 = .ok (.if_icmp .ge 16, 3) := by decide +kernel
theorem dX2_known_69 : decode cX2_known 69 = .ok (.aload_n 0, 1) := by decide +kernel
theorem dX2_known_70 : decode cX2_known 70 = .ok (.getfield 17, 3) := by decide +kernel
theorem dX2_known_73 : decode cX2_known 73 = .ok (.iconst 4, 1) := by decide +kernel
theorem dX2_known_74 : decode cX2_known 74 = .ok (.iload_n 1, 1) := by decide +kernel
theorem dX2_known_75 : decode cX2_known 75 = .ok (.imul, 1) := by decide +kernel
theorem dX2_known_76 : decode cX2_known 76 = .ok (.iload_n 2, 1) := by decide +kernel
theorem dX2_known_77 : decode cX2_known 77 = .ok (.iadd, 1) := by decide +kernel
theorem dX2_known_78 : decode cX2_known 78 = .ok (.iaload, 1) := by decide +kernel
theorem dX2_known_79 : decode cX2_known 79 = .ok (.goto 17, 3) := by decide +kernel
theorem dX2_known_82 : decode cX2_known 82 = .ok (.aload_n 0, 1) := by decide +kernel
theorem dX2_known_83 : decode cX2_known 83 = .ok (.getfield 23, 3) := by decide +kernel
theorem dX2_known_86 : decode cX2_known 86 = .ok (.bipush 8, 2) := by decide +kernel
theorem dX2_known_88 : decode cX2_known 88 = .ok (.iload_n 1, 1) := by decide +kernel
theorem dX2_known_89 : decode cX2_known 89 = .ok (.imul, 1) := by decide +kernel
theorem dX2_known_90 : decode cX2_known 90 = .ok (.iload_n 2, 1) := by decide +kernel
theorem dX2_known_91 : decode cX2_known 91 = .ok (.iadd, 1) := by decide +kernel
theorem dX2_known_92 : decode cX2_known 92 = .ok (.bipush 10, 2) := by decide +kernel
theorem dX2_known_94 : decode cX2_known 94 = .ok (.isub, 1) := by decide +kernel
theorem dX2_known_95 : decode cX2_known 95 = .ok (.iaload, 1) := by decide +kernel
theorem dX2_known_96 : decode cX2_known 96 = .ok (.ireturn, 1) := by decide +kernel
theorem dX2_owner_0 : decode cX2_owner 0 = .ok (.aload_n 0, 1) := by decide +kernel
theorem dX2_owner_1 : decode cX2_owner 1 = .ok (.iload_n 1, 1) := by decide +kernel
theorem dX2_owner_2 : decode cX2_owner 2 = .ok (.invokestatic 50, 3) := by decide +kernel
theorem dX2_owner_5 : decode cX2_owner 5 = .ok (.iconst 1, 1) := by decide +kernel
theorem dX2_owner_6 : decode cX2_owner 6 = .ok (.iconst 1, 1) := by decide +kernel
theorem dX2_owner_7 : decode cX2_owner 7 = .ok (.invokevirtual 69, 3) := by decide +kernel
theorem dX2_owner_10 : decode cX2_owner 10 = .ok (.ifCond .eq 11, 3) := by decide +kernel
theorem dX2_owner_13 : decode cX2_owner 13 = .ok (.aload_n 0, 1) := by decide +kernel
theorem dX2_owner_14 : decode cX2_owner 14 = .ok (.iload_n 1, 1) := by decide +kernel
theorem dX2_owner_15 : decode cX2_owner 15 = .ok (.invokevirtual 77, 3) := by decide +kernel
theorem dX2_owner_18 : decode cX2_owner 18 = .ok (.goto 4, 3) := by decide +kernel
theorem dX2_owner_21 : decode cX2_owner 21 = .ok (.iconst 0, 1) := by decide +kernel
theorem dX2_owner_22 : decode cX2_owner 22 = .ok (.ireturn, 1) := by decide +kernel
theorem dX2_ideal_0 : decode cX2_ideal 0 = .ok (.aload_n 0, 1) := by decide +kernel
theorem dX2_ideal_1 : decode cX2_ideal 1 = .ok (.iconst 0, 1) := by decide +kernel
theorem dX2_ideal_2 : decode cX2_ideal 2 = .ok (.putfield 47, 3) := by decide +kernel
theorem dX2_ideal_5 : decode cX2_ideal 5 = .ok (.aload_n 0, 1) := by decide +kernel
theorem dX2_ideal_6 : decode cX2_ideal 6 = .ok (.getfield 54, 3) := by decide +kernel
theorem dX2_ideal_9 : decode cX2_ideal 9 = .ok (.istore_n 1, 1) := by decide +kernel
theorem dX2_ideal_10 : decode cX2_ideal 10 = .ok (.iconst 0, 1) := by decide +kernel
theorem dX2_ideal_11 : decode cX2_ideal 11 = .ok (.istore_n 2, 1) := by decide +kernel
theorem dX2_ideal_12 : decode cX2_ideal 12 = .ok (.iload_n 2, 1) := by decide +kernel
theorem dX2_ideal_13 : decode cX2_ideal 13 = .ok (.sipush 256, 3) := by decide +kernel
theorem dX2_ideal_16 : decode cX2_ideal 16 = .ok (.if_icmp .ge 125, 3) := by decide +kernel
theorem dX2_ideal_19 : decode cX2_ideal 19 = .ok (.aload_n 0, 1) := by decide +kernel
theorem dX2_ideal_20 : decode cX2_ideal 20 = .ok (.getfield 54, 3) := by decide +kernel
theorem dX2_ideal_23 : decode cX2_ideal 23 = .ok (.ifCond .eq 118, 3) := by decide +kernel
theorem dX2_ideal_26 : decode cX2_ideal 26 = .ok (.iload_n 2, 1) := by decide +kernel
theorem dX2_ideal_27 : decode cX2_ideal 27 = .ok (.istore_n 3, 1) := by decide +kernel
theorem dX2_ideal_28 : decode cX2_ideal 28 = .ok (.iconst 0, 1) := by decide +kernel
theorem dX2_ideal_29 : decode cX2_ideal 29 = .ok (.istore 4, 2) := by decide +kernel
theorem dX2_ideal_31 : decode cX2_ideal 31 = .ok (.iload 4, 2) := by decide +kernel
theorem dX2_ideal_33 : decode cX2_ideal 33 = .ok (.aload_n 0, 1) := by decide +kernel
theorem dX2_ideal_34 : decode cX2_ideal 34 = .ok (.getfield 7, 3) := by decide +kernel
theorem dX2_ideal_37 : decode cX2_ideal 37 = .ok (.if_icmp .ge 56, 3) := by decide +kernel
theorem dX2_ideal_40 : decode cX2_ideal 40 = .ok (.aload_n 0, 1) := by decide +kernel
theorem dX2_ideal_41 : decode cX2_ideal 41 = .ok (.getfield 13, 3) := by decide +kernel
theorem dX2_ideal_44 : decode cX2_ideal 44 = .ok (.iload_n 2, 1) := by decide +kernel
theorem dX2_ideal_45 : decode cX2_ideal 45 = .ok (.iaload, 1) := by decide +kernel
theorem dX2_ideal_46 : decode cX2_ideal 46 = .ok (.iconst 1, 1) := by decide +kernel
theorem dX2_ideal_47 : decode cX2_ideal 47 = .ok (.if_icmp .ne 46, 3) := by decide +kernel
theorem dX2_ideal_50 : decode cX2_ideal 50 = .ok (.aload_n 0, 1) := by decide +kernel
theorem dX2_ideal_51 : decode cX2_ideal 51 = .ok (.iload_n 3, 1) := by decide +kernel
theorem dX2_ideal_52 : decode cX2_ideal 52 = .ok (.iconst 1, 1) := by decide +kernel
theorem dX2_ideal_53 : decode cX2_ideal 53 = .ok (.iadd, 1) := by decide +kernel
theorem dX2_ideal_54 : decode cX2_ideal 54 = .ok (.sipush 256, 3) := by decide +kernel
theorem dX2_ideal_57 : decode cX2_ideal 57 = .ok (.irem, 1) := by decide +kernel
theorem dX2_ideal_58 : decode cX2_ideal 58 = .ok (.invokevirtual 77, 3) := by decide +kernel
theorem dX2_ideal_61 : decode cX2_ideal 61 = .ok (.istore_n 3, 1) := by decide +kernel
theorem dX2_ideal_62 : decode cX2_ideal 62 = .ok (.iload_n 1, 1) := by decide +kernel
theorem dX2_ideal_63 : decode cX2_ideal 63 = .ok (.ifCond .eq 22, 3) := by decide +kernel
theorem dX2_ideal_66 : decode cX2_ideal 66 = .ok (.aload_n 0, 1) := by decide +kernel
theorem dX2_ideal_67 : decode cX2_ideal 67 = .ok (.getfield 17, 3) := by decide +kernel
theorem dX2_ideal_70 : decode cX2_ideal 70 = .ok (.iconst 4, 1) := by decide +kernel
theorem dX2_ideal_71 : decode cX2_ideal 71 = .ok (.iload_n 2, 1) := by decide +kernel
theorem dX2_ideal_72 : decode cX2_ideal 72 = .ok (.imul, 1) := by decide +kernel
theorem dX2_ideal_73 : decode cX2_ideal 73 = .ok (.iload 4, 2) := by decide +kernel
theorem dX2_ideal_75 : decode cX2_ideal 75 = .ok (.iadd, 1) := by decide +kernel
theorem dX2_ideal_76 : decode cX2_ideal 76 = .ok (.iaload, 1) := by decide +kernel
theorem dX2_ideal_77 : decode cX2_ideal 77 = .ok (.iload_n 3, 1) := by decide +kernel
theorem dX2_ideal_78 : decode cX2_ideal 78 = .ok (.if_icmp .ne 7, 3) := by decide +kernel
theorem dX2_ideal_81 : decode cX2_ideal 81 = .ok (.iconst 1, 1) := by decide +kernel
theorem dX2_ideal_82 : decode cX2_ideal 82 = .ok (.goto 4, 3) := by decide +kernel
theorem dX2_ideal_85 : decode cX2_ideal 85 = .ok (.iconst 0, 1) := by decide +kernel
theorem dX2_ideal_86 : decode cX2_ideal 86 = .ok (.istore_n 1, 1) := by decide +kernel
theorem dX2_ideal_87 : decode cX2_ideal 87 = .ok (.iinc 4 1, 3) := by decide +kernel
theorem dX2_ideal_90 : decode cX2_ideal 90 = .ok (.goto (-59), 3) := by decide +kernel
theorem dX2_ideal_93 : decode cX2_ideal 93 = .ok (.iload_n 1, 1) := by decide +kernel
theorem dX2_ideal_94 : decode cX2_ideal 94 = .ok (.ifCond .eq 39, 3) := by decide +kernel
theorem dX2_ideal_97 : decode cX2_ideal 97 = .ok (.aload_n 0, 1) := by decide +kernel
theorem dX2_ideal_98 : decode cX2_ideal 98 = .ok (.getfield 13, 3) := by decide +kernel
theorem dX2_ideal_101 : decode cX2_ideal 101 = .ok (.iload_n 2, 1) := by decide +kernel
theorem dX2_ideal_102 : decode cX2_ideal 102 = .ok (.iaload, 1) := by decide +kernel
theorem dX2_ideal_103 : decode cX2_ideal 103 = .ok (.iconst 1, 1) := by decide +kernel
theorem dX2_ideal_104 : decode cX2_ideal 104 = .ok (.if_icmp .ne 25, 3) := by decide +kernel
theorem dX2_ideal_107 : decode cX2_ideal 107 = .ok (.aload_n 0, 1) := by decide +kernel
theorem dX2_ideal_108 : decode cX2_ideal 108 = .ok (.getfield 20, 3) := by decide +kernel
theorem dX2_ideal_111 : decode cX2_ideal 111 = .ok (.iload_n 2, 1) := by decide +kernel
theorem dX2_ideal_112 : decode cX2_ideal 112 = .ok (.iaload, 1) := by decide +kernel
theorem dX2_ideal_113 : decode cX2_ideal 113 = .ok (.aload_n 0, 1) := by decide +kernel
theorem dX2_ideal_114 : decode cX2_ideal 114 = .ok (.iload_n 2, 1) := by decide +kernel
theorem dX2_ideal_115 : decode cX2_ideal 115 = .ok (.sipush 255, 3) := by decide +kernel
theorem dX2_ideal_118 : decode cX2_ideal 118 = .ok (.iadd, 1) := by decide +kernel
theorem dX2_ideal_119 : decode cX2_ideal 119 = .ok (.sipush 256, 3) := by decide +kernel
theorem dX2_ideal_122 : decode cX2_ideal 122 = .ok (.irem, 1) := by decide +kernel
theorem dX2_ideal_123 : decode cX2_ideal 123 = .ok (.invokevirtual 81, 3) := by decide +kernel
theorem dX2_ideal_126 : decode cX2_ideal 126 = .ok (.if_icmp .ne 7, 3) := by decide +kernel
theorem dX2_ideal_129 : decode cX2_ideal 129 = .ok (.iconst 1, 1) := by decide +kernel
theorem dX2_ideal_130 : decode cX2_ideal 130 = .ok (.goto 4, 3) := by decide +kernel
theorem dX2_ideal_133 : decode cX2_ideal 133 = .ok (.iconst 0, 1) := by decide +kernel
theorem dX2_ideal_134 : decode cX2_ideal 134 = .ok (.istore_n 1, 1) := by decide +kernel
theorem dX2_ideal_135 : decode cX2_ideal 135 = .ok (.iinc 2 1, 3) := by decide +kernel
theorem dX2_ideal_138 : decode cX2_ideal 138 = .ok (.goto (-126), 3) := by decide +kernel
theorem dX2_ideal_141 : decode cX2_ideal 141 = .ok (.iload_n 1, 1) := by decide +kernel
theorem dX2_ideal_142 : decode cX2_ideal 142 = .ok (.ireturn, 1) := by decide +kernel
theorem dX2_sum_0 : decode cX2_sum 0 = .ok (.iconst 0, 1) := by decide +kernel
theorem dX2_sum_1 : decode cX2_sum 1 = .ok (.istore_n 2, 1) := by decide +kernel
theorem dX2_sum_2 : decode cX2_sum 2 = .ok (.iconst 0, 1) := by decide +kernel
theorem dX2_sum_3 : decode cX2_sum 3 = .ok (.istore_n 3, 1) := by decide +kernel
theorem dX2_sum_4 : decode cX2_sum 4 = .ok (.iload_n 3, 1) := by decide +kernel
theorem dX2_sum_5 : decode cX2_sum 5 = .ok (.sipush 256, 3) := by decide +kernel
theorem dX2_sum_8 : decode cX2_sum 8 = .ok (.if_icmp .ge 221, 3) := by decide +kernel
theorem dX2_sum_11 : decode cX2_sum 11 = .ok (.iload_n 1, 1) := by decide +kernel
theorem dX2_sum_12 : decode cX2_sum 12 = .ok (.iconst 1, 1) := by decide +kernel
theorem dX2_sum_13 : decode cX2_sum 13 = .ok (.if_icmp .ne 19, 3) := by decide +kernel
theorem dX2_sum_16 : decode cX2_sum 16 = .ok (.aload_n 0, 1) := by decide +kernel
theorem dX2_sum_17 : decode cX2_sum 17 = .ok (.getfield 13, 3) := by decide +kernel
theorem dX2_sum_20 : decode cX2_sum 20 = .ok (.iload_n 3, 1) := by decide +kernel
theorem dX2_sum_21 : decode cX2_sum 21 = .ok (.iaload, 1) := by decide +kernel
theorem dX2_sum_22 : decode cX2_sum 22 = .ok (.iconst 2, 1) := by decide +kernel
theorem dX2_sum_23 : decode cX2_sum 23 = .ok (.if_icmp .ne 9, 3) := by decide +kernel
theorem dX2_sum_26 : decode cX2_sum 26 = .ok (.iload_n 2, 1) := by decide +kernel
theorem dX2_sum_27 : decode cX2_sum 27 = .ok (.iconst 1, 1) := by decide +kernel
theorem dX2_sum_28 : decode cX2_sum 28 = .ok (.iadd, 1) := by decide +kernel
theorem dX2_sum_29 : decode cX2_sum 29 = .ok (.goto 4, 3) := by decide +kernel
theorem dX2_sum_32 : decode cX2_sum 32 = .ok (.iload_n 2, 1) := by decide +kernel
theorem dX2_sum_33 : decode cX2_sum 33 = .ok (.istore_n 2, 1) := by decide +kernel
theorem dX2_sum_34 : decode cX2_sum 34 = .ok (.aload_n 0, 1) := by decide +kernel
theorem dX2_sum_35 : decode cX2_sum 35 = .ok (.getfield 13, 3) := by decide +kernel
theorem dX2_sum_38 : decode cX2_sum 38 = .ok (.iload_n 3, 1) := by decide +kernel
theorem dX2_sum_39 : decode cX2_sum 39 = .ok (.iaload, 1) := by decide +kernel
theorem dX2_sum_40 : decode cX2_sum 40 = .ok (.iconst 1, 1) := by decide +kernel
theorem dX2_sum_41 : decode cX2_sum 41 = .ok (.if_icmp .ne 14, 3) := by decide +kernel
theorem dX2_sum_44 : decode cX2_sum 44 = .ok (.aload_n 0, 1) := by decide +kernel
theorem dX2_sum_45 : decode cX2_sum 45 = .ok (.getfield 54, 3) := by decide +kernel
theorem dX2_sum_48 : decode cX2_sum 48 = .ok (.ifCond .eq 7, 3) := by decide +kernel
theorem dX2_sum_51 : decode cX2_sum 51 = .ok (.iconst 1, 1) := by decide +kernel
theorem dX2_sum_52 : decode cX2_sum 52 = .ok (.goto 4, 3) := by decide +kernel
theorem dX2_sum_55 : decode cX2_sum 55 = .ok (.iconst 0, 1) := by decide +kernel
theorem dX2_sum_56 : decode cX2_sum 56 = .ok (.istore 4, 2) := by decide +kernel
theorem dX2_sum_58 : decode cX2_sum 58 = .ok (.iconst 0, 1) := by decide +kernel
theorem dX2_sum_59 : decode cX2_sum 59 = .ok (.istore 5, 2) := by decide +kernel
theorem dX2_sum_61 : decode cX2_sum 61 = .ok (.iload 5, 2) := by decide +kernel
theorem dX2_sum_63 : decode cX2_sum 63 = .ok (.bipush 64, 2) := by decide +kernel
theorem dX2_sum_65 : decode cX2_sum 65 = .ok (.if_icmp .ge 42, 3) := by decide +kernel
theorem dX2_sum_68 : decode cX2_sum 68 = .ok (.iload_n 1, 1) := by decide +kernel
theorem dX2_sum_69 : decode cX2_sum 69 = .ok (.iconst 2, 1) := by decide +kernel
theorem dX2_sum_70 : decode cX2_sum 70 = .ok (.if_icmp .ne 37, 3) := by decide +kernel
theorem dX2_sum_73 : decode cX2_sum 73 = .ok (.iload 4, 2) := by decide +kernel
theorem dX2_sum_75 : decode cX2_sum 75 = .ok (.ifCond .eq 32, 3) := by decide +kernel
theorem dX2_sum_78 : decode cX2_sum 78 = .ok (.aload_n 0, 1) := by decide +kernel
theorem dX2_sum_79 : decode cX2_sum 79 = .ok (.getfield 29, 3) := by decide +kernel
theorem dX2_sum_82 : decode cX2_sum 82 = .ok (.bipush 64, 2) := by decide +kernel
theorem dX2_sum_84 : decode cX2_sum 84 = .ok (.iload_n 3, 1) := by decide +kernel
theorem dX2_sum_85 : decode cX2_sum 85 = .ok (.imul, 1) := by decide +kernel
theorem dX2_sum_86 : decode cX2_sum 86 = .ok (.iload 5, 2) := by decide +kernel
theorem dX2_sum_88 : decode cX2_sum 88 = .ok (.iadd, 1) := by decide +kernel
theorem dX2_sum_89 : decode cX2_sum 89 = .ok (.iaload, 1) := by decide +kernel
theorem dX2_sum_90 : decode cX2_sum 90 = .ok (.ifCond .le 9, 3) := by decide +kernel
theorem dX2_sum_93 : decode cX2_sum 93 = .ok (.iload_n 2, 1) := by decide +kernel
theorem dX2_sum_94 : decode cX2_sum 94 = .ok (.iconst 1, 1) := by decide +kernel
theorem dX2_sum_95 : decode cX2_sum 95 = .ok (.iadd, 1) := by decide +kernel
theorem dX2_sum_96 : decode cX2_sum 96 = .ok (.goto 4, 3) := by decide +kernel
theorem dX2_sum_99 : decode cX2_sum 99 = .ok (.iload_n 2, 1) := by decide +kernel
theorem dX2_sum_100 : decode cX2_sum 100 = .ok (.istore_n 2, 1) := by decide +kernel
theorem dX2_sum_101 : decode cX2_sum 101 = .ok (.iinc 5 1, 3) := by decide +kernel
theorem dX2_sum_104 : decode cX2_sum 104 = .ok (.goto (-43), 3) := by decide +kernel
theorem dX2_sum_107 : decode cX2_sum 107 = .ok (.iconst 0, 1) := by decide +kernel
theorem dX2_sum_108 : decode cX2_sum 108 = .ok (.istore 5, 2) := by decide +kernel
theorem dX2_sum_110 : decode cX2_sum 110 = .ok (.iload 5, 2) := by decide +kernel
theorem dX2_sum_112 : decode cX2_sum 112 = .ok (.bipush 8, 2) := by decide +kernel
theorem dX2_sum_114 : decode cX2_sum 114 = .ok (.if_icmp .ge 72, 3) := by decide +kernel
theorem dX2_sum_117 : decode cX2_sum 117 = .ok (.iload_n 1, 1) := by decide +kernel
theorem dX2_sum_118 : decode cX2_sum 118 = .ok (.iconst 3, 1) := by decide +kernel
theorem dX2_sum_119 : decode cX2_sum 119 = .ok (.if_icmp .ne 67, 3) := by decide +kernel
theorem dX2_sum_122 : decode cX2_sum 122 = .ok (.iload 4, 2) := by decide +kernel
theorem dX2_sum_124 : decode cX2_sum 124 = .ok (.ifCond .eq 62, 3) := by decide +kernel
theorem dX2_sum_127 : decode cX2_sum 127 = .ok (.aload_n 0, 1) := by decide +kernel
theorem dX2_sum_128 : decode cX2_sum 128 = .ok (.getfield 23, 3) := by decide +kernel
theorem dX2_sum_131 : decode cX2_sum 131 = .ok (.bipush 8, 2) := by decide +kernel
theorem dX2_sum_133 : decode cX2_sum 133 = .ok (.iload_n 3, 1) := by decide +kernel
theorem dX2_sum_134 : decode cX2_sum 134 = .ok (.imul, 1) := by decide +kernel
theorem dX2_sum_135 : decode cX2_sum 135 = .ok (.iload 5, 2) := by decide +kernel
theorem dX2_sum_137 : decode cX2_sum 137 = .ok (.iadd, 1) := by decide +kernel
theorem dX2_sum_138 : decode cX2_sum 138 = .ok (.iaload, 1) := by decide +kernel
theorem dX2_sum_139 : decode cX2_sum 139 = .ok (.iconst (-1), 1) := by decide +kernel
theorem dX2_sum_140 : decode cX2_sum 140 = .ok (.if_icmp .eq 38, 3) := by decide +kernel
theorem dX2_sum_143 : decode cX2_sum 143 = .ok (.aload_n 0, 1) := by decide +kernel
theorem dX2_sum_144 : decode cX2_sum 144 = .ok (.getfield 23, 3) := by decide +kernel
theorem dX2_sum_147 : decode cX2_sum 147 = .ok (.bipush 8, 2) := by decide +kernel
theorem dX2_sum_149 : decode cX2_sum 149 = .ok (.iload_n 3, 1) := by decide +kernel
theorem dX2_sum_150 : decode cX2_sum 150 = .ok (.imul, 1) := by decide +kernel
theorem dX2_sum_151 : decode cX2_sum 151 = .ok (.iload 5, 2) := by decide +kernel
theorem dX2_sum_153 : decode cX2_sum 153 = .ok (.iadd, 1) := by decide +kernel
theorem dX2_sum_154 : decode cX2_sum 154 = .ok (.iaload, 1) := by decide +kernel
theorem dX2_sum_155 : decode cX2_sum 155 = .ok (.aload_n 0, 1) := by decide +kernel
theorem dX2_sum_156 : decode cX2_sum 156 = .ok (.iload_n 3, 1) := by decide +kernel
theorem dX2_sum_157 : decode cX2_sum 157 = .ok (.iconst 1, 1) := by decide +kernel
theorem dX2_sum_158 : decode cX2_sum 158 = .ok (.iload 5, 2) := by decide +kernel
theorem dX2_sum_160 : decode cX2_sum 160 = .ok (.ishl, 1) := by decide +kernel
theorem dX2_sum_161 : decode cX2_sum 161 = .ok (.iadd, 1) := by decide +kernel
theorem dX2_sum_162 : decode cX2_sum 162 = .ok (.sipush 256, 3) := by decide +kernel
theorem dX2_sum_165 : decode cX2_sum 165 = .ok (.irem, 1) := by decide +kernel
theorem dX2_sum_166 : decode cX2_sum 166 = .ok (.invokevirtual 77, 3) := by decide +kernel
theorem dX2_sum_169 : decode cX2_sum 169 = .ok (.if_icmp .ne 9, 3) := by decide +kernel
theorem dX2_sum_172 : decode cX2_sum 172 = .ok (.iload_n 2, 1) := by decide +kernel
theorem dX2_sum_173 : decode cX2_sum 173 = .ok (.iconst 1, 1) := by decide +kernel
theorem dX2_sum_174 : decode cX2_sum 174 = .ok (.iadd, 1) := by decide +kernel
theorem dX2_sum_175 : decode cX2_sum 175 = .ok (.goto 4, 3) := by decide +kernel
theorem dX2_sum_178 : decode cX2_sum 178 = .ok (.iload_n 2, 1) := by decide +kernel
theorem dX2_sum_179 : decode cX2_sum 179 = .ok (.istore_n 2, 1) := by decide +kernel
theorem dX2_sum_180 : decode cX2_sum 180 = .ok (.iinc 5 1, 3) := by decide +kernel
theorem dX2_sum_183 : decode cX2_sum 183 = .ok (.goto (-73), 3) := by decide +kernel
theorem dX2_sum_186 : decode cX2_sum 186 = .ok (.iload_n 1, 1) := by decide +kernel
theorem dX2_sum_187 : decode cX2_sum 187 = .ok (.iconst 4, 1) := by decide +kernel
theorem dX2_sum_188 : decode cX2_sum 188 = .ok (.if_icmp .ne 33, 3) := by decide +kernel
theorem dX2_sum_191 : decode cX2_sum 191 = .ok (.iload 4, 2) := by decide +kernel
theorem dX2_sum_193 : decode cX2_sum 193 = .ok (.ifCond .eq 28, 3) := by decide +kernel
theorem dX2_sum_196 : decode cX2_sum 196 = .ok (.aload_n 0, 1) := by decide +kernel
theorem dX2_sum_197 : decode cX2_sum 197 = .ok (.iload_n 3, 1) := by decide +kernel
theorem dX2_sum_198 : decode cX2_sum 198 = .ok (.invokevirtual 91, 3) := by decide +kernel
theorem dX2_sum_201 : decode cX2_sum 201 = .ok (.aload_n 0, 1) := by decide +kernel
theorem dX2_sum_202 : decode cX2_sum 202 = .ok (.iload_n 3, 1) := by decide +kernel
theorem dX2_sum_203 : decode cX2_sum 203 = .ok (.iconst 1, 1) := by decide +kernel
theorem dX2_sum_204 : decode cX2_sum 204 = .ok (.iadd, 1) := by decide +kernel
theorem dX2_sum_205 : decode cX2_sum 205 = .ok (.sipush 256, 3) := by decide +kernel
theorem dX2_sum_208 : decode cX2_sum 208 = .ok (.irem, 1) := by decide +kernel
theorem dX2_sum_209 : decode cX2_sum 209 = .ok (.invokevirtual 77, 3) := by decide +kernel
theorem dX2_sum_212 : decode cX2_sum 212 = .ok (.if_icmp .ne 9, 3) := by decide +kernel
theorem dX2_sum_215 : decode cX2_sum 215 = .ok (.iload_n 2, 1) := by decide +kernel
theorem dX2_sum_216 : decode cX2_sum 216 = .ok (.iconst 1, 1) := by decide +kernel
theorem dX2_sum_217 : decode cX2_sum 217 = .ok (.iadd, 1) := by decide +kernel
theorem dX2_sum_218 : decode cX2_sum 218 = .ok (.goto 4, 3) := by decide +kernel
theorem dX2_sum_221 : decode cX2_sum 221 = .ok (.iload_n 2, 1) := by decide +kernel
theorem dX2_sum_222 : decode cX2_sum 222 = .ok (.istore_n 2, 1) := by decide +kernel
theorem dX2_sum_223 : decode cX2_sum 223 = .ok (.iinc 3 1, 3) := by decide +kernel
theorem dX2_sum_226 : decode cX2_sum 226 = .ok (.goto (-222), 3) := by decide +kernel
theorem dX2_sum_229 : decode cX2_sum 229 = .ok (.iload_n 2, 1) := by decide +kernel
theorem dX2_sum_230 : decode cX2_sum 230 = .ok (.ireturn, 1) := by decide +kernel
theorem dX2_count_0 : decode cX2_count 0 = .ok (.aload_n 0, 1) := by decide +kernel
theorem dX2_count_1 : decode cX2_count 1 = .ok (.iload_n 1, 1) := by decide +kernel
theorem dX2_count_2 : decode cX2_count 2 = .ok (.ifCond .lt 13, 3) := by decide +kernel
theorem dX2_count_5 : decode cX2_count 5 = .ok (.iload_n 1, 1) := by decide +kernel
theorem dX2_count_6 : decode cX2_count 6 = .ok (.bipush 7, 2) := by decide +kernel
theorem dX2_count_8 : decode cX2_count 8 = .ok (.if_icmp .gt 7, 3) := by decide +kernel
theorem dX2_count_11 : decode cX2_count 11 = .ok (.iconst 1, 1) := by decide +kernel
theorem dX2_count_12 : decode cX2_count 12 = .ok (.goto 4, 3) := by decide +kernel
theorem dX2_count_15 : decode cX2_count 15 = .ok (.iconst 0, 1) := by decide +kernel
theorem dX2_count_16 : decode cX2_count 16 = .ok (.iconst 1, 1) := by decide +kernel
theorem dX2_count_17 : decode cX2_count 17 = .ok (.iconst 1, 1) := by decide +kernel
theorem dX2_count_18 : decode cX2_count 18 = .ok (.invokevirtual 69, 3) := by decide +kernel
theorem dX2_count_21 : decode cX2_count 21 = .ok (.ifCond .ne 5, 3) := by decide +kernel
theorem dX2_count_24 : decode cX2_count 24 = .ok (.iconst 0, 1) := by decide +kernel
theorem dX2_count_25 : decode cX2_count 25 = .ok (.ireturn, 1) := by decide +kernel
theorem dX2_count_26 : decode cX2_count 26 = .ok (.iload_n 1, 1) := by decide +kernel
theorem dX2_count_27 : decode cX2_count 27 = .ok (.tableswitch 73 0 7 #[45, 73, 73, 73, 73, 50, 63, 68], 45) := by decide +kernel
theorem dX2_count_72 : decode cX2_count 72 = .ok (.aload_n 0, 1) := by decide +kernel
theorem dX2_count_73 : decode cX2_count 73 = .ok (.invokevirtual 65, 3) := by decide +kernel
theorem dX2_count_76 : decode cX2_count 76 = .ok (.ireturn, 1) := by decide +kernel
theorem dX2_count_77 : decode cX2_count 77 = .ok (.aload_n 0, 1) := by decide +kernel
theorem dX2_count_78 : decode cX2_count 78 = .ok (.getfield 54, 3) := by decide +kernel
theorem dX2_count_81 : decode cX2_count 81 = .ok (.ifCond .eq 7, 3) := by decide +kernel
theorem dX2_count_84 : decode cX2_count 84 = .ok (.iconst 1, 1) := by decide +kernel
theorem dX2_count_85 : decode cX2_count 85 = .ok (.goto 4, 3) := by decide +kernel
theorem dX2_count_88 : decode cX2_count 88 = .ok (.iconst 0, 1) := by decide +kernel
theorem dX2_count_89 : decode cX2_count 89 = .ok (.ireturn, 1) := by decide +kernel
theorem dX2_count_90 : decode cX2_count 90 = .ok (.aload_n 0, 1) := by decide +kernel
theorem dX2_count_91 : decode cX2_count 91 = .ok (.getfield 142, 3) := by decide +kernel
theorem dX2_count_94 : decode cX2_count 94 = .ok (.ireturn, 1) := by decide +kernel
theorem dX2_count_95 : decode cX2_count 95 = .ok (.aload_n 0, 1) := by decide +kernel
theorem dX2_count_96 : decode cX2_count 96 = .ok (.getfield 98, 3) := by decide +kernel
theorem dX2_count_99 : decode cX2_count 99 = .ok (.ireturn, 1) := by decide +kernel
theorem dX2_count_100 : decode cX2_count 100 = .ok (.aload_n 0, 1) := by decide +kernel
theorem dX2_count_101 : decode cX2_count 101 = .ok (.iload_n 1, 1) := by decide +kernel
theorem dX2_count_102 : decode cX2_count 102 = .ok (.invokevirtual 148, 3) := by decide +kernel
theorem dX2_count_105 : decode cX2_count 105 = .ok (.ireturn, 1) := by decide +kernel
