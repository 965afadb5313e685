theorem dX0_init_0 : decode cX0_init 0 = .ok (.aload_n 0, 1) := by decide +kernel
theorem dX0_init_1 : decode cX0_init 1 = .ok (.invokespecial 1, 3) := by decide +kernel
theorem dX0_init_4 : decode cX0_init 4 = .ok (.return_, 1) := by decide +kernel
theorem dX0_findsNone_0 : decode cX0_findsNone 0 = .ok (.iconst 0, 1) := by decide +kernel
theorem dX0_findsNone_1 : decode cX0_findsNone 1 = .ok (.istore 4, 2) := by decide +kernel
theorem dX0_findsNone_3 : decode cX0_findsNone 3 = .ok (.iload 4, 2) := by decide +kernel
theorem dX0_findsNone_5 : decode cX0_findsNone 5 = .ok (.aload_n 1, 1) := by decide +kernel
theorem dX0_findsNone_6 : decode cX0_findsNone 6 = .ok (.getfield 7, 3) := by decide +kernel
theorem dX0_findsNone_9 : decode cX0_findsNone 9 = .ok (.if_icmp .ge 78, 3) := by decide +kernel
theorem dX0_findsNone_12 : decode cX0_findsNone 12 = .ok (.iconst 0, 1) := by decide +kernel
theorem dX0_findsNone_13 : decode cX0_findsNone 13 = .ok (.istore 5, 2) := by decide +kernel
theorem dX0_findsNone_15 : decode cX0_findsNone 15 = .ok (.iload 5, 2) := by decide +kernel
theorem dX0_findsNone_17 : decode cX0_findsNone 17 = .ok (.aload_n 1, 1) := by decide +kernel
theorem dX0_findsNone_18 : decode cX0_findsNone 18 = .ok (.getfield 13, 3) := by decide +kernel
theorem dX0_findsNone_21 : decode cX0_findsNone 21 = .ok (.if_icmp .ge 60, 3) := by decide +kernel
theorem dX0_findsNone_24 : decode cX0_findsNone 24 = .ok (.aload_n 0, 1) := by decide +kernel
theorem dX0_findsNone_25 : decode cX0_findsNone 25 = .ok (.aload_n 1, 1) := by decide +kernel
theorem dX0_findsNone_26 : decode cX0_findsNone 26 = .ok (.iload 5, 2) := by decide +kernel
theorem dX0_findsNone_28 : decode cX0_findsNone 28 = .ok (.iload 4, 2) := by decide +kernel
theorem dX0_findsNone_30 : decode cX0_findsNone 30 = .ok (.i2l, 1) := by decide +kernel
theorem dX0_findsNone_31 : decode cX0_findsNone 31 = .ok (.invokevirtual 16, 3) := by decide +kernel
theorem dX0_findsNone_34 : decode cX0_findsNone 34 = .ok (.ifCond .eq 16, 3) := by decide +kernel
theorem dX0_findsNone_37 : decode cX0_findsNone 37 = .ok (.aload_n 1, 1) := by decide +kernel
theorem dX0_findsNone_38 : decode cX0_findsNone 38 = .ok (.aload_n 2, 1) := by decide +kernel
theorem dX0_findsNone_39 : decode cX0_findsNone 39 = .ok (.iload_n 3, 1) := by decide +kernel
theorem dX0_findsNone_40 : decode cX0_findsNone 40 = .ok (.iload 5, 2) := by decide +kernel
theorem dX0_findsNone_42 : decode cX0_findsNone 42 = .ok (.iload 4, 2) := by decide +kernel
theorem dX0_findsNone_44 : decode cX0_findsNone 44 = .ok (.invokestatic 20, 3) := by decide +kernel
theorem dX0_findsNone_47 : decode cX0_findsNone 47 = .ok (.goto 4, 3) := by decide +kernel
theorem dX0_findsNone_50 : decode cX0_findsNone 50 = .ok (.iconst 0, 1) := by decide +kernel
theorem dX0_findsNone_51 : decode cX0_findsNone 51 = .ok (.putfield 26, 3) := by decide +kernel
theorem dX0_findsNone_54 : decode cX0_findsNone 54 = .ok (.aload_n 0, 1) := by decide +kernel
theorem dX0_findsNone_55 : decode cX0_findsNone 55 = .ok (.iload 5, 2) := by decide +kernel
theorem dX0_findsNone_57 : decode cX0_findsNone 57 = .ok (.putfield 29, 3) := by decide +kernel
theorem dX0_findsNone_60 : decode cX0_findsNone 60 = .ok (.aload_n 0, 1) := by decide +kernel
theorem dX0_findsNone_61 : decode cX0_findsNone 61 = .ok (.iload 4, 2) := by decide +kernel
theorem dX0_findsNone_63 : decode cX0_findsNone 63 = .ok (.putfield 32, 3) := by decide +kernel
theorem dX0_findsNone_66 : decode cX0_findsNone 66 = .ok (.aload_n 0, 1) := by decide +kernel
theorem dX0_findsNone_67 : decode cX0_findsNone 67 = .ok (.getfield 26, 3) := by decide +kernel
theorem dX0_findsNone_70 : decode cX0_findsNone 70 = .ok (.ifCond .eq 5, 3) := by decide +kernel
theorem dX0_findsNone_73 : decode cX0_findsNone 73 = .ok (.iconst 0, 1) := by decide +kernel
theorem dX0_findsNone_74 : decode cX0_findsNone 74 = .ok (.ireturn, 1) := by decide +kernel
theorem dX0_findsNone_75 : decode cX0_findsNone 75 = .ok (.iinc 5 1, 3) := by decide +kernel
theorem dX0_findsNone_78 : decode cX0_findsNone 78 = .ok (.goto (-63), 3) := by decide +kernel
theorem dX0_findsNone_81 : decode cX0_findsNone 81 = .ok (.iinc 4 1, 3) := by decide +kernel
theorem dX0_findsNone_84 : decode cX0_findsNone 84 = .ok (.goto (-81), 3) := by decide +kernel
theorem dX0_findsNone_87 : decode cX0_findsNone 87 = .ok (.iconst 1, 1) := by decide +kernel
theorem dX0_findsNone_88 : decode cX0_findsNone 88 = .ok (.ireturn, 1) := by decide +kernel
theorem dX0_troubleOf_0 : decode cX0_troubleOf 0 = .ok (.aload_n 1, 1) := by decide +kernel
theorem dX0_troubleOf_1 : decode cX0_troubleOf 1 = .ok (.getfield 35, 3) := by decide +kernel
theorem dX0_troubleOf_4 : decode cX0_troubleOf 4 = .ok (.iload_n 3, 1) := by decide +kernel
theorem dX0_troubleOf_5 : decode cX0_troubleOf 5 = .ok (.aaload, 1) := by decide +kernel
theorem dX0_troubleOf_6 : decode cX0_troubleOf 6 = .ok (.iload 4, 2) := by decide +kernel
theorem dX0_troubleOf_8 : decode cX0_troubleOf 8 = .ok (.iaload, 1) := by decide +kernel
theorem dX0_troubleOf_9 : decode cX0_troubleOf 9 = .ok (.istore 5, 2) := by decide +kernel
theorem dX0_troubleOf_11 : decode cX0_troubleOf 11 = .ok (.aload_n 0, 1) := by decide +kernel
theorem dX0_troubleOf_12 : decode cX0_troubleOf 12 = .ok (.iload 5, 2) := by decide +kernel
theorem dX0_troubleOf_14 : decode cX0_troubleOf 14 = .ok (.invokevirtual 41, 3) := by decide +kernel
theorem dX0_troubleOf_17 : decode cX0_troubleOf 17 = .ok (.ifCond .ne 5, 3) := by decide +kernel
theorem dX0_troubleOf_20 : decode cX0_troubleOf 20 = .ok (.iconst 1, 1) := by decide +kernel
theorem dX0_troubleOf_21 : decode cX0_troubleOf 21 = .ok (.ireturn, 1) := by decide +kernel
theorem dX0_troubleOf_22 : decode cX0_troubleOf 22 = .ok (.aload_n 0, 1) := by decide +kernel
theorem dX0_troubleOf_23 : decode cX0_troubleOf 23 = .ok (.iload 4, 2) := by decide +kernel
theorem dX0_troubleOf_25 : decode cX0_troubleOf 25 = .ok (.iload 5, 2) := by decide +kernel
theorem dX0_troubleOf_27 : decode cX0_troubleOf 27 = .ok (.invokevirtual 45, 3) := by decide +kernel
theorem dX0_troubleOf_30 : decode cX0_troubleOf 30 = .ok (.ifCond .ne 5, 3) := by decide +kernel
theorem dX0_troubleOf_33 : decode cX0_troubleOf 33 = .ok (.iconst 2, 1) := by decide +kernel
theorem dX0_troubleOf_34 : decode cX0_troubleOf 34 = .ok (.ireturn, 1) := by decide +kernel
theorem dX0_troubleOf_35 : decode cX0_troubleOf 35 = .ok (.iconst 0, 1) := by decide +kernel
theorem dX0_troubleOf_36 : decode cX0_troubleOf 36 = .ok (.istore 6, 2) := by decide +kernel
theorem dX0_troubleOf_38 : decode cX0_troubleOf 38 = .ok (.iload 6, 2) := by decide +kernel
theorem dX0_troubleOf_40 : decode cX0_troubleOf 40 = .ok (.iload_n 3, 1) := by decide +kernel
theorem dX0_troubleOf_41 : decode cX0_troubleOf 41 = .ok (.if_icmp .ge 43, 3) := by decide +kernel
theorem dX0_troubleOf_44 : decode cX0_troubleOf 44 = .ok (.aload_n 0, 1) := by decide +kernel
theorem dX0_troubleOf_45 : decode cX0_troubleOf 45 = .ok (.iload 6, 2) := by decide +kernel
theorem dX0_troubleOf_47 : decode cX0_troubleOf 47 = .ok (.iload 4, 2) := by decide +kernel
theorem dX0_troubleOf_49 : decode cX0_troubleOf 49 = .ok (.i2l, 1) := by decide +kernel
theorem dX0_troubleOf_50 : decode cX0_troubleOf 50 = .ok (.invokevirtual 16, 3) := by decide +kernel
theorem dX0_troubleOf_53 : decode cX0_troubleOf 53 = .ok (.ifCond .eq 25, 3) := by decide +kernel
theorem dX0_troubleOf_56 : decode cX0_troubleOf 56 = .ok (.iload 5, 2) := by decide +kernel
theorem dX0_troubleOf_58 : decode cX0_troubleOf 58 = .ok (.aload_n 1, 1) := by decide +kernel
theorem dX0_troubleOf_59 : decode cX0_troubleOf 59 = .ok (.getfield 35, 3) := by decide +kernel
theorem dX0_troubleOf_62 : decode cX0_troubleOf 62 = .ok (.iload 6, 2) := by decide +kernel
theorem dX0_troubleOf_64 : decode cX0_troubleOf 64 = .ok (.aaload, 1) := by decide +kernel
theorem dX0_troubleOf_65 : decode cX0_troubleOf 65 = .ok (.iload 4, 2) := by decide +kernel
theorem dX0_troubleOf_67 : decode cX0_troubleOf 67 = .ok (.iaload, 1) := by decide +kernel
theorem dX0_troubleOf_68 : decode cX0_troubleOf 68 = .ok (.isub, 1) := by decide +kernel
theorem dX0_troubleOf_69 : decode cX0_troubleOf 69 = .ok (.invokestatic 49, 3) := by decide +kernel
theorem dX0_troubleOf_72 : decode cX0_troubleOf 72 = .ok (.iload_n 2, 1) := by decide +kernel
theorem dX0_troubleOf_73 : decode cX0_troubleOf 73 = .ok (.if_icmp .gt 5, 3) := by decide +kernel
theorem dX0_troubleOf_76 : decode cX0_troubleOf 76 = .ok (.iconst 3, 1) := by decide +kernel
theorem dX0_troubleOf_77 : decode cX0_troubleOf 77 = .ok (.ireturn, 1) := by decide +kernel
theorem dX0_troubleOf_78 : decode cX0_troubleOf 78 = .ok (.iinc 6 1, 3) := by decide +kernel
theorem dX0_troubleOf_81 : decode cX0_troubleOf 81 = .ok (.goto (-43), 3) := by decide +kernel
theorem dX0_troubleOf_84 : decode cX0_troubleOf 84 = .ok (.iconst 0, 1) := by decide +kernel
theorem dX0_troubleOf_85 : decode cX0_troubleOf 85 = .ok (.istore 6, 2) := by decide +kernel
theorem dX0_troubleOf_87 : decode cX0_troubleOf 87 = .ok (.iload 6, 2) := by decide +kernel
theorem dX0_troubleOf_89 : decode cX0_troubleOf 89 = .ok (.iload_n 3, 1) := by decide +kernel
theorem dX0_troubleOf_90 : decode cX0_troubleOf 90 = .ok (.if_icmp .ge 24, 3) := by decide +kernel
theorem dX0_troubleOf_93 : decode cX0_troubleOf 93 = .ok (.aload_n 0, 1) := by decide +kernel
theorem dX0_troubleOf_94 : decode cX0_troubleOf 94 = .ok (.aload_n 1, 1) := by decide +kernel
theorem dX0_troubleOf_95 : decode cX0_troubleOf 95 = .ok (.iload_n 3, 1) := by decide +kernel
theorem dX0_troubleOf_96 : decode cX0_troubleOf 96 = .ok (.iload 6, 2) := by decide +kernel
theorem dX0_troubleOf_98 : decode cX0_troubleOf 98 = .ok (.iload 4, 2) := by decide +kernel
theorem dX0_troubleOf_100 : decode cX0_troubleOf 100 = .ok (.invokestatic 55, 3) := by decide +kernel
theorem dX0_troubleOf_103 : decode cX0_troubleOf 103 = .ok (.ifCond .eq 5, 3) := by decide +kernel
theorem dX0_troubleOf_106 : decode cX0_troubleOf 106 = .ok (.iconst 4, 1) := by decide +kernel
theorem dX0_troubleOf_107 : decode cX0_troubleOf 107 = .ok (.ireturn, 1) := by decide +kernel
theorem dX0_troubleOf_108 : decode cX0_troubleOf 108 = .ok (.iinc 6 1, 3) := by decide +kernel
theorem dX0_troubleOf_111 : decode cX0_troubleOf 111 = .ok (.goto (-24), 3) := by decide +kernel
theorem dX0_troubleOf_114 : decode cX0_troubleOf 114 = .ok (.iconst 0, 1) := by decide +kernel
theorem dX0_troubleOf_115 : decode cX0_troubleOf 115 = .ok (.ireturn, 1) := by decide +kernel
theorem dX0_crosses_0 : decode cX0_crosses 0 = .ok (.iload 4, 2) := by decide +kernel
theorem dX0_crosses_2 : decode cX0_crosses 2 = .ok (.aload_n 0, 1) := by decide +kernel
theorem dX0_crosses_3 : decode cX0_crosses 3 = .ok (.getfield 59, 3) := by decide +kernel
theorem dX0_crosses_6 : decode cX0_crosses 6 = .ok (.iload_n 2, 1) := by decide +kernel
theorem dX0_crosses_7 : decode cX0_crosses 7 = .ok (.iaload, 1) := by decide +kernel
theorem dX0_crosses_8 : decode cX0_crosses 8 = .ok (.if_icmp .le 14, 3) := by decide +kernel
theorem dX0_crosses_11 : decode cX0_crosses 11 = .ok (.iload 4, 2) := by decide +kernel
theorem dX0_crosses_13 : decode cX0_crosses 13 = .ok (.aload_n 0, 1) := by decide +kernel
theorem dX0_crosses_14 : decode cX0_crosses 14 = .ok (.getfield 59, 3) := by decide +kernel
theorem dX0_crosses_17 : decode cX0_crosses 17 = .ok (.iload_n 3, 1) := by decide +kernel
theorem dX0_crosses_18 : decode cX0_crosses 18 = .ok (.iaload, 1) := by decide +kernel
theorem dX0_crosses_19 : decode cX0_crosses 19 = .ok (.if_icmp .gt 5, 3) := by decide +kernel
theorem dX0_crosses_22 : decode cX0_crosses 22 = .ok (.iconst 0, 1) := by decide +kernel
theorem dX0_crosses_23 : decode cX0_crosses 23 = .ok (.ireturn, 1) := by decide +kernel
theorem dX0_crosses_24 : decode cX0_crosses 24 = .ok (.aload_n 1, 1) := by decide +kernel
theorem dX0_crosses_25 : decode cX0_crosses 25 = .ok (.getfield 35, 3) := by decide +kernel
theorem dX0_crosses_28 : decode cX0_crosses 28 = .ok (.iload_n 2, 1) := by decide +kernel
theorem dX0_crosses_29 : decode cX0_crosses 29 = .ok (.aaload, 1) := by decide +kernel
theorem dX0_crosses_30 : decode cX0_crosses 30 = .ok (.astore 5, 2) := by decide +kernel
theorem dX0_crosses_32 : decode cX0_crosses 32 = .ok (.aload_n 1, 1) := by decide +kernel
theorem dX0_crosses_33 : decode cX0_crosses 33 = .ok (.getfield 35, 3) := by decide +kernel
theorem dX0_crosses_36 : decode cX0_crosses 36 = .ok (.iload_n 3, 1) := by decide +kernel
theorem dX0_crosses_37 : decode cX0_crosses 37 = .ok (.aaload, 1) := by decide +kernel
theorem dX0_crosses_38 : decode cX0_crosses 38 = .ok (.astore 6, 2) := by decide +kernel
theorem dX0_crosses_40 : decode cX0_crosses 40 = .ok (.aload 5, 2) := by decide +kernel
theorem dX0_crosses_42 : decode cX0_crosses 42 = .ok (.iload 4, 2) := by decide +kernel
theorem dX0_crosses_44 : decode cX0_crosses 44 = .ok (.iconst 1, 1) := by decide +kernel
theorem dX0_crosses_45 : decode cX0_crosses 45 = .ok (.isub, 1) := by decide +kernel
theorem dX0_crosses_46 : decode cX0_crosses 46 = .ok (.iaload, 1) := by decide +kernel
theorem dX0_crosses_47 : decode cX0_crosses 47 = .ok (.aload 6, 2) := by decide +kernel
theorem dX0_crosses_49 : decode cX0_crosses 49 = .ok (.iload 4, 2) := by decide +kernel
theorem dX0_crosses_51 : decode cX0_crosses 51 = .ok (.iconst 1, 1) := by decide +kernel
theorem dX0_crosses_52 : decode cX0_crosses 52 = .ok (.isub, 1) := by decide +kernel
theorem dX0_crosses_53 : decode cX0_crosses 53 = .ok (.iaload, 1) := by decide +kernel
theorem dX0_crosses_54 : decode cX0_crosses 54 = .ok (.if_icmp .ge 7, 3) := by decide +kernel
theorem dX0_crosses_57 : decode cX0_crosses 57 = .ok (.iconst 1, 1) := by decide +kernel
theorem dX0_crosses_58 : decode cX0_crosses 58 = .ok (.goto 4, 3) := by decide +kernel
theorem dX0_crosses_61 : decode cX0_crosses 61 = .ok (.iconst 0, 1) := by decide +kernel
theorem dX0_crosses_62 : decode cX0_crosses 62 = .ok (.aload 5, 2) := by decide +kernel
theorem dX0_crosses_64 : decode cX0_crosses 64 = .ok (.iload 4, 2) := by decide +kernel
theorem dX0_crosses_66 : decode cX0_crosses 66 = .ok (.iaload, 1) := by decide +kernel
theorem dX0_crosses_67 : decode cX0_crosses 67 = .ok (.aload 6, 2) := by decide +kernel
theorem dX0_crosses_69 : decode cX0_crosses 69 = .ok (.iload 4, 2) := by decide +kernel
theorem dX0_crosses_71 : decode cX0_crosses 71 = .ok (.iaload, 1) := by decide +kernel
theorem dX0_crosses_72 : decode cX0_crosses 72 = .ok (.if_icmp .ge 7, 3) := by decide +kernel
theorem dX0_crosses_75 : decode cX0_crosses 75 = .ok (.iconst 1, 1) := by decide +kernel
theorem dX0_crosses_76 : decode cX0_crosses 76 = .ok (.goto 4, 3) := by decide +kernel
theorem dX0_crosses_79 : decode cX0_crosses 79 = .ok (.iconst 0, 1) := by decide +kernel
theorem dX0_crosses_80 : decode cX0_crosses 80 = .ok (.if_icmp .eq 7, 3) := by decide +kernel
theorem dX0_crosses_83 : decode cX0_crosses 83 = .ok (.iconst 1, 1) := by decide +kernel
theorem dX0_crosses_84 : decode cX0_crosses 84 = .ok (.goto 4, 3) := by decide +kernel
theorem dX0_crosses_87 : decode cX0_crosses 87 = .ok (.iconst 0, 1) := by decide +kernel
theorem dX0_crosses_88 : decode cX0_crosses 88 = .ok (.ireturn, 1) := by decide +kernel
theorem dX1_init_0 : decode cX1_init 0 = .ok (.aload_n 0, 1) := by decide +kernel
theorem dX1_init_1 : decode cX1_init 1 = .ok (.invokespecial 3, 3) := by decide +kernel
theorem dX1_init_4 : decode cX1_init 4 = .ok (.aload_n 0, 1) := by decide +kernel
theorem dX1_init_5 : decode cX1_init 5 = .ok (.iconst 0, 1) := by decide +kernel
theorem dX1_init_6 : decode cX1_init 6 = .ok (.newarray .byte, 2) := by decide +kernel
theorem dX1_init_8 : decode cX1_init 8 = .ok (.putfield 9, 3) := by decide +kernel
theorem dX1_init_11 : decode cX1_init 11 = .ok (.aload_n 0, 1) := by decide +kernel
theorem dX1_init_12 : decode cX1_init 12 = .ok (.sipush 300, 3) := by decide +kernel
theorem dX1_init_15 : decode cX1_init 15 = .ok (.newarray .int, 2) := by decide +kernel
theorem dX1_init_17 : decode cX1_init 17 = .ok (.putfield 15, 3) := by decide +kernel
theorem dX1_init_20 : decode cX1_init 20 = .ok (.aload_n 0, 1) := by decide +kernel
theorem dX1_init_21 : decode cX1_init 21 = .ok (.sipush 300, 3) := by decide +kernel
theorem dX1_init_24 : decode cX1_init 24 = .ok (.newarray .int, 2) := by decide +kernel
theorem dX1_init_26 : decode cX1_init 26 = .ok (.putfield 19, 3) := by decide +kernel
theorem dX1_init_29 : decode cX1_init 29 = .ok (.aload_n 0, 1) := by decide +kernel
theorem dX1_init_30 : decode cX1_init 30 = .ok (.sipush 300, 3) := by decide +kernel
theorem dX1_init_33 : decode cX1_init 33 = .ok (.newarray .int, 2) := by decide +kernel
theorem dX1_init_35 : decode cX1_init 35 = .ok (.putfield 22, 3) := by decide +kernel
theorem dX1_init_38 : decode cX1_init 38 = .ok (.return_, 1) := by decide +kernel
theorem dX1_read_0 : decode cX1_read 0 = .ok (.aload_n 0, 1) := by decide +kernel
theorem dX1_read_1 : decode cX1_read 1 = .ok (.aload_n 1, 1) := by decide +kernel
theorem dX1_read_2 : decode cX1_read 2 = .ok (.putfield 9, 3) := by decide +kernel
theorem dX1_read_5 : decode cX1_read 5 = .ok (.aload_n 0, 1) := by decide +kernel
theorem dX1_read_6 : decode cX1_read 6 = .ok (.iload_n 2, 1) := by decide +kernel
theorem dX1_read_7 : decode cX1_read 7 = .ok (.aload_n 1, 1) := by decide +kernel
theorem dX1_read_8 : decode cX1_read 8 = .ok (.arraylength, 1) := by decide +kernel
theorem dX1_read_9 : decode cX1_read 9 = .ok (.invokestatic 25, 3) := by decide +kernel
theorem dX1_read_12 : decode cX1_read 12 = .ok (.putfield 31, 3) := by decide +kernel
theorem dX1_read_15 : decode cX1_read 15 = .ok (.aload_n 0, 1) := by decide +kernel
theorem dX1_read_16 : decode cX1_read 16 = .ok (.invokevirtual 35, 3) := by decide +kernel
theorem dX1_read_19 : decode cX1_read 19 = .ok (.aload_n 3, 1) := by decide +kernel
theorem dX1_read_20 : decode cX1_read 20 = .ok (.invokevirtual 38, 3) := by decide +kernel
theorem dX1_read_23 : decode cX1_read 23 = .ok (.aload_n 0, 1) := by decide +kernel
theorem dX1_read_24 : decode cX1_read 24 = .ok (.iconst 0, 1) := by decide +kernel
theorem dX1_read_25 : decode cX1_read 25 = .ok (.putfield 43, 3) := by decide +kernel
theorem dX1_read_28 : decode cX1_read 28 = .ok (.iconst 0, 1) := by decide +kernel
theorem dX1_read_29 : decode cX1_read 29 = .ok (.istore 4, 2) := by decide +kernel
theorem dX1_read_31 : decode cX1_read 31 = .ok (.iload 4, 2) := by decide +kernel
theorem dX1_read_33 : decode cX1_read 33 = .ok (.aload_n 0, 1) := by decide +kernel
theorem dX1_read_34 : decode cX1_read 34 = .ok (.getfield 46, 3) := by decide +kernel
theorem dX1_read_37 : decode cX1_read 37 = .ok (.if_icmp .ge 66, 3) := by decide +kernel
theorem dX1_read_40 : decode cX1_read 40 = .ok (.aload_n 0, 1) := by decide +kernel
theorem dX1_read_41 : decode cX1_read 41 = .ok (.getfield 43, 3) := by decide +kernel
theorem dX1_read_44 : decode cX1_read 44 = .ok (.aload_n 0, 1) := by decide +kernel
theorem dX1_read_45 : decode cX1_read 45 = .ok (.getfield 46, 3) := by decide +kernel
theorem dX1_read_48 : decode cX1_read 48 = .ok (.if_icmp .ge 55, 3) := by decide +kernel
theorem dX1_read_51 : decode cX1_read 51 = .ok (.aload_n 0, 1) := by decide +kernel
theorem dX1_read_52 : decode cX1_read 52 = .ok (.aload_n 3, 1) := by decide +kernel
theorem dX1_read_53 : decode cX1_read 53 = .ok (.invokevirtual 49, 3) := by decide +kernel
theorem dX1_read_56 : decode cX1_read 56 = .ok (.ifCond .ne 31, 3) := by decide +kernel
theorem dX1_read_59 : decode cX1_read 59 = .ok (.aload_n 0, 1) := by decide +kernel
theorem dX1_read_60 : decode cX1_read 60 = .ok (.getfield 43, 3) := by decide +kernel
theorem dX1_read_63 : decode cX1_read 63 = .ok (.aload_n 0, 1) := by decide +kernel
theorem dX1_read_64 : decode cX1_read 64 = .ok (.getfield 46, 3) := by decide +kernel
theorem dX1_read_67 : decode cX1_read 67 = .ok (.if_icmp .ge 15, 3) := by decide +kernel
theorem dX1_read_70 : decode cX1_read 70 = .ok (.aload_n 0, 1) := by decide +kernel
theorem dX1_read_71 : decode cX1_read 71 = .ok (.getfield 19, 3) := by decide +kernel
theorem dX1_read_74 : decode cX1_read 74 = .ok (.aload_n 0, 1) := by decide +kernel
theorem dX1_read_75 : decode cX1_read 75 = .ok (.getfield 43, 3) := by decide +kernel
theorem dX1_read_78 : decode cX1_read 78 = .ok (.iaload, 1) := by decide +kernel
theorem dX1_read_79 : decode cX1_read 79 = .ok (.goto 7, 3) := by decide +kernel
theorem dX1_read_82 : decode cX1_read 82 = .ok (.aload_n 0, 1) := by decide +kernel
theorem dX1_read_83 : decode cX1_read 83 = .ok (.getfield 31, 3) := by decide +kernel
theorem dX1_read_86 : decode cX1_read 86 = .ok (.ireturn, 1) := by decide +kernel
theorem dX1_read_87 : decode cX1_read 87 = .ok (.aload_n 0, 1) := by decide +kernel
theorem dX1_read_88 : decode cX1_read 88 = .ok (.dup, 1) := by decide +kernel
theorem dX1_read_89 : decode cX1_read 89 = .ok (.getfield 43, 3) := by decide +kernel
theorem dX1_read_92 : decode cX1_read 92 = .ok (.iconst 1, 1) := by decide +kernel
theorem dX1_read_93 : decode cX1_read 93 = .ok (.iadd, 1) := by decide +kernel
theorem dX1_read_94 : decode cX1_read 94 = .ok (.putfield 43, 3) := by decide +kernel
theorem dX1_read_97 : decode cX1_read 97 = .ok (.iinc 4 1, 3) := by decide +kernel
theorem dX1_read_100 : decode cX1_read 100 = .ok (.goto (-69), 3) := by decide +kernel
theorem dX1_read_103 : decode cX1_read 103 = .ok (.bipush (-9), 2) := by decide +kernel
theorem dX1_read_105 : decode cX1_read 105 = .ok (.ireturn, 1) := by decide +kernel
theorem dX1_readItem_0 : decode cX1_readItem 0 = .ok (.aload_n 0, 1) := by decide +kernel
theorem dX1_readItem_1 : decode cX1_readItem 1 = .ok (.getfield 15, 3) := by decide +kernel
theorem dX1_readItem_4 : decode cX1_readItem 4 = .ok (.aload_n 0, 1) := by decide +kernel
theorem dX1_readItem_5 : decode cX1_readItem 5 = .ok (.getfield 43, 3) := by decide +kernel
theorem dX1_readItem_8 : decode cX1_readItem 8 = .ok (.iaload, 1) := by decide +kernel
theorem dX1_readItem_9 : decode cX1_readItem 9 = .ok (.tableswitch 130 1 4 #[31, 59, 80, 101], 31) := by decide +kernel
theorem dX1_readItem_40 : decode cX1_readItem 40 = .ok (.aload_n 0, 1) := by decide +kernel
theorem dX1_readItem_41 : decode cX1_readItem 41 = .ok (.getfield 43, 3) := by decide +kernel
theorem dX1_readItem_44 : decode cX1_readItem 44 = .ok (.ifCond .ne 22, 3) := by decide +kernel
theorem dX1_readItem_47 : decode cX1_readItem 47 = .ok (.aload_n 0, 1) := by decide +kernel
theorem dX1_readItem_48 : decode cX1_readItem 48 = .ok (.aload_n 1, 1) := by decide +kernel
theorem dX1_readItem_49 : decode cX1_readItem 49 = .ok (.invokevirtual 53, 3) := by decide +kernel
theorem dX1_readItem_52 : decode cX1_readItem 52 = .ok (.ifCond .eq 14, 3) := by decide +kernel
theorem dX1_readItem_55 : decode cX1_readItem 55 = .ok (.aload_n 0, 1) := by decide +kernel
theorem dX1_readItem_56 : decode cX1_readItem 56 = .ok (.invokevirtual 56, 3) := by decide +kernel
theorem dX1_readItem_59 : decode cX1_readItem 59 = .ok (.ifCond .eq 7, 3) := by decide +kernel
theorem dX1_readItem_62 : decode cX1_readItem 62 = .ok (.iconst 1, 1) := by decide +kernel
theorem dX1_readItem_63 : decode cX1_readItem 63 = .ok (.goto 4, 3) := by decide +kernel
theorem dX1_readItem_66 : decode cX1_readItem 66 = .ok (.iconst 0, 1) := by decide +kernel
theorem dX1_readItem_67 : decode cX1_readItem 67 = .ok (.ireturn, 1) := by decide +kernel
theorem dX1_readItem_68 : decode cX1_readItem 68 = .ok (.aload_n 0, 1) := by decide +kernel
theorem dX1_readItem_69 : decode cX1_readItem 69 = .ok (.aload_n 1, 1) := by decide +kernel
theorem dX1_readItem_70 : decode cX1_readItem 70 = .ok (.invokevirtual 60, 3) := by decide +kernel
theorem dX1_readItem_73 : decode cX1_readItem 73 = .ok (.ifCond .eq 14, 3) := by decide +kernel
theorem dX1_readItem_76 : decode cX1_readItem 76 = .ok (.aload_n 0, 1) := by decide +kernel
theorem dX1_readItem_77 : decode cX1_readItem 77 = .ok (.invokevirtual 56, 3) := by decide +kernel
theorem dX1_readItem_80 : decode cX1_readItem 80 = .ok (.ifCond .eq 7, 3) := by decide +kernel
theorem dX1_readItem_83 : decode cX1_readItem 83 = .ok (.iconst 1, 1) := by decide +kernel
theorem dX1_readItem_84 : decode cX1_readItem 84 = .ok (.goto 4, 3) := by decide +kernel
theorem dX1_readItem_87 : decode cX1_readItem 87 = .ok (.iconst 0, 1) := by decide +kernel
theorem dX1_readItem_88 : decode cX1_readItem 88 = .ok (.ireturn, 1) := by decide +kernel
theorem dX1_readItem_89 : decode cX1_readItem 89 = .ok (.aload_n 0, 1) := by decide +kernel
theorem dX1_readItem_90 : decode cX1_readItem 90 = .ok (.aload_n 1, 1) := by decide +kernel
theorem dX1_readItem_91 : decode cX1_readItem 91 = .ok (.invokevirtual 63, 3) := by decide +kernel
theorem dX1_readItem_94 : decode cX1_readItem 94 = .ok (.ifCond .eq 14, 3) := by decide +kernel
theorem dX1_readItem_97 : decode cX1_readItem 97 = .ok (.aload_n 0, 1) := by decide +kernel
theorem dX1_readItem_98 : decode cX1_readItem 98 = .ok (.invokevirtual 56, 3) := by decide +kernel
theorem dX1_readItem_101 : decode cX1_readItem 101 = .ok (.ifCond .eq 7, 3) := by decide +kernel
theorem dX1_readItem_104 : decode cX1_readItem 104 = .ok (.iconst 1, 1) := by decide +kernel
theorem dX1_readItem_105 : decode cX1_readItem 105 = .ok (.goto 4, 3) := by decide +kernel
theorem dX1_readItem_108 : decode cX1_readItem 108 = .ok (.iconst 0, 1) := by decide +kernel
theorem dX1_readItem_109 : decode cX1_readItem 109 = .ok (.ireturn, 1) := by decide +kernel
theorem dX1_readItem_110 : decode cX1_readItem 110 = .ok (.aload_n 1, 1) := by decide +kernel
theorem dX1_readItem_111 : decode cX1_readItem 111 = .ok (.getfield 66, 3) := by decide +kernel
theorem dX1_readItem_114 : decode cX1_readItem 114 = .ok (.iconst 3, 1) := by decide +kernel
theorem dX1_readItem_115 : decode cX1_readItem 115 = .ok (.if_icmp .ge 22, 3) := by decide +kernel
theorem dX1_readItem_118 : decode cX1_readItem 118 = .ok (.aload_n 0, 1) := by decide +kernel
theorem dX1_readItem_119 : decode cX1_readItem 119 = .ok (.aload_n 1, 1) := by decide +kernel
theorem dX1_readItem_120 : decode cX1_readItem 120 = .ok (.invokevirtual 69, 3) := by decide +kernel
theorem dX1_readItem_123 : decode cX1_readItem 123 = .ok (.ifCond .eq 14, 3) := by decide +kernel
theorem dX1_readItem_126 : decode cX1_readItem 126 = .ok (.aload_n 0, 1) := by decide +kernel
theorem dX1_readItem_127 : decode cX1_readItem 127 = .ok (.invokevirtual 56, 3) := by decide +kernel
theorem dX1_readItem_130 : decode cX1_readItem 130 = .ok (.ifCond .eq 7, 3) := by decide +kernel
theorem dX1_readItem_133 : decode cX1_readItem 133 = .ok (.iconst 1, 1) := by decide +kernel
theorem dX1_readItem_134 : decode cX1_readItem 134 = .ok (.goto 4, 3) := by decide +kernel
theorem dX1_readItem_137 : decode cX1_readItem 137 = .ok (.iconst 0, 1) := by decide +kernel
theorem dX1_readItem_138 : decode cX1_readItem 138 = .ok (.ireturn, 1) := by decide +kernel
theorem dX1_readItem_139 : decode cX1_readItem 139 = .ok (.iconst 0, 1) := by decide +kernel
theorem dX1_readItem_140 : decode cX1_readItem 140 = .ok (.ireturn, 1) := by decide +kernel
theorem dX1_readSize_0 : decode cX1_readSize 0 = .ok (.aload_n 0, 1) := by decide +kernel
theorem dX1_readSize_1 : decode cX1_readSize 1 = .ok (.iconst 2, 1) := by decide +kernel
theorem dX1_readSize_2 : decode cX1_readSize 2 = .ok (.bipush 10, 2) := by decide +kernel
theorem dX1_readSize_4 : decode cX1_readSize 4 = .ok (.invokevirtual 72, 3) := by decide +kernel
theorem dX1_readSize_7 : decode cX1_readSize 7 = .ok (.ifCond .ne 5, 3) := by decide +kernel
theorem dX1_readSize_10 : decode cX1_readSize 10 = .ok (.iconst 0, 1) := by decide +kernel
theorem dX1_readSize_11 : decode cX1_readSize 11 = .ok (.ireturn, 1) := by decide +kernel
theorem dX1_readSize_12 : decode cX1_readSize 12 = .ok (.aload_n 1, 1) := by decide +kernel
theorem dX1_readSize_13 : decode cX1_readSize 13 = .ok (.aload_n 0, 1) := by decide +kernel
theorem dX1_readSize_14 : decode cX1_readSize 14 = .ok (.getfield 76, 3) := by decide +kernel
theorem dX1_readSize_17 : decode cX1_readSize 17 = .ok (.putfield 79, 3) := by decide +kernel
theorem dX1_readSize_20 : decode cX1_readSize 20 = .ok (.aload_n 0, 1) := by decide +kernel
theorem dX1_readSize_21 : decode cX1_readSize 21 = .ok (.iconst 2, 1) := by decide +kernel
theorem dX1_readSize_22 : decode cX1_readSize 22 = .ok (.bipush 16, 2) := by decide +kernel
theorem dX1_readSize_24 : decode cX1_readSize 24 = .ok (.invokevirtual 72, 3) := by decide +kernel
theorem dX1_readSize_27 : decode cX1_readSize 27 = .ok (.ifCond .ne 5, 3) := by decide +kernel
theorem dX1_readSize_30 : decode cX1_readSize 30 = .ok (.iconst 0, 1) := by decide +kernel
theorem dX1_readSize_31 : decode cX1_readSize 31 = .ok (.ireturn, 1) := by decide +kernel
theorem dX1_readSize_32 : decode cX1_readSize 32 = .ok (.aload_n 1, 1) := by decide +kernel
theorem dX1_readSize_33 : decode cX1_readSize 33 = .ok (.aload_n 0, 1) := by decide +kernel
theorem dX1_readSize_34 : decode cX1_readSize 34 = .ok (.getfield 76, 3) := by decide +kernel
theorem dX1_readSize_37 : decode cX1_readSize 37 = .ok (.putfield 82, 3) := by decide +kernel
theorem dX1_readSize_40 : decode cX1_readSize 40 = .ok (.iconst 1, 1) := by decide +kernel
theorem dX1_readSize_41 : decode cX1_readSize 41 = .ok (.ireturn, 1) := by decide +kernel
theorem dX1_readBeam_0 : decode cX1_readBeam 0 = .ok (.aload_n 0, 1) := by decide +kernel
theorem dX1_readBeam_1 : decode cX1_readBeam 1 = .ok (.iconst 0, 1) := by decide +kernel
theorem dX1_readBeam_2 : decode cX1_readBeam 2 = .ok (.aload_n 1, 1) := by decide +kernel
theorem dX1_readBeam_3 : decode cX1_readBeam 3 = .ok (.getfield 82, 3) := by decide +kernel
theorem dX1_readBeam_6 : decode cX1_readBeam 6 = .ok (.iconst 1, 1) := by decide +kernel
theorem dX1_readBeam_7 : decode cX1_readBeam 7 = .ok (.isub, 1) := by decide +kernel
theorem dX1_readBeam_8 : decode cX1_readBeam 8 = .ok (.invokevirtual 72, 3) := by decide +kernel
theorem dX1_readBeam_11 : decode cX1_readBeam 11 = .ok (.ifCond .ne 5, 3) := by decide +kernel
theorem dX1_readBeam_14 : decode cX1_readBeam 14 = .ok (.iconst 0, 1) := by decide +kernel
theorem dX1_readBeam_15 : decode cX1_readBeam 15 = .ok (.ireturn, 1) := by decide +kernel
theorem dX1_readBeam_16 : decode cX1_readBeam 16 = .ok (.aload_n 0, 1) := by decide +kernel
theorem dX1_readBeam_17 : decode cX1_readBeam 17 = .ok (.getfield 76, 3) := by decide +kernel
theorem dX1_readBeam_20 : decode cX1_readBeam 20 = .ok (.istore_n 2, 1) := by decide +kernel
theorem dX1_readBeam_21 : decode cX1_readBeam 21 = .ok (.aload_n 0, 1) := by decide +kernel
theorem dX1_readBeam_22 : decode cX1_readBeam 22 = .ok (.aload_n 1, 1) := by decide +kernel
theorem dX1_readBeam_23 : decode cX1_readBeam 23 = .ok (.invokevirtual 85, 3) := by decide +kernel
theorem dX1_readBeam_26 : decode cX1_readBeam 26 = .ok (.istore_n 3, 1) := by decide +kernel
theorem dX1_readBeam_27 : decode cX1_readBeam 27 = .ok (.iload_n 3, 1) := by decide +kernel
theorem dX1_readBeam_28 : decode cX1_readBeam 28 = .ok (.ifCond .ne 5, 3) := by decide +kernel
theorem dX1_readBeam_31 : decode cX1_readBeam 31 = .ok (.iconst 0, 1) := by decide +kernel
theorem dX1_readBeam_32 : decode cX1_readBeam 32 = .ok (.ireturn, 1) := by decide +kernel
theorem dX1_readBeam_33 : decode cX1_readBeam 33 = .ok (.aload_n 1, 1) := by decide +kernel
theorem dX1_readBeam_34 : decode cX1_readBeam 34 = .ok (.getfield 89, 3) := by decide +kernel
theorem dX1_readBeam_37 : decode cX1_readBeam 37 = .ok (.iload_n 2, 1) := by decide +kernel
theorem dX1_readBeam_38 : decode cX1_readBeam 38 = .ok (.dup2, 1) := by decide +kernel
theorem dX1_readBeam_39 : decode cX1_readBeam 39 = .ok (.iaload, 1) := by decide +kernel
theorem dX1_readBeam_40 : decode cX1_readBeam 40 = .ok (.iload_n 3, 1) := by decide +kernel
theorem dX1_readBeam_41 : decode cX1_readBeam 41 = .ok (.ior, 1) := by decide +kernel
theorem dX1_readBeam_42 : decode cX1_readBeam 42 = .ok (.iastore, 1) := by decide +kernel
theorem dX1_readBeam_43 : decode cX1_readBeam 43 = .ok (.iconst 1, 1) := by decide +kernel
theorem dX1_readBeam_44 : decode cX1_readBeam 44 = .ok (.ireturn, 1) := by decide +kernel
theorem dX1_readCold_0 : decode cX1_readCold 0 = .ok (.aload_n 0, 1) := by decide +kernel
theorem dX1_readCold_1 : decode cX1_readCold 1 = .ok (.aload_n 1, 1) := by decide +kernel
theorem dX1_readCold_2 : decode cX1_readCold 2 = .ok (.invokevirtual 85, 3) := by decide +kernel
theorem dX1_readCold_5 : decode cX1_readCold 5 = .ok (.istore_n 2, 1) := by decide +kernel
theorem dX1_readCold_6 : decode cX1_readCold 6 = .ok (.aload_n 1, 1) := by decide +kernel
theorem dX1_readCold_7 : decode cX1_readCold 7 = .ok (.dup, 1) := by decide +kernel
theorem dX1_readCold_8 : decode cX1_readCold 8 = .ok (.getfield 92, 3) := by decide +kernel
theorem dX1_readCold_11 : decode cX1_readCold 11 = .ok (.iload_n 2, 1) := by decide +kernel
theorem dX1_readCold_12 : decode cX1_readCold 12 = .ok (.ior, 1) := by decide +kernel
theorem dX1_readCold_13 : decode cX1_readCold 13 = .ok (.putfield 92, 3) := by decide +kernel
theorem dX1_readCold_16 : decode cX1_readCold 16 = .ok (.iload_n 2, 1) := by decide +kernel
theorem dX1_readCold_17 : decode cX1_readCold 17 = .ok (.ifCond .eq 7, 3) := by decide +kernel
theorem dX1_readCold_20 : decode cX1_readCold 20 = .ok (.iconst 1, 1) := by decide +kernel
theorem dX1_readCold_21 : decode cX1_readCold 21 = .ok (.goto 4, 3) := by decide +kernel
theorem dX1_readCold_24 : decode cX1_readCold 24 = .ok (.iconst 0, 1) := by decide +kernel
theorem dX1_readCold_25 : decode cX1_readCold 25 = .ok (.ireturn, 1) := by decide +kernel
theorem dX1_readHearth_0 : decode cX1_readHearth 0 = .ok (.aload_n 1, 1) := by decide +kernel
theorem dX1_readHearth_1 : decode cX1_readHearth 1 = .ok (.getfield 66, 3) := by decide +kernel
theorem dX1_readHearth_4 : decode cX1_readHearth 4 = .ok (.istore_n 2, 1) := by decide +kernel
theorem dX1_readHearth_5 : decode cX1_readHearth 5 = .ok (.aload_n 0, 1) := by decide +kernel
theorem dX1_readHearth_6 : decode cX1_readHearth 6 = .ok (.iconst 0, 1) := by decide +kernel
theorem dX1_readHearth_7 : decode cX1_readHearth 7 = .ok (.aload_n 1, 1) := by decide +kernel
theorem dX1_readHearth_8 : decode cX1_readHearth 8 = .ok (.getfield 82, 3) := by decide +kernel
theorem dX1_readHearth_11 : decode cX1_readHearth 11 = .ok (.iconst 2, 1) := by decide +kernel
theorem dX1_readHearth_12 : decode cX1_readHearth 12 = .ok (.isub, 1) := by decide +kernel
theorem dX1_readHearth_13 : decode cX1_readHearth 13 = .ok (.invokevirtual 72, 3) := by decide +kernel
theorem dX1_readHearth_16 : decode cX1_readHearth 16 = .ok (.ifCond .ne 5, 3) := by decide +kernel
theorem dX1_readHearth_19 : decode cX1_readHearth 19 = .ok (.iconst 0, 1) := by decide +kernel
theorem dX1_readHearth_20 : decode cX1_readHearth 20 = .ok (.ireturn, 1) := by decide +kernel
theorem dX1_readHearth_21 : decode cX1_readHearth 21 = .ok (.aload_n 1, 1) := by decide +kernel
theorem dX1_readHearth_22 : decode cX1_readHearth 22 = .ok (.getfield 95, 3) := by decide +kernel
theorem dX1_readHearth_25 : decode cX1_readHearth 25 = .ok (.iload_n 2, 1) := by decide +kernel
theorem dX1_readHearth_26 : decode cX1_readHearth 26 = .ok (.aload_n 0, 1) := by decide +kernel
theorem dX1_readHearth_27 : decode cX1_readHearth 27 = .ok (.getfield 76, 3) := by decide +kernel
theorem dX1_readHearth_30 : decode cX1_readHearth 30 = .ok (.iastore, 1) := by decide +kernel
theorem dX1_readHearth_31 : decode cX1_readHearth 31 = .ok (.aload_n 0, 1) := by decide +kernel
theorem dX1_readHearth_32 : decode cX1_readHearth 32 = .ok (.iconst 0, 1) := by decide +kernel
theorem dX1_readHearth_33 : decode cX1_readHearth 33 = .ok (.aload_n 1, 1) := by decide +kernel
theorem dX1_readHearth_34 : decode cX1_readHearth 34 = .ok (.getfield 79, 3) := by decide +kernel
theorem dX1_readHearth_37 : decode cX1_readHearth 37 = .ok (.iconst 1, 1) := by decide +kernel
theorem dX1_readHearth_38 : decode cX1_readHearth 38 = .ok (.isub, 1) := by decide +kernel
theorem dX1_readHearth_39 : decode cX1_readHearth 39 = .ok (.invokevirtual 72, 3) := by decide +kernel
theorem dX1_readHearth_42 : decode cX1_readHearth 42 = .ok (.ifCond .ne 5, 3) := by decide +kernel
theorem dX1_readHearth_45 : decode cX1_readHearth 45 = .ok (.iconst 0, 1) := by decide +kernel
theorem dX1_readHearth_46 : decode cX1_readHearth 46 = .ok (.ireturn, 1) := by decide +kernel
theorem dX1_readHearth_47 : decode cX1_readHearth 47 = .ok (.aload_n 1, 1) := by decide +kernel
theorem dX1_readHearth_48 : decode cX1_readHearth 48 = .ok (.getfield 98, 3) := by decide +kernel
theorem dX1_readHearth_51 : decode cX1_readHearth 51 = .ok (.iload_n 2, 1) := by decide +kernel
theorem dX1_readHearth_52 : decode cX1_readHearth 52 = .ok (.aload_n 0, 1) := by decide +kernel
theorem dX1_readHearth_53 : decode cX1_readHearth 53 = .ok (.getfield 76, 3) := by decide +kernel
theorem dX1_readHearth_56 : decode cX1_readHearth 56 = .ok (.iastore, 1) := by decide +kernel
theorem dX1_readHearth_57 : decode cX1_readHearth 57 = .ok (.aload_n 0, 1) := by decide +kernel
theorem dX1_readHearth_58 : decode cX1_readHearth 58 = .ok (.iconst 0, 1) := by decide +kernel
theorem dX1_readHearth_59 : decode cX1_readHearth 59 = .ok (.bipush 99, 2) := by decide +kernel
theorem dX1_readHearth_61 : decode cX1_readHearth 61 = .ok (.invokevirtual 72, 3) := by decide +kernel
theorem dX1_readHearth_64 : decode cX1_readHearth 64 = .ok (.ifCond .ne 5, 3) := by decide +kernel
theorem dX1_readHearth_67 : decode cX1_readHearth 67 = .ok (.iconst 0, 1) := by decide +kernel
theorem dX1_readHearth_68 : decode cX1_readHearth 68 = .ok (.ireturn, 1) := by decide +kernel
theorem dX1_readHearth_69 : decode cX1_readHearth 69 = .ok (.aload_n 1, 1) := by decide +kernel
theorem dX1_readHearth_70 : decode cX1_readHearth 70 = .ok (.getfield 101, 3) := by decide +kernel
theorem dX1_readHearth_73 : decode cX1_readHearth 73 = .ok (.iload_n 2, 1) := by decide +kernel
theorem dX1_readHearth_74 : decode cX1_readHearth 74 = .ok (.aload_n 0, 1) := by decide +kernel
theorem dX1_readHearth_75 : decode cX1_readHearth 75 = .ok (.getfield 76, 3) := by decide +kernel
theorem dX1_readHearth_78 : decode cX1_readHearth 78 = .ok (.iastore, 1) := by decide +kernel
theorem dX1_readHearth_79 : decode cX1_readHearth 79 = .ok (.aload_n 1, 1) := by decide +kernel
theorem dX1_readHearth_80 : decode cX1_readHearth 80 = .ok (.dup, 1) := by decide +kernel
theorem dX1_readHearth_81 : decode cX1_readHearth 81 = .ok (.getfield 66, 3) := by decide +kernel
theorem dX1_readHearth_84 : decode cX1_readHearth 84 = .ok (.iconst 1, 1) := by decide +kernel
theorem dX1_readHearth_85 : decode cX1_readHearth 85 = .ok (.iadd, 1) := by decide +kernel
theorem dX1_readHearth_86 : decode cX1_readHearth 86 = .ok (.putfield 66, 3) := by decide +kernel
theorem dX1_readHearth_89 : decode cX1_readHearth 89 = .ok (.iconst 1, 1) := by decide +kernel
theorem dX1_readHearth_90 : decode cX1_readHearth 90 = .ok (.ireturn, 1) := by decide +kernel
theorem dX1_readSpan_0 : decode cX1_readSpan 0 = .ok (.aload_n 0, 1) := by decide +kernel
theorem dX1_readSpan_1 : decode cX1_readSpan 1 = .ok (.iconst 0, 1) := by decide +kernel
theorem dX1_readSpan_2 : decode cX1_readSpan 2 = .ok (.aload_n 1, 1) := by decide +kernel
theorem dX1_readSpan_3 : decode cX1_readSpan 3 = .ok (.getfield 79, 3) := by decide +kernel
theorem dX1_readSpan_6 : decode cX1_readSpan 6 = .ok (.iconst 1, 1) := by decide +kernel
theorem dX1_readSpan_7 : decode cX1_readSpan 7 = .ok (.isub, 1) := by decide +kernel
theorem dX1_readSpan_8 : decode cX1_readSpan 8 = .ok (.invokevirtual 72, 3) := by decide +kernel
theorem dX1_readSpan_11 : decode cX1_readSpan 11 = .ok (.ifCond .ne 5, 3) := by decide +kernel
theorem dX1_readSpan_14 : decode cX1_readSpan 14 = .ok (.iconst 0, 1) := by decide +kernel
theorem dX1_readSpan_15 : decode cX1_readSpan 15 = .ok (.ireturn, 1) := by decide +kernel
theorem dX1_readSpan_16 : decode cX1_readSpan 16 = .ok (.aload_n 0, 1) := by decide +kernel
theorem dX1_readSpan_17 : decode cX1_readSpan 17 = .ok (.getfield 76, 3) := by decide +kernel
theorem dX1_readSpan_20 : decode cX1_readSpan 20 = .ok (.istore_n 2, 1) := by decide +kernel
theorem dX1_readSpan_21 : decode cX1_readSpan 21 = .ok (.aload_n 0, 1) := by decide +kernel
theorem dX1_readSpan_22 : decode cX1_readSpan 22 = .ok (.iload_n 2, 1) := by decide +kernel
theorem dX1_readSpan_23 : decode cX1_readSpan 23 = .ok (.aload_n 1, 1) := by decide +kernel
theorem dX1_readSpan_24 : decode cX1_readSpan 24 = .ok (.getfield 79, 3) := by decide +kernel
theorem dX1_readSpan_27 : decode cX1_readSpan 27 = .ok (.iconst 1, 1) := by decide +kernel
theorem dX1_readSpan_28 : decode cX1_readSpan 28 = .ok (.isub, 1) := by decide +kernel
theorem dX1_readSpan_29 : decode cX1_readSpan 29 = .ok (.invokevirtual 72, 3) := by decide +kernel
theorem dX1_readSpan_32 : decode cX1_readSpan 32 = .ok (.ifCond .ne 5, 3) := by decide +kernel
theorem dX1_readSpan_35 : decode cX1_readSpan 35 = .ok (.iconst 0, 1) := by decide +kernel
theorem dX1_readSpan_36 : decode cX1_readSpan 36 = .ok (.ireturn, 1) := by decide +kernel
theorem dX1_readSpan_37 : decode cX1_readSpan 37 = .ok (.iconst 1, 1) := by decide +kernel
theorem dX1_readSpan_38 : decode cX1_readSpan 38 = .ok (.aload_n 0, 1) := by decide +kernel
theorem dX1_readSpan_39 : decode cX1_readSpan 39 = .ok (.getfield 76, 3) := by decide +kernel
theorem dX1_readSpan_42 : decode cX1_readSpan 42 = .ok (.iconst 1, 1) := by decide +kernel
theorem dX1_readSpan_43 : decode cX1_readSpan 43 = .ok (.iadd, 1) := by decide +kernel
theorem dX1_readSpan_44 : decode cX1_readSpan 44 = .ok (.ishl, 1) := by decide +kernel
theorem dX1_readSpan_45 : decode cX1_readSpan 45 = .ok (.iconst 1, 1) := by decide +kernel
theorem dX1_readSpan_46 : decode cX1_readSpan 46 = .ok (.isub, 1) := by decide +kernel
theorem dX1_readSpan_47 : decode cX1_readSpan 47 = .ok (.iconst 1, 1) := by decide +kernel
theorem dX1_readSpan_48 : decode cX1_readSpan 48 = .ok (.iload_n 2, 1) := by decide +kernel
theorem dX1_readSpan_49 : decode cX1_readSpan 49 = .ok (.ishl, 1) := by decide +kernel
theorem dX1_readSpan_50 : decode cX1_readSpan 50 = .ok (.iconst 1, 1) := by decide +kernel
theorem dX1_readSpan_51 : decode cX1_readSpan 51 = .ok (.isub, 1) := by decide +kernel
theorem dX1_readSpan_52 : decode cX1_readSpan 52 = .ok (.iconst (-1), 1) := by decide +kernel
theorem dX1_readSpan_53 : decode cX1_readSpan 53 = .ok (.ixor, 1) := by decide +kernel
theorem dX1_readSpan_54 : decode cX1_readSpan 54 = .ok (.iand, 1) := by decide +kernel
theorem dX1_readSpan_55 : decode cX1_readSpan 55 = .ok (.ireturn, 1) := by decide +kernel
theorem dX1_readNumber_0 : decode cX1_readNumber 0 = .ok (.aload_n 0, 1) := by decide +kernel
theorem dX1_readNumber_1 : decode cX1_readNumber 1 = .ok (.dup, 1) := by decide +kernel
theorem dX1_readNumber_2 : decode cX1_readNumber 2 = .ok (.getfield 43, 3) := by decide +kernel
theorem dX1_readNumber_5 : decode cX1_readNumber 5 = .ok (.iconst 1, 1) := by decide +kernel
theorem dX1_readNumber_6 : decode cX1_readNumber 6 = .ok (.iadd, 1) := by decide +kernel
theorem dX1_readNumber_7 : decode cX1_readNumber 7 = .ok (.putfield 43, 3) := by decide +kernel
theorem dX1_readNumber_10 : decode cX1_readNumber 10 = .ok (.aload_n 0, 1) := by decide +kernel
theorem dX1_readNumber_11 : decode cX1_readNumber 11 = .ok (.getfield 43, 3) := by decide +kernel
theorem dX1_readNumber_14 : decode cX1_readNumber 14 = .ok (.aload_n 0, 1) := by decide +kernel
theorem dX1_readNumber_15 : decode cX1_readNumber 15 = .ok (.getfield 46, 3) := by decide +kernel
theorem dX1_readNumber_18 : decode cX1_readNumber 18 = .ok (.if_icmp .ge 16, 3) := by decide +kernel
theorem dX1_readNumber_21 : decode cX1_readNumber 21 = .ok (.aload_n 0, 1) := by decide +kernel
theorem dX1_readNumber_22 : decode cX1_readNumber 22 = .ok (.getfield 15, 3) := by decide +kernel
theorem dX1_readNumber_25 : decode cX1_readNumber 25 = .ok (.aload_n 0, 1) := by decide +kernel
theorem dX1_readNumber_26 : decode cX1_readNumber 26 = .ok (.getfield 43, 3) := by decide +kernel
theorem dX1_readNumber_29 : decode cX1_readNumber 29 = .ok (.iaload, 1) := by decide +kernel
theorem dX1_readNumber_30 : decode cX1_readNumber 30 = .ok (.iconst 5, 1) := by decide +kernel
theorem dX1_readNumber_31 : decode cX1_readNumber 31 = .ok (.if_icmp .eq 5, 3) := by decide +kernel
theorem dX1_readNumber_34 : decode cX1_readNumber 34 = .ok (.iconst 0, 1) := by decide +kernel
theorem dX1_readNumber_35 : decode cX1_readNumber 35 = .ok (.ireturn, 1) := by decide +kernel
theorem dX1_readNumber_36 : decode cX1_readNumber 36 = .ok (.aload_n 0, 1) := by decide +kernel
theorem dX1_readNumber_37 : decode cX1_readNumber 37 = .ok (.aload_n 0, 1) := by decide +kernel
theorem dX1_readNumber_38 : decode cX1_readNumber 38 = .ok (.getfield 22, 3) := by decide +kernel
theorem dX1_readNumber_41 : decode cX1_readNumber 41 = .ok (.aload_n 0, 1) := by decide +kernel
theorem dX1_readNumber_42 : decode cX1_readNumber 42 = .ok (.getfield 43, 3) := by decide +kernel
theorem dX1_readNumber_45 : decode cX1_readNumber 45 = .ok (.iaload, 1) := by decide +kernel
theorem dX1_readNumber_46 : decode cX1_readNumber 46 = .ok (.putfield 76, 3) := by decide +kernel
theorem dX1_readNumber_49 : decode cX1_readNumber 49 = .ok (.aload_n 0, 1) := by decide +kernel
theorem dX1_readNumber_50 : decode cX1_readNumber 50 = .ok (.getfield 76, 3) := by decide +kernel
theorem dX1_readNumber_53 : decode cX1_readNumber 53 = .ok (.iload_n 1, 1) := by decide +kernel
theorem dX1_readNumber_54 : decode cX1_readNumber 54 = .ok (.if_icmp .lt 15, 3) := by decide +kernel
theorem dX1_readNumber_57 : decode cX1_readNumber 57 = .ok (.aload_n 0, 1) := by decide +kernel
theorem dX1_readNumber_58 : decode cX1_readNumber 58 = .ok (.getfield 76, 3) := by decide +kernel
theorem dX1_readNumber_61 : decode cX1_readNumber 61 = .ok (.iload_n 2, 1) := by decide +kernel
theorem dX1_readNumber_62 : decode cX1_readNumber 62 = .ok (.if_icmp .gt 7, 3) := by decide +kernel
theorem dX1_readNumber_65 : decode cX1_readNumber 65 = .ok (.iconst 1, 1) := by decide +kernel
theorem dX1_readNumber_66 : decode cX1_readNumber 66 = .ok (.goto 4, 3) := by decide +kernel
theorem dX1_readNumber_69 : decode cX1_readNumber 69 = .ok (.iconst 0, 1) := by decide +kernel
theorem dX1_readNumber_70 : decode cX1_readNumber 70 = .ok (.ireturn, 1) := by decide +kernel
theorem dX1_readClose_0 : decode cX1_readClose 0 = .ok (.aload_n 0, 1) := by decide +kernel
theorem dX1_readClose_1 : decode cX1_readClose 1 = .ok (.dup, 1) := by decide +kernel
theorem dX1_readClose_2 : decode cX1_readClose 2 = .ok (.getfield 43, 3) := by decide +kernel
theorem dX1_readClose_5 : decode cX1_readClose 5 = .ok (.iconst 1, 1) := by decide +kernel
theorem dX1_readClose_6 : decode cX1_readClose 6 = .ok (.iadd, 1) := by decide +kernel
theorem dX1_readClose_7 : decode cX1_readClose 7 = .ok (.putfield 43, 3) := by decide +kernel
theorem dX1_readClose_10 : decode cX1_readClose 10 = .ok (.aload_n 0, 1) := by decide +kernel
theorem dX1_readClose_11 : decode cX1_readClose 11 = .ok (.getfield 43, 3) := by decide +kernel
theorem dX1_readClose_14 : decode cX1_readClose 14 = .ok (.aload_n 0, 1) := by decide +kernel
theorem dX1_readClose_15 : decode cX1_readClose 15 = .ok (.getfield 46, 3) := by decide +kernel
theorem dX1_readClose_18 : decode cX1_readClose 18 = .ok (.if_icmp .ge 21, 3) := by decide +kernel
theorem dX1_readClose_21 : decode cX1_readClose 21 = .ok (.aload_n 0, 1) := by decide +kernel
theorem dX1_readClose_22 : decode cX1_readClose 22 = .ok (.getfield 15, 3) := by decide +kernel
theorem dX1_readClose_25 : decode cX1_readClose 25 = .ok (.aload_n 0, 1) := by decide +kernel
theorem dX1_readClose_26 : decode cX1_readClose 26 = .ok (.getfield 43, 3) := by decide +kernel
theorem dX1_readClose_29 : decode cX1_readClose 29 = .ok (.iaload, 1) := by decide +kernel
theorem dX1_readClose_30 : decode cX1_readClose 30 = .ok (.bipush 6, 2) := by decide +kernel
theorem dX1_readClose_32 : decode cX1_readClose 32 = .ok (.if_icmp .ne 7, 3) := by decide +kernel
theorem dX1_readClose_35 : decode cX1_readClose 35 = .ok (.iconst 1, 1) := by decide +kernel
theorem dX1_readClose_36 : decode cX1_readClose 36 = .ok (.goto 4, 3) := by decide +kernel
theorem dX1_readClose_39 : decode cX1_readClose 39 = .ok (.iconst 0, 1) := by decide +kernel
theorem dX1_readClose_40 : decode cX1_readClose 40 = .ok (.ireturn, 1) := by decide +kernel
theorem dX1_part_0 : decode cX1_part 0 = .ok (.aload_n 0, 1) := by decide +kernel
theorem dX1_part_1 : decode cX1_part 1 = .ok (.iconst 0, 1) := by decide +kernel
theorem dX1_part_2 : decode cX1_part 2 = .ok (.putfield 46, 3) := by decide +kernel
theorem dX1_part_5 : decode cX1_part 5 = .ok (.aload_n 0, 1) := by decide +kernel
theorem dX1_part_6 : decode cX1_part 6 = .ok (.iconst 0, 1) := by decide +kernel
theorem dX1_part_7 : decode cX1_part 7 = .ok (.putfield 104, 3) := by decide +kernel
theorem dX1_part_10 : decode cX1_part 10 = .ok (.aload_n 0, 1) := by decide +kernel
theorem dX1_part_11 : decode cX1_part 11 = .ok (.getfield 104, 3) := by decide +kernel
theorem dX1_part_14 : decode cX1_part 14 = .ok (.aload_n 0, 1) := by decide +kernel
theorem dX1_part_15 : decode cX1_part 15 = .ok (.getfield 31, 3) := by decide +kernel
theorem dX1_part_18 : decode cX1_part 18 = .ok (.if_icmp .ge 91, 3) := by decide +kernel
theorem dX1_part_21 : decode cX1_part 21 = .ok (.aload_n 0, 1) := by decide +kernel
theorem dX1_part_22 : decode cX1_part 22 = .ok (.getfield 46, 3) := by decide +kernel
theorem dX1_part_25 : decode cX1_part 25 = .ok (.sipush 300, 3) := by decide +kernel
theorem dX1_part_28 : decode cX1_part 28 = .ok (.if_icmp .ge 81, 3) := by decide +kernel
theorem dX1_part_31 : decode cX1_part 31 = .ok (.aload_n 0, 1) := by decide +kernel
theorem dX1_part_32 : decode cX1_part 32 = .ok (.aload_n 0, 1) := by decide +kernel
theorem dX1_part_33 : decode cX1_part 33 = .ok (.getfield 104, 3) := by decide +kernel
theorem dX1_part_36 : decode cX1_part 36 = .ok (.invokevirtual 107, 3) := by decide +kernel
theorem dX1_part_39 : decode cX1_part 39 = .ok (.bipush 32, 2) := by decide +kernel
theorem dX1_part_41 : decode cX1_part 41 = .ok (.if_icmp .ne 16, 3) := by decide +kernel
theorem dX1_part_44 : decode cX1_part 44 = .ok (.aload_n 0, 1) := by decide +kernel
theorem dX1_part_45 : decode cX1_part 45 = .ok (.dup, 1) := by decide +kernel
theorem dX1_part_46 : decode cX1_part 46 = .ok (.getfield 104, 3) := by decide +kernel
theorem dX1_part_49 : decode cX1_part 49 = .ok (.iconst 1, 1) := by decide +kernel
theorem dX1_part_50 : decode cX1_part 50 = .ok (.iadd, 1) := by decide +kernel
theorem dX1_part_51 : decode cX1_part 51 = .ok (.putfield 104, 3) := by decide +kernel
theorem dX1_part_54 : decode cX1_part 54 = .ok (.goto (-44), 3) := by decide +kernel
theorem dX1_part_57 : decode cX1_part 57 = .ok (.aload_n 0, 1) := by decide +kernel
theorem dX1_part_58 : decode cX1_part 58 = .ok (.getfield 19, 3) := by decide +kernel
theorem dX1_part_61 : decode cX1_part 61 = .ok (.aload_n 0, 1) := by decide +kernel
theorem dX1_part_62 : decode cX1_part 62 = .ok (.getfield 46, 3) := by decide +kernel
theorem dX1_part_65 : decode cX1_part 65 = .ok (.aload_n 0, 1) := by decide +kernel
theorem dX1_part_66 : decode cX1_part 66 = .ok (.getfield 104, 3) := by decide +kernel
theorem dX1_part_69 : decode cX1_part 69 = .ok (.iastore, 1) := by decide +kernel
theorem dX1_part_70 : decode cX1_part 70 = .ok (.aload_n 0, 1) := by decide +kernel
theorem dX1_part_71 : decode cX1_part 71 = .ok (.getfield 15, 3) := by decide +kernel
theorem dX1_part_74 : decode cX1_part 74 = .ok (.aload_n 0, 1) := by decide +kernel
theorem dX1_part_75 : decode cX1_part 75 = .ok (.getfield 46, 3) := by decide +kernel
theorem dX1_part_78 : decode cX1_part 78 = .ok (.aload_n 0, 1) := by decide +kernel
theorem dX1_part_79 : decode cX1_part 79 = .ok (.invokevirtual 111, 3) := by decide +kernel
theorem dX1_part_82 : decode cX1_part 82 = .ok (.iastore, 1) := by decide +kernel
theorem dX1_part_83 : decode cX1_part 83 = .ok (.aload_n 0, 1) := by decide +kernel
theorem dX1_part_84 : decode cX1_part 84 = .ok (.getfield 22, 3) := by decide +kernel
theorem dX1_part_87 : decode cX1_part 87 = .ok (.aload_n 0, 1) := by decide +kernel
theorem dX1_part_88 : decode cX1_part 88 = .ok (.getfield 46, 3) := by decide +kernel
theorem dX1_part_91 : decode cX1_part 91 = .ok (.aload_n 0, 1) := by decide +kernel
theorem dX1_part_92 : decode cX1_part 92 = .ok (.getfield 76, 3) := by decide +kernel
theorem dX1_part_95 : decode cX1_part 95 = .ok (.iastore, 1) := by decide +kernel
theorem dX1_part_96 : decode cX1_part 96 = .ok (.aload_n 0, 1) := by decide +kernel
theorem dX1_part_97 : decode cX1_part 97 = .ok (.dup, 1) := by decide +kernel
theorem dX1_part_98 : decode cX1_part 98 = .ok (.getfield 46, 3) := by decide +kernel
theorem dX1_part_101 : decode cX1_part 101 = .ok (.iconst 1, 1) := by decide +kernel
theorem dX1_part_102 : decode cX1_part 102 = .ok (.iadd, 1) := by decide +kernel
theorem dX1_part_103 : decode cX1_part 103 = .ok (.putfield 46, 3) := by decide +kernel
theorem dX1_part_106 : decode cX1_part 106 = .ok (.goto (-96), 3) := by decide +kernel
theorem dX1_part_109 : decode cX1_part 109 = .ok (.return_, 1) := by decide +kernel
theorem dX1_partToken_0 : decode cX1_partToken 0 = .ok (.aload_n 0, 1) := by decide +kernel
theorem dX1_partToken_1 : decode cX1_partToken 1 = .ok (.getfield 104, 3) := by decide +kernel
theorem dX1_partToken_4 : decode cX1_partToken 4 = .ok (.istore_n 1, 1) := by decide +kernel
theorem dX1_partToken_5 : decode cX1_partToken 5 = .ok (.aload_n 0, 1) := by decide +kernel
theorem dX1_partToken_6 : decode cX1_partToken 6 = .ok (.iload_n 1, 1) := by decide +kernel
theorem dX1_partToken_7 : decode cX1_partToken 7 = .ok (.invokevirtual 115, 3) := by decide +kernel
theorem dX1_partToken_10 : decode cX1_partToken 10 = .ok (.ifCond .eq 9, 3) := by decide +kernel
theorem dX1_partToken_13 : decode cX1_partToken 13 = .ok (.aload_n 0, 1) := by decide +kernel
theorem dX1_partToken_14 : decode cX1_partToken 14 = .ok (.iload_n 1, 1) := by decide +kernel
theorem dX1_partToken_15 : decode cX1_partToken 15 = .ok (.invokevirtual 119, 3) := by decide +kernel
theorem dX1_partToken_18 : decode cX1_partToken 18 = .ok (.ireturn, 1) := by decide +kernel
theorem dX1_partToken_19 : decode cX1_partToken 19 = .ok (.aload_n 0, 1) := by decide +kernel
theorem dX1_partToken_20 : decode cX1_partToken 20 = .ok (.iload_n 1, 1) := by decide +kernel
theorem dX1_partToken_21 : decode cX1_partToken 21 = .ok (.invokevirtual 122, 3) := by decide +kernel
theorem dX1_partToken_24 : decode cX1_partToken 24 = .ok (.ifCond .eq 9, 3) := by decide +kernel
theorem dX1_partToken_27 : decode cX1_partToken 27 = .ok (.aload_n 0, 1) := by decide +kernel
theorem dX1_partToken_28 : decode cX1_partToken 28 = .ok (.iload_n 1, 1) := by decide +kernel
theorem dX1_partToken_29 : decode cX1_partToken 29 = .ok (.invokevirtual 125, 3) := by decide +kernel
theorem dX1_partToken_32 : decode cX1_partToken 32 = .ok (.ireturn, 1) := by decide +kernel
theorem dX1_partToken_33 : decode cX1_partToken 33 = .ok (.aload_n 0, 1) := by decide +kernel
theorem dX1_partToken_34 : decode cX1_partToken 34 = .ok (.dup, 1) := by decide +kernel
theorem dX1_partToken_35 : decode cX1_partToken 35 = .ok (.getfield 104, 3) := by decide +kernel
theorem dX1_partToken_38 : decode cX1_partToken 38 = .ok (.iconst 1, 1) := by decide +kernel
theorem dX1_partToken_39 : decode cX1_partToken 39 = .ok (.iadd, 1) := by decide +kernel
theorem dX1_partToken_40 : decode cX1_partToken 40 = .ok (.putfield 104, 3) := by decide +kernel
theorem dX1_partToken_43 : decode cX1_partToken 43 = .ok (.aload_n 0, 1) := by decide +kernel
theorem dX1_partToken_44 : decode cX1_partToken 44 = .ok (.iload_n 1, 1) := by decide +kernel
theorem dX1_partToken_45 : decode cX1_partToken 45 = .ok (.invokevirtual 107, 3) := by decide +kernel
theorem dX1_partToken_48 : decode cX1_partToken 48 = .ok (.bipush 59, 2) := by decide +kernel
theorem dX1_partToken_50 : decode cX1_partToken 50 = .ok (.if_icmp .ne 8, 3) := by decide +kernel
theorem dX1_partToken_53 : decode cX1_partToken 53 = .ok (.bipush 6, 2) := by decide +kernel
theorem dX1_partToken_55 : decode cX1_partToken 55 = .ok (.goto 4, 3) := by decide +kernel
theorem dX1_partToken_58 : decode cX1_partToken 58 = .ok (.iconst 0, 1) := by decide +kernel
theorem dX1_partToken_59 : decode cX1_partToken 59 = .ok (.ireturn, 1) := by decide +kernel
theorem dX1_partWord_0 : decode cX1_partWord 0 = .ok (.aload_n 0, 1) := by decide +kernel
theorem dX1_partWord_1 : decode cX1_partWord 1 = .ok (.getfield 104, 3) := by decide +kernel
theorem dX1_partWord_4 : decode cX1_partWord 4 = .ok (.aload_n 0, 1) := by decide +kernel
theorem dX1_partWord_5 : decode cX1_partWord 5 = .ok (.getfield 31, 3) := by decide +kernel
theorem dX1_partWord_8 : decode cX1_partWord 8 = .ok (.if_icmp .ge 27, 3) := by decide +kernel
theorem dX1_partWord_11 : decode cX1_partWord 11 = .ok (.aload_n 0, 1) := by decide +kernel
theorem dX1_partWord_12 : decode cX1_partWord 12 = .ok (.aload_n 0, 1) := by decide +kernel
theorem dX1_partWord_13 : decode cX1_partWord 13 = .ok (.getfield 104, 3) := by decide +kernel
theorem dX1_partWord_16 : decode cX1_partWord 16 = .ok (.invokevirtual 115, 3) := by decide +kernel
theorem dX1_partWord_19 : decode cX1_partWord 19 = .ok (.ifCond .eq 16, 3) := by decide +kernel
theorem dX1_partWord_22 : decode cX1_partWord 22 = .ok (.aload_n 0, 1) := by decide +kernel
theorem dX1_partWord_23 : decode cX1_partWord 23 = .ok (.dup, 1) := by decide +kernel
theorem dX1_partWord_24 : decode cX1_partWord 24 = .ok (.getfield 104, 3) := by decide +kernel
theorem dX1_partWord_27 : decode cX1_partWord 27 = .ok (.iconst 1, 1) := by decide +kernel
theorem dX1_partWord_28 : decode cX1_partWord 28 = .ok (.iadd, 1) := by decide +kernel
theorem dX1_partWord_29 : decode cX1_partWord 29 = .ok (.putfield 104, 3) := by decide +kernel
theorem dX1_partWord_32 : decode cX1_partWord 32 = .ok (.goto (-32), 3) := by decide +kernel
theorem dX1_partWord_35 : decode cX1_partWord 35 = .ok (.aload_n 0, 1) := by decide +kernel
theorem dX1_partWord_36 : decode cX1_partWord 36 = .ok (.iload_n 1, 1) := by decide +kernel
theorem dX1_partWord_37 : decode cX1_partWord 37 = .ok (.ldc 128, 2) := by decide +kernel
theorem dX1_partWord_39 : decode cX1_partWord 39 = .ok (.invokevirtual 130, 3) := by decide +kernel
theorem dX1_partWord_42 : decode cX1_partWord 42 = .ok (.ifCond .eq 5, 3) := by decide +kernel
theorem dX1_partWord_45 : decode cX1_partWord 45 = .ok (.iconst 1, 1) := by decide +kernel
theorem dX1_partWord_46 : decode cX1_partWord 46 = .ok (.ireturn, 1) := by decide +kernel
theorem dX1_partWord_47 : decode cX1_partWord 47 = .ok (.aload_n 0, 1) := by decide +kernel
theorem dX1_partWord_48 : decode cX1_partWord 48 = .ok (.iload_n 1, 1) := by decide +kernel
theorem dX1_partWord_49 : decode cX1_partWord 49 = .ok (.ldc 134, 2) := by decide +kernel
theorem dX1_partWord_51 : decode cX1_partWord 51 = .ok (.invokevirtual 130, 3) := by decide +kernel
theorem dX1_partWord_54 : decode cX1_partWord 54 = .ok (.ifCond .eq 5, 3) := by decide +kernel
theorem dX1_partWord_57 : decode cX1_partWord 57 = .ok (.iconst 2, 1) := by decide +kernel
theorem dX1_partWord_58 : decode cX1_partWord 58 = .ok (.ireturn, 1) := by decide +kernel
theorem dX1_partWord_59 : decode cX1_partWord 59 = .ok (.aload_n 0, 1) := by decide +kernel
theorem dX1_partWord_60 : decode cX1_partWord 60 = .ok (.iload_n 1, 1) := by decide +kernel
theorem dX1_partWord_61 : decode cX1_partWord 61 = .ok (.ldc 136, 2) := by decide +kernel
theorem dX1_partWord_63 : decode cX1_partWord 63 = .ok (.invokevirtual 130, 3) := by decide +kernel
theorem dX1_partWord_66 : decode cX1_partWord 66 = .ok (.ifCond .eq 5, 3) := by decide +kernel
theorem dX1_partWord_69 : decode cX1_partWord 69 = .ok (.iconst 3, 1) := by decide +kernel
theorem dX1_partWord_70 : decode cX1_partWord 70 = .ok (.ireturn, 1) := by decide +kernel
theorem dX1_partWord_71 : decode cX1_partWord 71 = .ok (.aload_n 0, 1) := by decide +kernel
theorem dX1_partWord_72 : decode cX1_partWord 72 = .ok (.iload_n 1, 1) := by decide +kernel
theorem dX1_partWord_73 : decode cX1_partWord 73 = .ok (.ldc 137, 2) := by decide +kernel
theorem dX1_partWord_75 : decode cX1_partWord 75 = .ok (.invokevirtual 130, 3) := by decide +kernel
theorem dX1_partWord_78 : decode cX1_partWord 78 = .ok (.ifCond .eq 7, 3) := by decide +kernel
theorem dX1_partWord_81 : decode cX1_partWord 81 = .ok (.iconst 4, 1) := by decide +kernel
theorem dX1_partWord_82 : decode cX1_partWord 82 = .ok (.goto 4, 3) := by decide +kernel
theorem dX1_partWord_85 : decode cX1_partWord 85 = .ok (.iconst 0, 1) := by decide +kernel
theorem dX1_partWord_86 : decode cX1_partWord 86 = .ok (.ireturn, 1) := by decide +kernel
theorem dX1_wordIs_0 : decode cX1_wordIs 0 = .ok (.aload_n 0, 1) := by decide +kernel
theorem dX1_wordIs_1 : decode cX1_wordIs 1 = .ok (.getfield 104, 3) := by decide +kernel
theorem dX1_wordIs_4 : decode cX1_wordIs 4 = .ok (.iload_n 1, 1) := by decide +kernel
theorem dX1_wordIs_5 : decode cX1_wordIs 5 = .ok (.isub, 1) := by decide +kernel
theorem dX1_wordIs_6 : decode cX1_wordIs 6 = .ok (.aload_n 2, 1) := by decide +kernel
theorem dX1_wordIs_7 : decode cX1_wordIs 7 = .ok (.invokevirtual 139, 3) := by decide +kernel
theorem dX1_wordIs_10 : decode cX1_wordIs 10 = .ok (.if_icmp .eq 5, 3) := by decide +kernel
theorem dX1_wordIs_13 : decode cX1_wordIs 13 = .ok (.iconst 0, 1) := by decide +kernel
theorem dX1_wordIs_14 : decode cX1_wordIs 14 = .ok (.ireturn, 1) := by decide +kernel
theorem dX1_wordIs_15 : decode cX1_wordIs 15 = .ok (.iconst 0, 1) := by decide +kernel
theorem dX1_wordIs_16 : decode cX1_wordIs 16 = .ok (.istore_n 3, 1) := by decide +kernel
theorem dX1_wordIs_17 : decode cX1_wordIs 17 = .ok (.iload_n 3, 1) := by decide +kernel
theorem dX1_wordIs_18 : decode cX1_wordIs 18 = .ok (.aload_n 2, 1) := by decide +kernel
theorem dX1_wordIs_19 : decode cX1_wordIs 19 = .ok (.invokevirtual 139, 3) := by decide +kernel
theorem dX1_wordIs_22 : decode cX1_wordIs 22 = .ok (.if_icmp .ge 26, 3) := by decide +kernel
theorem dX1_wordIs_25 : decode cX1_wordIs 25 = .ok (.aload_n 0, 1) := by decide +kernel
theorem dX1_wordIs_26 : decode cX1_wordIs 26 = .ok (.iload_n 1, 1) := by decide +kernel
theorem dX1_wordIs_27 : decode cX1_wordIs 27 = .ok (.iload_n 3, 1) := by decide +kernel
theorem dX1_wordIs_28 : decode cX1_wordIs 28 = .ok (.iadd, 1) := by decide +kernel
theorem dX1_wordIs_29 : decode cX1_wordIs 29 = .ok (.invokevirtual 107, 3) := by decide +kernel
theorem dX1_wordIs_32 : decode cX1_wordIs 32 = .ok (.aload_n 2, 1) := by decide +kernel
theorem dX1_wordIs_33 : decode cX1_wordIs 33 = .ok (.iload_n 3, 1) := by decide +kernel
theorem dX1_wordIs_34 : decode cX1_wordIs 34 = .ok (.invokevirtual 143, 3) := by decide +kernel
theorem dX1_wordIs_37 : decode cX1_wordIs 37 = .ok (.if_icmp .eq 5, 3) := by decide +kernel
theorem dX1_wordIs_40 : decode cX1_wordIs 40 = .ok (.iconst 0, 1) := by decide +kernel
theorem dX1_wordIs_41 : decode cX1_wordIs 41 = .ok (.ireturn, 1) := by decide +kernel
theorem dX1_wordIs_42 : decode cX1_wordIs 42 = .ok (.iinc 3 1, 3) := by decide +kernel
theorem dX1_wordIs_45 : decode cX1_wordIs 45 = .ok (.goto (-28), 3) := by decide +kernel
theorem dX1_wordIs_48 : decode cX1_wordIs 48 = .ok (.iconst 1, 1) := by decide +kernel
theorem dX1_wordIs_49 : decode cX1_wordIs 49 = .ok (.ireturn, 1) := by decide +kernel
theorem dX1_partNumber_0 : decode cX1_partNumber 0 = .ok (.aload_n 0, 1) := by decide +kernel
theorem dX1_partNumber_1 : decode cX1_partNumber 1 = .ok (.iconst 0, 1) := by decide +kernel
theorem dX1_partNumber_2 : decode cX1_partNumber 2 = .ok (.putfield 76, 3) := by decide +kernel
theorem dX1_partNumber_5 : decode cX1_partNumber 5 = .ok (.aload_n 0, 1) := by decide +kernel
theorem dX1_partNumber_6 : decode cX1_partNumber 6 = .ok (.getfield 104, 3) := by decide +kernel
theorem dX1_partNumber_9 : decode cX1_partNumber 9 = .ok (.aload_n 0, 1) := by decide +kernel
theorem dX1_partNumber_10 : decode cX1_partNumber 10 = .ok (.getfield 31, 3) := by decide +kernel
theorem dX1_partNumber_13 : decode cX1_partNumber 13 = .ok (.if_icmp .ge 55, 3) := by decide +kernel
theorem dX1_partNumber_16 : decode cX1_partNumber 16 = .ok (.aload_n 0, 1) := by decide +kernel
theorem dX1_partNumber_17 : decode cX1_partNumber 17 = .ok (.aload_n 0, 1) := by decide +kernel
theorem dX1_partNumber_18 : decode cX1_partNumber 18 = .ok (.getfield 104, 3) := by decide +kernel
theorem dX1_partNumber_21 : decode cX1_partNumber 21 = .ok (.invokevirtual 122, 3) := by decide +kernel
theorem dX1_partNumber_24 : decode cX1_partNumber 24 = .ok (.ifCond .eq 44, 3) := by decide +kernel
theorem dX1_partNumber_27 : decode cX1_partNumber 27 = .ok (.aload_n 0, 1) := by decide +kernel
theorem dX1_partNumber_28 : decode cX1_partNumber 28 = .ok (.aload_n 0, 1) := by decide +kernel
theorem dX1_partNumber_29 : decode cX1_partNumber 29 = .ok (.getfield 76, 3) := by decide +kernel
theorem dX1_partNumber_32 : decode cX1_partNumber 32 = .ok (.bipush 10, 2) := by decide +kernel
theorem dX1_partNumber_34 : decode cX1_partNumber 34 = .ok (.imul, 1) := by decide +kernel
theorem dX1_partNumber_35 : decode cX1_partNumber 35 = .ok (.aload_n 0, 1) := by decide +kernel
theorem dX1_partNumber_36 : decode cX1_partNumber 36 = .ok (.aload_n 0, 1) := by decide +kernel
theorem dX1_partNumber_37 : decode cX1_partNumber 37 = .ok (.getfield 104, 3) := by decide +kernel
theorem dX1_partNumber_40 : decode cX1_partNumber 40 = .ok (.invokevirtual 107, 3) := by decide +kernel
theorem dX1_partNumber_43 : decode cX1_partNumber 43 = .ok (.iadd, 1) := by decide +kernel
theorem dX1_partNumber_44 : decode cX1_partNumber 44 = .ok (.bipush 48, 2) := by decide +kernel
theorem dX1_partNumber_46 : decode cX1_partNumber 46 = .ok (.isub, 1) := by decide +kernel
theorem dX1_partNumber_47 : decode cX1_partNumber 47 = .ok (.bipush 100, 2) := by decide +kernel
theorem dX1_partNumber_49 : decode cX1_partNumber 49 = .ok (.invokestatic 25, 3) := by decide +kernel
theorem dX1_partNumber_52 : decode cX1_partNumber 52 = .ok (.putfield 76, 3) := by decide +kernel
theorem dX1_partNumber_55 : decode cX1_partNumber 55 = .ok (.aload_n 0, 1) := by decide +kernel
theorem dX1_partNumber_56 : decode cX1_partNumber 56 = .ok (.dup, 1) := by decide +kernel
theorem dX1_partNumber_57 : decode cX1_partNumber 57 = .ok (.getfield 104, 3) := by decide +kernel
theorem dX1_partNumber_60 : decode cX1_partNumber 60 = .ok (.iconst 1, 1) := by decide +kernel
theorem dX1_partNumber_61 : decode cX1_partNumber 61 = .ok (.iadd, 1) := by decide +kernel
theorem dX1_partNumber_62 : decode cX1_partNumber 62 = .ok (.putfield 104, 3) := by decide +kernel
theorem dX1_partNumber_65 : decode cX1_partNumber 65 = .ok (.goto (-60), 3) := by decide +kernel
theorem dX1_partNumber_68 : decode cX1_partNumber 68 = .ok (.aload_n 0, 1) := by decide +kernel
theorem dX1_partNumber_69 : decode cX1_partNumber 69 = .ok (.getfield 104, 3) := by decide +kernel
theorem dX1_partNumber_72 : decode cX1_partNumber 72 = .ok (.iload_n 1, 1) := by decide +kernel
theorem dX1_partNumber_73 : decode cX1_partNumber 73 = .ok (.isub, 1) := by decide +kernel
theorem dX1_partNumber_74 : decode cX1_partNumber 74 = .ok (.iconst 1, 1) := by decide +kernel
theorem dX1_partNumber_75 : decode cX1_partNumber 75 = .ok (.if_icmp .le 17, 3) := by decide +kernel
theorem dX1_partNumber_78 : decode cX1_partNumber 78 = .ok (.aload_n 0, 1) := by decide +kernel
theorem dX1_partNumber_79 : decode cX1_partNumber 79 = .ok (.iload_n 1, 1) := by decide +kernel
theorem dX1_partNumber_80 : decode cX1_partNumber 80 = .ok (.invokevirtual 107, 3) := by decide +kernel
theorem dX1_partNumber_83 : decode cX1_partNumber 83 = .ok (.bipush 48, 2) := by decide +kernel
theorem dX1_partNumber_85 : decode cX1_partNumber 85 = .ok (.if_icmp .ne 7, 3) := by decide +kernel
theorem dX1_partNumber_88 : decode cX1_partNumber 88 = .ok (.iconst 1, 1) := by decide +kernel
theorem dX1_partNumber_89 : decode cX1_partNumber 89 = .ok (.goto 4, 3) := by decide +kernel
theorem dX1_partNumber_92 : decode cX1_partNumber 92 = .ok (.iconst 0, 1) := by decide +kernel
theorem dX1_partNumber_93 : decode cX1_partNumber 93 = .ok (.istore_n 2, 1) := by decide +kernel
theorem dX1_partNumber_94 : decode cX1_partNumber 94 = .ok (.iload_n 2, 1) := by decide +kernel
theorem dX1_partNumber_95 : decode cX1_partNumber 95 = .ok (.ifCond .ne 12, 3) := by decide +kernel
theorem dX1_partNumber_98 : decode cX1_partNumber 98 = .ok (.aload_n 0, 1) := by decide +kernel
theorem dX1_partNumber_99 : decode cX1_partNumber 99 = .ok (.getfield 76, 3) := by decide +kernel
theorem dX1_partNumber_102 : decode cX1_partNumber 102 = .ok (.bipush 99, 2) := by decide +kernel
theorem dX1_partNumber_104 : decode cX1_partNumber 104 = .ok (.if_icmp .le 7, 3) := by decide +kernel
theorem dX1_partNumber_107 : decode cX1_partNumber 107 = .ok (.iconst 0, 1) := by decide +kernel
theorem dX1_partNumber_108 : decode cX1_partNumber 108 = .ok (.goto 4, 3) := by decide +kernel
theorem dX1_partNumber_111 : decode cX1_partNumber 111 = .ok (.iconst 5, 1) := by decide +kernel
theorem dX1_partNumber_112 : decode cX1_partNumber 112 = .ok (.ireturn, 1) := by decide +kernel
theorem dX1_letterAt_0 : decode cX1_letterAt 0 = .ok (.aload_n 0, 1) := by decide +kernel
theorem dX1_letterAt_1 : decode cX1_letterAt 1 = .ok (.iload_n 1, 1) := by decide +kernel
theorem dX1_letterAt_2 : decode cX1_letterAt 2 = .ok (.invokevirtual 107, 3) := by decide +kernel
theorem dX1_letterAt_5 : decode cX1_letterAt 5 = .ok (.istore_n 2, 1) := by decide +kernel
theorem dX1_letterAt_6 : decode cX1_letterAt 6 = .ok (.iload_n 2, 1) := by decide +kernel
theorem dX1_letterAt_7 : decode cX1_letterAt 7 = .ok (.bipush 97, 2) := by decide +kernel
theorem dX1_letterAt_9 : decode cX1_letterAt 9 = .ok (.if_icmp .lt 13, 3) := by decide +kernel
theorem dX1_letterAt_12 : decode cX1_letterAt 12 = .ok (.iload_n 2, 1) := by decide +kernel
theorem dX1_letterAt_13 : decode cX1_letterAt 13 = .ok (.bipush 122, 2) := by decide +kernel
theorem dX1_letterAt_15 : decode cX1_letterAt 15 = .ok (.if_icmp .gt 7, 3) := by decide +kernel
theorem dX1_letterAt_18 : decode cX1_letterAt 18 = .ok (.iconst 1, 1) := by decide +kernel
theorem dX1_letterAt_19 : decode cX1_letterAt 19 = .ok (.goto 4, 3) := by decide +kernel
theorem dX1_letterAt_22 : decode cX1_letterAt 22 = .ok (.iconst 0, 1) := by decide +kernel
theorem dX1_letterAt_23 : decode cX1_letterAt 23 = .ok (.ireturn, 1) := by decide +kernel
theorem dX1_digitAt_0 : decode cX1_digitAt 0 = .ok (.aload_n 0, 1) := by decide +kernel
theorem dX1_digitAt_1 : decode cX1_digitAt 1 = .ok (.iload_n 1, 1) := by decide +kernel
theorem dX1_digitAt_2 : decode cX1_digitAt 2 = .ok (.invokevirtual 107, 3) := by decide +kernel
theorem dX1_digitAt_5 : decode cX1_digitAt 5 = .ok (.istore_n 2, 1) := by decide +kernel
theorem dX1_digitAt_6 : decode cX1_digitAt 6 = .ok (.iload_n 2, 1) := by decide +kernel
theorem dX1_digitAt_7 : decode cX1_digitAt 7 = .ok (.bipush 48, 2) := by decide +kernel
theorem dX1_digitAt_9 : decode cX1_digitAt 9 = .ok (.if_icmp .lt 13, 3) := by decide +kernel
theorem dX1_digitAt_12 : decode cX1_digitAt 12 = .ok (.iload_n 2, 1) := by decide +kernel
theorem dX1_digitAt_13 : decode cX1_digitAt 13 = .ok (.bipush 57, 2) := by decide +kernel
theorem dX1_digitAt_15 : decode cX1_digitAt 15 = .ok (.if_icmp .gt 7, 3) := by decide +kernel
theorem dX1_digitAt_18 : decode cX1_digitAt 18 = .ok (.iconst 1, 1) := by decide +kernel
theorem dX1_digitAt_19 : decode cX1_digitAt 19 = .ok (.goto 4, 3) := by decide +kernel
theorem dX1_digitAt_22 : decode cX1_digitAt 22 = .ok (.iconst 0, 1) := by decide +kernel
theorem dX1_digitAt_23 : decode cX1_digitAt 23 = .ok (.ireturn, 1) := by decide +kernel
theorem dX1_byteAt_0 : decode cX1_byteAt 0 = .ok (.iload_n 1, 1) := by decide +kernel
theorem dX1_byteAt_1 : decode cX1_byteAt 1 = .ok (.ifCond .lt 24, 3) := by decide +kernel
theorem dX1_byteAt_4 : decode cX1_byteAt 4 = .ok (.iload_n 1, 1) := by decide +kernel
theorem dX1_byteAt_5 : decode cX1_byteAt 5 = .ok (.aload_n 0, 1) := by decide +kernel
theorem dX1_byteAt_6 : decode cX1_byteAt 6 = .ok (.getfield 31, 3) := by decide +kernel
theorem dX1_byteAt_9 : decode cX1_byteAt 9 = .ok (.if_icmp .ge 16, 3) := by decide +kernel
theorem dX1_byteAt_12 : decode cX1_byteAt 12 = .ok (.aload_n 0, 1) := by decide +kernel
theorem dX1_byteAt_13 : decode cX1_byteAt 13 = .ok (.getfield 9, 3) := by decide +kernel
theorem dX1_byteAt_16 : decode cX1_byteAt 16 = .ok (.iload_n 1, 1) := by decide +kernel
theorem dX1_byteAt_17 : decode cX1_byteAt 17 = .ok (.baload, 1) := by decide +kernel
theorem dX1_byteAt_18 : decode cX1_byteAt 18 = .ok (.sipush 255, 3) := by decide +kernel
theorem dX1_byteAt_21 : decode cX1_byteAt 21 = .ok (.iand, 1) := by decide +kernel
theorem dX1_byteAt_22 : decode cX1_byteAt 22 = .ok (.goto 4, 3) := by decide +kernel
theorem dX1_byteAt_25 : decode cX1_byteAt 25 = .ok (.iconst (-1), 1) := by decide +kernel
theorem dX1_byteAt_26 : decode cX1_byteAt 26 = .ok (.ireturn, 1) := by decide +kernel
theorem dX2_init_0 : decode cX2_init 0 = .ok (.aload_n 0, 1) := by decide +kernel
theorem dX2_init_1 : decode cX2_init 1 = .ok (.invokespecial 3, 3) := by decide +kernel
theorem dX2_init_4 : decode cX2_init 4 = .ok (.aload_n 0, 1) := by decide +kernel
theorem dX2_init_5 : decode cX2_init 5 = .ok (.iconst 3, 1) := by decide +kernel
theorem dX2_init_6 : decode cX2_init 6 = .ok (.bipush 16, 2) := by decide +kernel
theorem dX2_init_8 : decode cX2_init 8 = .ok (.multianewarray 9 2, 4) := by decide +kernel
theorem dX2_init_12 : decode cX2_init 12 = .ok (.putfield 11, 3) := by decide +kernel
theorem dX2_init_15 : decode cX2_init 15 = .ok (.aload_n 0, 1) := by decide +kernel
theorem dX2_init_16 : decode cX2_init 16 = .ok (.bipush 6, 2) := by decide +kernel
theorem dX2_init_18 : decode cX2_init 18 = .ok (.newarray .int, 2) := by decide +kernel
theorem dX2_init_20 : decode cX2_init 20 = .ok (.putfield 16, 3) := by decide +kernel
theorem dX2_init_23 : decode cX2_init 23 = .ok (.aload_n 0, 1) := by decide +kernel
theorem dX2_init_24 : decode cX2_init 24 = .ok (.bipush 6, 2) := by decide +kernel
theorem dX2_init_26 : decode cX2_init 26 = .ok (.newarray .int, 2) := by decide +kernel
theorem dX2_init_28 : decode cX2_init 28 = .ok (.putfield 20, 3) := by decide +kernel
theorem dX2_init_31 : decode cX2_init 31 = .ok (.return_, 1) := by decide +kernel
theorem dX2_copyFrom_0 : decode cX2_copyFrom 0 = .ok (.iconst 0, 1) := by decide +kernel
theorem dX2_copyFrom_1 : decode cX2_copyFrom 1 = .ok (.istore_n 2, 1) := by decide +kernel
theorem dX2_copyFrom_2 : decode cX2_copyFrom 2 = .ok (.iload_n 2, 1) := by decide +kernel
theorem dX2_copyFrom_3 : decode cX2_copyFrom 3 = .ok (.iconst 3, 1) := by decide +kernel
theorem dX2_copyFrom_4 : decode cX2_copyFrom 4 = .ok (.if_icmp .ge 28, 3) := by decide +kernel
theorem dX2_copyFrom_7 : decode cX2_copyFrom 7 = .ok (.aload_n 1, 1) := by decide +kernel
theorem dX2_copyFrom_8 : decode cX2_copyFrom 8 = .ok (.getfield 11, 3) := by decide +kernel
theorem dX2_copyFrom_11 : decode cX2_copyFrom 11 = .ok (.iload_n 2, 1) := by decide +kernel
theorem dX2_copyFrom_12 : decode cX2_copyFrom 12 = .ok (.aaload, 1) := by decide +kernel
theorem dX2_copyFrom_13 : decode cX2_copyFrom 13 = .ok (.iconst 0, 1) := by decide +kernel
theorem dX2_copyFrom_14 : decode cX2_copyFrom 14 = .ok (.aload_n 0, 1) := by decide +kernel
theorem dX2_copyFrom_15 : decode cX2_copyFrom 15 = .ok (.getfield 11, 3) := by decide +kernel
theorem dX2_copyFrom_18 : decode cX2_copyFrom 18 = .ok (.iload_n 2, 1) := by decide +kernel
theorem dX2_copyFrom_19 : decode cX2_copyFrom 19 = .ok (.aaload, 1) := by decide +kernel
theorem dX2_copyFrom_20 : decode cX2_copyFrom 20 = .ok (.iconst 0, 1) := by decide +kernel
theorem dX2_copyFrom_21 : decode cX2_copyFrom 21 = .ok (.bipush 16, 2) := by decide +kernel
theorem dX2_copyFrom_23 : decode cX2_copyFrom 23 = .ok (.invokestatic 23, 3) := by decide +kernel
theorem dX2_copyFrom_26 : decode cX2_copyFrom 26 = .ok (.iinc 2 1, 3) := by decide +kernel
theorem dX2_copyFrom_29 : decode cX2_copyFrom 29 = .ok (.goto (-27), 3) := by decide +kernel
theorem dX2_copyFrom_32 : decode cX2_copyFrom 32 = .ok (.aload_n 1, 1) := by decide +kernel
theorem dX2_copyFrom_33 : decode cX2_copyFrom 33 = .ok (.getfield 16, 3) := by decide +kernel
theorem dX2_copyFrom_36 : decode cX2_copyFrom 36 = .ok (.iconst 0, 1) := by decide +kernel
theorem dX2_copyFrom_37 : decode cX2_copyFrom 37 = .ok (.aload_n 0, 1) := by decide +kernel
theorem dX2_copyFrom_38 : decode cX2_copyFrom 38 = .ok (.getfield 16, 3) := by decide +kernel
theorem dX2_copyFrom_41 : decode cX2_copyFrom 41 = .ok (.iconst 0, 1) := by decide +kernel
theorem dX2_copyFrom_42 : decode cX2_copyFrom 42 = .ok (.bipush 6, 2) := by decide +kernel
theorem dX2_copyFrom_44 : decode cX2_copyFrom 44 = .ok (.invokestatic 23, 3) := by decide +kernel
theorem dX2_copyFrom_47 : decode cX2_copyFrom 47 = .ok (.aload_n 1, 1) := by decide +kernel
theorem dX2_copyFrom_48 : decode cX2_copyFrom 48 = .ok (.getfield 20, 3) := by decide +kernel
theorem dX2_copyFrom_51 : decode cX2_copyFrom 51 = .ok (.iconst 0, 1) := by decide +kernel
theorem dX2_copyFrom_52 : decode cX2_copyFrom 52 = .ok (.aload_n 0, 1) := by decide +kernel
theorem dX2_copyFrom_53 : decode cX2_copyFrom 53 = .ok (.getfield 20, 3) := by decide +kernel
theorem dX2_copyFrom_56 : decode cX2_copyFrom 56 = .ok (.iconst 0, 1) := by decide +kernel
theorem dX2_copyFrom_57 : decode cX2_copyFrom 57 = .ok (.bipush 6, 2) := by decide +kernel
theorem dX2_copyFrom_59 : decode cX2_copyFrom 59 = .ok (.invokestatic 23, 3) := by decide +kernel
theorem dX2_copyFrom_62 : decode cX2_copyFrom 62 = .ok (.aload_n 0, 1) := by decide +kernel
theorem dX2_copyFrom_63 : decode cX2_copyFrom 63 = .ok (.aload_n 1, 1) := by decide +kernel
theorem dX2_copyFrom_64 : decode cX2_copyFrom 64 = .ok (.getfield 29, 3) := by decide +kernel
theorem dX2_copyFrom_67 : decode cX2_copyFrom 67 = .ok (.putfield 29, 3) := by decide +kernel
theorem dX2_copyFrom_70 : decode cX2_copyFrom 70 = .ok (.return_, 1) := by decide +kernel
theorem dX2_goStraightUp_0 : decode cX2_goStraightUp 0 = .ok (.iconst 0, 1) := by decide +kernel
theorem dX2_goStraightUp_1 : decode cX2_goStraightUp 1 = .ok (.istore_n 2, 1) := by decide +kernel
theorem dX2_goStraightUp_2 : decode cX2_goStraightUp 2 = .ok (.iload_n 2, 1) := by decide +kernel
theorem dX2_goStraightUp_3 : decode cX2_goStraightUp 3 = .ok (.iconst 3, 1) := by decide +kernel
theorem dX2_goStraightUp_4 : decode cX2_goStraightUp 4 = .ok (.if_icmp .ge 36, 3) := by decide +kernel
theorem dX2_goStraightUp_7 : decode cX2_goStraightUp 7 = .ok (.aload_n 0, 1) := by decide +kernel
theorem dX2_goStraightUp_8 : decode cX2_goStraightUp 8 = .ok (.getfield 11, 3) := by decide +kernel
theorem dX2_goStraightUp_11 : decode cX2_goStraightUp 11 = .ok (.iload_n 2, 1) := by decide +kernel
theorem dX2_goStraightUp_12 : decode cX2_goStraightUp 12 = .ok (.aaload, 1) := by decide +kernel
theorem dX2_goStraightUp_13 : decode cX2_goStraightUp 13 = .ok (.aload_n 1, 1) := by decide +kernel
theorem dX2_goStraightUp_14 : decode cX2_goStraightUp 14 = .ok (.iload_n 2, 1) := by decide +kernel
theorem dX2_goStraightUp_15 : decode cX2_goStraightUp 15 = .ok (.invokevirtual 33, 3) := by decide +kernel
theorem dX2_goStraightUp_18 : decode cX2_goStraightUp 18 = .ok (.ifCond .eq 12, 3) := by decide +kernel
theorem dX2_goStraightUp_21 : decode cX2_goStraightUp 21 = .ok (.aload_n 1, 1) := by decide +kernel
theorem dX2_goStraightUp_22 : decode cX2_goStraightUp 22 = .ok (.getfield 39, 3) := by decide +kernel
theorem dX2_goStraightUp_25 : decode cX2_goStraightUp 25 = .ok (.iload_n 2, 1) := by decide +kernel
theorem dX2_goStraightUp_26 : decode cX2_goStraightUp 26 = .ok (.iaload, 1) := by decide +kernel
theorem dX2_goStraightUp_27 : decode cX2_goStraightUp 27 = .ok (.goto 4, 3) := by decide +kernel
theorem dX2_goStraightUp_30 : decode cX2_goStraightUp 30 = .ok (.iconst 0, 1) := by decide +kernel
theorem dX2_goStraightUp_31 : decode cX2_goStraightUp 31 = .ok (.invokestatic 41, 3) := by decide +kernel
theorem dX2_goStraightUp_34 : decode cX2_goStraightUp 34 = .ok (.iinc 2 1, 3) := by decide +kernel
theorem dX2_goStraightUp_37 : decode cX2_goStraightUp 37 = .ok (.goto (-35), 3) := by decide +kernel
theorem dX2_goStraightUp_40 : decode cX2_goStraightUp 40 = .ok (.return_, 1) := by decide +kernel
theorem dX2_leans_0 : decode cX2_leans 0 = .ok (.iconst 0, 1) := by decide +kernel
theorem dX2_leans_1 : decode cX2_leans 1 = .ok (.istore_n 3, 1) := by decide +kernel
theorem dX2_leans_2 : decode cX2_leans 2 = .ok (.aload_n 1, 1) := by decide +kernel
theorem dX2_leans_3 : decode cX2_leans 3 = .ok (.getfield 47, 3) := by decide +kernel
theorem dX2_leans_6 : decode cX2_leans 6 = .ok (.iload_n 2, 1) := by decide +kernel
theorem dX2_leans_7 : decode cX2_leans 7 = .ok (.iaload, 1) := by decide +kernel
theorem dX2_leans_8 : decode cX2_leans 8 = .ok (.iconst 1, 1) := by decide +kernel
theorem dX2_leans_9 : decode cX2_leans 9 = .ok (.iadd, 1) := by decide +kernel
theorem dX2_leans_10 : decode cX2_leans 10 = .ok (.istore 4, 2) := by decide +kernel
theorem dX2_leans_12 : decode cX2_leans 12 = .ok (.iload 4, 2) := by decide +kernel
theorem dX2_leans_14 : decode cX2_leans 14 = .ok (.aload_n 1, 1) := by decide +kernel
theorem dX2_leans_15 : decode cX2_leans 15 = .ok (.getfield 50, 3) := by decide +kernel
theorem dX2_leans_18 : decode cX2_leans 18 = .ok (.if_icmp .ge 35, 3) := by decide +kernel
theorem dX2_leans_21 : decode cX2_leans 21 = .ok (.aload_n 0, 1) := by decide +kernel
theorem dX2_leans_22 : decode cX2_leans 22 = .ok (.getfield 11, 3) := by decide +kernel
theorem dX2_leans_25 : decode cX2_leans 25 = .ok (.iload_n 2, 1) := by decide +kernel
theorem dX2_leans_26 : decode cX2_leans 26 = .ok (.aaload, 1) := by decide +kernel
theorem dX2_leans_27 : decode cX2_leans 27 = .ok (.iload 4, 2) := by decide +kernel
theorem dX2_leans_29 : decode cX2_leans 29 = .ok (.iaload, 1) := by decide +kernel
theorem dX2_leans_30 : decode cX2_leans 30 = .ok (.aload_n 0, 1) := by decide +kernel
theorem dX2_leans_31 : decode cX2_leans 31 = .ok (.getfield 11, 3) := by decide +kernel
theorem dX2_leans_34 : decode cX2_leans 34 = .ok (.iload_n 2, 1) := by decide +kernel
theorem dX2_leans_35 : decode cX2_leans 35 = .ok (.aaload, 1) := by decide +kernel
theorem dX2_leans_36 : decode cX2_leans 36 = .ok (.iload 4, 2) := by decide +kernel
theorem dX2_leans_38 : decode cX2_leans 38 = .ok (.iconst 1, 1) := by decide +kernel
theorem dX2_leans_39 : decode cX2_leans 39 = .ok (.isub, 1) := by decide +kernel
theorem dX2_leans_40 : decode cX2_leans 40 = .ok (.iaload, 1) := by decide +kernel
theorem dX2_leans_41 : decode cX2_leans 41 = .ok (.if_icmp .eq 6, 3) := by decide +kernel
theorem dX2_leans_44 : decode cX2_leans 44 = .ok (.iinc 3 1, 3) := by decide +kernel
theorem dX2_leans_47 : decode cX2_leans 47 = .ok (.iinc 4 1, 3) := by decide +kernel
theorem dX2_leans_50 : decode cX2_leans 50 = .ok (.goto (-38), 3) := by decide +kernel
theorem dX2_leans_53 : decode cX2_leans 53 = .ok (.iload_n 3, 1) := by decide +kernel
theorem dX2_leans_54 : decode cX2_leans 54 = .ok (.ireturn, 1) := by decide +kernel
theorem dX2_bends_0 : decode cX2_bends 0 = .ok (.iconst 0, 1) := by decide +kernel
theorem dX2_bends_1 : decode cX2_bends 1 = .ok (.istore_n 3, 1) := by decide +kernel
theorem dX2_bends_2 : decode cX2_bends 2 = .ok (.aload_n 1, 1) := by decide +kernel
theorem dX2_bends_3 : decode cX2_bends 3 = .ok (.getfield 47, 3) := by decide +kernel
theorem dX2_bends_6 : decode cX2_bends 6 = .ok (.iload_n 2, 1) := by decide +kernel
theorem dX2_bends_7 : decode cX2_bends 7 = .ok (.iaload, 1) := by decide +kernel
theorem dX2_bends_8 : decode cX2_bends 8 = .ok (.iconst 2, 1) := by decide +kernel
theorem dX2_bends_9 : decode cX2_bends 9 = .ok (.iadd, 1) := by decide +kernel
theorem dX2_bends_10 : decode cX2_bends 10 = .ok (.istore 4, 2) := by decide +kernel
theorem dX2_bends_12 : decode cX2_bends 12 = .ok (.iload 4, 2) := by decide +kernel
theorem dX2_bends_14 : decode cX2_bends 14 = .ok (.aload_n 1, 1) := by decide +kernel
theorem dX2_bends_15 : decode cX2_bends 15 = .ok (.getfield 50, 3) := by decide +kernel
theorem dX2_bends_18 : decode cX2_bends 18 = .ok (.if_icmp .ge 63, 3) := by decide +kernel
theorem dX2_bends_21 : decode cX2_bends 21 = .ok (.aload_n 0, 1) := by decide +kernel
theorem dX2_bends_22 : decode cX2_bends 22 = .ok (.getfield 11, 3) := by decide +kernel
theorem dX2_bends_25 : decode cX2_bends 25 = .ok (.iload_n 2, 1) := by decide +kernel
theorem dX2_bends_26 : decode cX2_bends 26 = .ok (.aaload, 1) := by decide +kernel
theorem dX2_bends_27 : decode cX2_bends 27 = .ok (.iload 4, 2) := by decide +kernel
theorem dX2_bends_29 : decode cX2_bends 29 = .ok (.iconst 1, 1) := by decide +kernel
theorem dX2_bends_30 : decode cX2_bends 30 = .ok (.isub, 1) := by decide +kernel
theorem dX2_bends_31 : decode cX2_bends 31 = .ok (.iaload, 1) := by decide +kernel
theorem dX2_bends_32 : decode cX2_bends 32 = .ok (.aload_n 0, 1) := by decide +kernel
theorem dX2_bends_33 : decode cX2_bends 33 = .ok (.getfield 11, 3) := by decide +kernel
theorem dX2_bends_36 : decode cX2_bends 36 = .ok (.iload_n 2, 1) := by decide +kernel
theorem dX2_bends_37 : decode cX2_bends 37 = .ok (.aaload, 1) := by decide +kernel
theorem dX2_bends_38 : decode cX2_bends 38 = .ok (.iload 4, 2) := by decide +kernel
theorem dX2_bends_40 : decode cX2_bends 40 = .ok (.iconst 2, 1) := by decide +kernel
theorem dX2_bends_41 : decode cX2_bends 41 = .ok (.isub, 1) := by decide +kernel
theorem dX2_bends_42 : decode cX2_bends 42 = .ok (.iaload, 1) := by decide +kernel
theorem dX2_bends_43 : decode cX2_bends 43 = .ok (.isub, 1) := by decide +kernel
theorem dX2_bends_44 : decode cX2_bends 44 = .ok (.istore 5, 2) := by decide +kernel
theorem dX2_bends_46 : decode cX2_bends 46 = .ok (.aload_n 0, 1) := by decide +kernel
theorem dX2_bends_47 : decode cX2_bends 47 = .ok (.getfield 11, 3) := by decide +kernel
theorem dX2_bends_50 : decode cX2_bends 50 = .ok (.iload_n 2, 1) := by decide +kernel
theorem dX2_bends_51 : decode cX2_bends 51 = .ok (.aaload, 1) := by decide +kernel
theorem dX2_bends_52 : decode cX2_bends 52 = .ok (.iload 4, 2) := by decide +kernel
theorem dX2_bends_54 : decode cX2_bends 54 = .ok (.iaload, 1) := by decide +kernel
theorem dX2_bends_55 : decode cX2_bends 55 = .ok (.aload_n 0, 1) := by decide +kernel
theorem dX2_bends_56 : decode cX2_bends 56 = .ok (.getfield 11, 3) := by decide +kernel
theorem dX2_bends_59 : decode cX2_bends 59 = .ok (.iload_n 2, 1) := by decide +kernel
theorem dX2_bends_60 : decode cX2_bends 60 = .ok (.aaload, 1) := by decide +kernel
theorem dX2_bends_61 : decode cX2_bends 61 = .ok (.iload 4, 2) := by decide +kernel
theorem dX2_bends_63 : decode cX2_bends 63 = .ok (.iconst 1, 1) := by decide +kernel
theorem dX2_bends_64 : decode cX2_bends 64 = .ok (.isub, 1) := by decide +kernel
theorem dX2_bends_65 : decode cX2_bends 65 = .ok (.iaload, 1) := by decide +kernel
theorem dX2_bends_66 : decode cX2_bends 66 = .ok (.isub, 1) := by decide +kernel
theorem dX2_bends_67 : decode cX2_bends 67 = .ok (.iload 5, 2) := by decide +kernel
theorem dX2_bends_69 : decode cX2_bends 69 = .ok (.if_icmp .eq 6, 3) := by decide +kernel
theorem dX2_bends_72 : decode cX2_bends 72 = .ok (.iinc 3 1, 3) := by decide +kernel
theorem dX2_bends_75 : decode cX2_bends 75 = .ok (.iinc 4 1, 3) := by decide +kernel
theorem dX2_bends_78 : decode cX2_bends 78 = .ok (.goto (-66), 3) := by decide +kernel
theorem dX2_bends_81 : decode cX2_bends 81 = .ok (.iload_n 3, 1) := by decide +kernel
theorem dX2_bends_82 : decode cX2_bends 82 = .ok (.ireturn, 1) := by decide +kernel
theorem dX2_coldCourses_0 : decode cX2_coldCourses 0 = .ok (.iconst 0, 1) := by decide +kernel
theorem dX2_coldCourses_1 : decode cX2_coldCourses 1 = .ok (.istore_n 3, 1) := by decide +kernel
theorem dX2_coldCourses_2 : decode cX2_coldCourses 2 = .ok (.aload_n 1, 1) := by decide +kernel
theorem dX2_coldCourses_3 : decode cX2_coldCourses 3 = .ok (.getfield 47, 3) := by decide +kernel
theorem dX2_coldCourses_6 : decode cX2_coldCourses 6 = .ok (.iload_n 2, 1) := by decide +kernel
theorem dX2_coldCourses_7 : decode cX2_coldCourses 7 = .ok (.iaload, 1) := by decide +kernel
theorem dX2_coldCourses_8 : decode cX2_coldCourses 8 = .ok (.istore 4, 2) := by decide +kernel
theorem dX2_coldCourses_10 : decode cX2_coldCourses 10 = .ok (.iload 4, 2) := by decide +kernel
theorem dX2_coldCourses_12 : decode cX2_coldCourses 12 = .ok (.aload_n 1, 1) := by decide +kernel
theorem dX2_coldCourses_13 : decode cX2_coldCourses 13 = .ok (.getfield 50, 3) := by decide +kernel
theorem dX2_coldCourses_16 : decode cX2_coldCourses 16 = .ok (.if_icmp .ge 28, 3) := by decide +kernel
theorem dX2_coldCourses_19 : decode cX2_coldCourses 19 = .ok (.aload_n 1, 1) := by decide +kernel
theorem dX2_coldCourses_20 : decode cX2_coldCourses 20 = .ok (.aload_n 0, 1) := by decide +kernel
theorem dX2_coldCourses_21 : decode cX2_coldCourses 21 = .ok (.getfield 11, 3) := by decide +kernel
theorem dX2_coldCourses_24 : decode cX2_coldCourses 24 = .ok (.iload_n 2, 1) := by decide +kernel
theorem dX2_coldCourses_25 : decode cX2_coldCourses 25 = .ok (.aaload, 1) := by decide +kernel
theorem dX2_coldCourses_26 : decode cX2_coldCourses 26 = .ok (.iload 4, 2) := by decide +kernel
theorem dX2_coldCourses_28 : decode cX2_coldCourses 28 = .ok (.iaload, 1) := by decide +kernel
theorem dX2_coldCourses_29 : decode cX2_coldCourses 29 = .ok (.invokevirtual 53, 3) := by decide +kernel
theorem dX2_coldCourses_32 : decode cX2_coldCourses 32 = .ok (.ifCond .eq 6, 3) := by decide +kernel
theorem dX2_coldCourses_35 : decode cX2_coldCourses 35 = .ok (.iinc 3 1, 3) := by decide +kernel
theorem dX2_coldCourses_38 : decode cX2_coldCourses 38 = .ok (.iinc 4 1, 3) := by decide +kernel
theorem dX2_coldCourses_41 : decode cX2_coldCourses 41 = .ok (.goto (-31), 3) := by decide +kernel
theorem dX2_coldCourses_44 : decode cX2_coldCourses 44 = .ok (.iload_n 3, 1) := by decide +kernel
theorem dX2_coldCourses_45 : decode cX2_coldCourses 45 = .ok (.ireturn, 1) := by decide +kernel
theorem dX3_init_0 : decode cX3_init 0 = .ok (.aload_n 0, 1) := by decide +kernel
theorem dX3_init_1 : decode cX3_init 1 = .ok (.invokespecial 3, 3) := by decide +kernel
theorem dX3_init_4 : decode cX3_init 4 = .ok (.aload_n 0, 1) := by decide +kernel
theorem dX3_init_5 : decode cX3_init 5 = .ok (.bipush 17, 2) := by decide +kernel
theorem dX3_init_7 : decode cX3_init 7 = .ok (.sipush 1000, 3) := by decide +kernel
theorem dX3_init_10 : decode cX3_init 10 = .ok (.multianewarray 11 2, 4) := by decide +kernel
theorem dX3_init_14 : decode cX3_init 14 = .ok (.putfield 13, 3) := by decide +kernel
theorem dX3_init_17 : decode cX3_init 17 = .ok (.aload_n 0, 1) := by decide +kernel
theorem dX3_init_18 : decode cX3_init 18 = .ok (.bipush 16, 2) := by decide +kernel
theorem dX3_init_20 : decode cX3_init 20 = .ok (.newarray .int, 2) := by decide +kernel
theorem dX3_init_22 : decode cX3_init 22 = .ok (.putfield 16, 3) := by decide +kernel
theorem dX3_init_25 : decode cX3_init 25 = .ok (.aload_n 0, 1) := by decide +kernel
theorem dX3_init_26 : decode cX3_init 26 = .ok (.iconst 3, 1) := by decide +kernel
theorem dX3_init_27 : decode cX3_init 27 = .ok (.bipush 16, 2) := by decide +kernel
theorem dX3_init_29 : decode cX3_init 29 = .ok (.multianewarray 11 2, 4) := by decide +kernel
theorem dX3_init_33 : decode cX3_init 33 = .ok (.putfield 20, 3) := by decide +kernel
theorem dX3_init_36 : decode cX3_init 36 = .ok (.aload_n 0, 1) := by decide +kernel
theorem dX3_init_37 : decode cX3_init 37 = .ok (.iconst 3, 1) := by decide +kernel
theorem dX3_init_38 : decode cX3_init 38 = .ok (.newarray .int, 2) := by decide +kernel
theorem dX3_init_40 : decode cX3_init 40 = .ok (.putfield 23, 3) := by decide +kernel
theorem dX3_init_43 : decode cX3_init 43 = .ok (.return_, 1) := by decide +kernel
theorem dX3_prepare_0 : decode cX3_prepare 0 = .ok (.aload_n 0, 1) := by decide +kernel
theorem dX3_prepare_1 : decode cX3_prepare 1 = .ok (.aload_n 1, 1) := by decide +kernel
theorem dX3_prepare_2 : decode cX3_prepare 2 = .ok (.getfield 26, 3) := by decide +kernel
theorem dX3_prepare_5 : decode cX3_prepare 5 = .ok (.iconst 1, 1) := by decide +kernel
theorem dX3_prepare_6 : decode cX3_prepare 6 = .ok (.isub, 1) := by decide +kernel
theorem dX3_prepare_7 : decode cX3_prepare 7 = .ok (.putfield 32, 3) := by decide +kernel
theorem dX3_prepare_10 : decode cX3_prepare 10 = .ok (.aload_n 0, 1) := by decide +kernel
theorem dX3_prepare_11 : decode cX3_prepare 11 = .ok (.iload_n 2, 1) := by decide +kernel
theorem dX3_prepare_12 : decode cX3_prepare 12 = .ok (.putfield 35, 3) := by decide +kernel
theorem dX3_prepare_15 : decode cX3_prepare 15 = .ok (.iconst 0, 1) := by decide +kernel
theorem dX3_prepare_16 : decode cX3_prepare 16 = .ok (.istore 4, 2) := by decide +kernel
theorem dX3_prepare_18 : decode cX3_prepare 18 = .ok (.iload 4, 2) := by decide +kernel
theorem dX3_prepare_20 : decode cX3_prepare 20 = .ok (.aload_n 0, 1) := by decide +kernel
theorem dX3_prepare_21 : decode cX3_prepare 21 = .ok (.getfield 32, 3) := by decide +kernel
theorem dX3_prepare_24 : decode cX3_prepare 24 = .ok (.if_icmp .gt 26, 3) := by decide +kernel
theorem dX3_prepare_27 : decode cX3_prepare 27 = .ok (.aload_n 0, 1) := by decide +kernel
theorem dX3_prepare_28 : decode cX3_prepare 28 = .ok (.getfield 16, 3) := by decide +kernel
theorem dX3_prepare_31 : decode cX3_prepare 31 = .ok (.iload 4, 2) := by decide +kernel
theorem dX3_prepare_33 : decode cX3_prepare 33 = .ok (.aload_n 1, 1) := by decide +kernel
theorem dX3_prepare_34 : decode cX3_prepare 34 = .ok (.iload 4, 2) := by decide +kernel
theorem dX3_prepare_36 : decode cX3_prepare 36 = .ok (.invokevirtual 38, 3) := by decide +kernel
theorem dX3_prepare_39 : decode cX3_prepare 39 = .ok (.iload_n 3, 1) := by decide +kernel
theorem dX3_prepare_40 : decode cX3_prepare 40 = .ok (.iconst (-1), 1) := by decide +kernel
theorem dX3_prepare_41 : decode cX3_prepare 41 = .ok (.ixor, 1) := by decide +kernel
theorem dX3_prepare_42 : decode cX3_prepare 42 = .ok (.iand, 1) := by decide +kernel
theorem dX3_prepare_43 : decode cX3_prepare 43 = .ok (.iastore, 1) := by decide +kernel
theorem dX3_prepare_44 : decode cX3_prepare 44 = .ok (.iinc 4 1, 3) := by decide +kernel
theorem dX3_prepare_47 : decode cX3_prepare 47 = .ok (.goto (-29), 3) := by decide +kernel
theorem dX3_prepare_50 : decode cX3_prepare 50 = .ok (.iconst 0, 1) := by decide +kernel
theorem dX3_prepare_51 : decode cX3_prepare 51 = .ok (.istore 4, 2) := by decide +kernel
theorem dX3_prepare_53 : decode cX3_prepare 53 = .ok (.iload 4, 2) := by decide +kernel
theorem dX3_prepare_55 : decode cX3_prepare 55 = .ok (.iconst 3, 1) := by decide +kernel
theorem dX3_prepare_56 : decode cX3_prepare 56 = .ok (.if_icmp .ge 29, 3) := by decide +kernel
theorem dX3_prepare_59 : decode cX3_prepare 59 = .ok (.aload_n 0, 1) := by decide +kernel
theorem dX3_prepare_60 : decode cX3_prepare 60 = .ok (.getfield 23, 3) := by decide +kernel
theorem dX3_prepare_63 : decode cX3_prepare 63 = .ok (.iload 4, 2) := by decide +kernel
theorem dX3_prepare_65 : decode cX3_prepare 65 = .ok (.bipush 16, 2) := by decide +kernel
theorem dX3_prepare_67 : decode cX3_prepare 67 = .ok (.iastore, 1) := by decide +kernel
theorem dX3_prepare_68 : decode cX3_prepare 68 = .ok (.aload_n 0, 1) := by decide +kernel
theorem dX3_prepare_69 : decode cX3_prepare 69 = .ok (.getfield 20, 3) := by decide +kernel
theorem dX3_prepare_72 : decode cX3_prepare 72 = .ok (.iload 4, 2) := by decide +kernel
theorem dX3_prepare_74 : decode cX3_prepare 74 = .ok (.aaload, 1) := by decide +kernel
theorem dX3_prepare_75 : decode cX3_prepare 75 = .ok (.iconst 1, 1) := by decide +kernel
theorem dX3_prepare_76 : decode cX3_prepare 76 = .ok (.invokestatic 42, 3) := by decide +kernel
theorem dX3_prepare_79 : decode cX3_prepare 79 = .ok (.iinc 4 1, 3) := by decide +kernel
theorem dX3_prepare_82 : decode cX3_prepare 82 = .ok (.goto (-29), 3) := by decide +kernel
theorem dX3_prepare_85 : decode cX3_prepare 85 = .ok (.aload_n 0, 1) := by decide +kernel
theorem dX3_prepare_86 : decode cX3_prepare 86 = .ok (.aload_n 0, 1) := by decide +kernel
theorem dX3_prepare_87 : decode cX3_prepare 87 = .ok (.getfield 32, 3) := by decide +kernel
theorem dX3_prepare_90 : decode cX3_prepare 90 = .ok (.iconst 1, 1) := by decide +kernel
theorem dX3_prepare_91 : decode cX3_prepare 91 = .ok (.iadd, 1) := by decide +kernel
theorem dX3_prepare_92 : decode cX3_prepare 92 = .ok (.invokevirtual 48, 3) := by decide +kernel
theorem dX3_prepare_95 : decode cX3_prepare 95 = .ok (.return_, 1) := by decide +kernel
theorem dX3_put_0 : decode cX3_put 0 = .ok (.aload_n 0, 1) := by decide +kernel
theorem dX3_put_1 : decode cX3_put 1 = .ok (.getfield 23, 3) := by decide +kernel
theorem dX3_put_4 : decode cX3_put 4 = .ok (.iload_n 1, 1) := by decide +kernel
theorem dX3_put_5 : decode cX3_put 5 = .ok (.iload_n 2, 1) := by decide +kernel
theorem dX3_put_6 : decode cX3_put 6 = .ok (.iastore, 1) := by decide +kernel
theorem dX3_put_7 : decode cX3_put 7 = .ok (.aload_n 0, 1) := by decide +kernel
theorem dX3_put_8 : decode cX3_put 8 = .ok (.getfield 16, 3) := by decide +kernel
theorem dX3_put_11 : decode cX3_put 11 = .ok (.iload_n 2, 1) := by decide +kernel
theorem dX3_put_12 : decode cX3_put 12 = .ok (.aload_n 0, 1) := by decide +kernel
theorem dX3_put_13 : decode cX3_put 13 = .ok (.getfield 20, 3) := by decide +kernel
theorem dX3_put_16 : decode cX3_put 16 = .ok (.iload_n 1, 1) := by decide +kernel
theorem dX3_put_17 : decode cX3_put 17 = .ok (.aaload, 1) := by decide +kernel
theorem dX3_put_18 : decode cX3_put 18 = .ok (.iload_n 2, 1) := by decide +kernel
theorem dX3_put_19 : decode cX3_put 19 = .ok (.bipush 16, 2) := by decide +kernel
theorem dX3_put_21 : decode cX3_put 21 = .ok (.iload_n 2, 1) := by decide +kernel
theorem dX3_put_22 : decode cX3_put 22 = .ok (.isub, 1) := by decide +kernel
theorem dX3_put_23 : decode cX3_put 23 = .ok (.invokestatic 52, 3) := by decide +kernel
theorem dX3_put_26 : decode cX3_put 26 = .ok (.aload_n 0, 1) := by decide +kernel
theorem dX3_put_27 : decode cX3_put 27 = .ok (.getfield 20, 3) := by decide +kernel
theorem dX3_put_30 : decode cX3_put 30 = .ok (.iload_n 1, 1) := by decide +kernel
theorem dX3_put_31 : decode cX3_put 31 = .ok (.aaload, 1) := by decide +kernel
theorem dX3_put_32 : decode cX3_put 32 = .ok (.iload_n 2, 1) := by decide +kernel
theorem dX3_put_33 : decode cX3_put 33 = .ok (.dup2, 1) := by decide +kernel
theorem dX3_put_34 : decode cX3_put 34 = .ok (.iaload, 1) := by decide +kernel
theorem dX3_put_35 : decode cX3_put 35 = .ok (.iconst 1, 1) := by decide +kernel
theorem dX3_put_36 : decode cX3_put 36 = .ok (.iload_n 3, 1) := by decide +kernel
theorem dX3_put_37 : decode cX3_put 37 = .ok (.ishl, 1) := by decide +kernel
theorem dX3_put_38 : decode cX3_put 38 = .ok (.iand, 1) := by decide +kernel
theorem dX3_put_39 : decode cX3_put 39 = .ok (.iastore, 1) := by decide +kernel
theorem dX3_put_40 : decode cX3_put 40 = .ok (.return_, 1) := by decide +kernel
theorem dX3_fix_0 : decode cX3_fix 0 = .ok (.aload_n 0, 1) := by decide +kernel
theorem dX3_fix_1 : decode cX3_fix 1 = .ok (.getfield 23, 3) := by decide +kernel
theorem dX3_fix_4 : decode cX3_fix 4 = .ok (.iload_n 1, 1) := by decide +kernel
theorem dX3_fix_5 : decode cX3_fix 5 = .ok (.iaload, 1) := by decide +kernel
theorem dX3_fix_6 : decode cX3_fix 6 = .ok (.istore_n 3, 1) := by decide +kernel
theorem dX3_fix_7 : decode cX3_fix 7 = .ok (.iload_n 3, 1) := by decide +kernel
theorem dX3_fix_8 : decode cX3_fix 8 = .ok (.aload_n 0, 1) := by decide +kernel
theorem dX3_fix_9 : decode cX3_fix 9 = .ok (.getfield 32, 3) := by decide +kernel
theorem dX3_fix_12 : decode cX3_fix 12 = .ok (.if_icmp .gt 30, 3) := by decide +kernel
theorem dX3_fix_15 : decode cX3_fix 15 = .ok (.aload_n 0, 1) := by decide +kernel
theorem dX3_fix_16 : decode cX3_fix 16 = .ok (.getfield 20, 3) := by decide +kernel
theorem dX3_fix_19 : decode cX3_fix 19 = .ok (.iload_n 1, 1) := by decide +kernel
theorem dX3_fix_20 : decode cX3_fix 20 = .ok (.aaload, 1) := by decide +kernel
theorem dX3_fix_21 : decode cX3_fix 21 = .ok (.iload_n 3, 1) := by decide +kernel
theorem dX3_fix_22 : decode cX3_fix 22 = .ok (.dup2, 1) := by decide +kernel
theorem dX3_fix_23 : decode cX3_fix 23 = .ok (.iaload, 1) := by decide +kernel
theorem dX3_fix_24 : decode cX3_fix 24 = .ok (.iconst 1, 1) := by decide +kernel
theorem dX3_fix_25 : decode cX3_fix 25 = .ok (.aload_n 2, 1) := by decide +kernel
theorem dX3_fix_26 : decode cX3_fix 26 = .ok (.getfield 58, 3) := by decide +kernel
theorem dX3_fix_29 : decode cX3_fix 29 = .ok (.iload_n 1, 1) := by decide +kernel
theorem dX3_fix_30 : decode cX3_fix 30 = .ok (.aaload, 1) := by decide +kernel
theorem dX3_fix_31 : decode cX3_fix 31 = .ok (.iload_n 3, 1) := by decide +kernel
theorem dX3_fix_32 : decode cX3_fix 32 = .ok (.iaload, 1) := by decide +kernel
theorem dX3_fix_33 : decode cX3_fix 33 = .ok (.ishl, 1) := by decide +kernel
theorem dX3_fix_34 : decode cX3_fix 34 = .ok (.iand, 1) := by decide +kernel
theorem dX3_fix_35 : decode cX3_fix 35 = .ok (.iastore, 1) := by decide +kernel
theorem dX3_fix_36 : decode cX3_fix 36 = .ok (.iinc 3 1, 3) := by decide +kernel
theorem dX3_fix_39 : decode cX3_fix 39 = .ok (.goto (-32), 3) := by decide +kernel
theorem dX3_fix_42 : decode cX3_fix 42 = .ok (.return_, 1) := by decide +kernel
theorem dX3_forgetUpTo_0 : decode cX3_forgetUpTo 0 = .ok (.iconst 0, 1) := by decide +kernel
theorem dX3_forgetUpTo_1 : decode cX3_forgetUpTo 1 = .ok (.istore_n 2, 1) := by decide +kernel
theorem dX3_forgetUpTo_2 : decode cX3_forgetUpTo 2 = .ok (.iload_n 2, 1) := by decide +kernel
theorem dX3_forgetUpTo_3 : decode cX3_forgetUpTo 3 = .ok (.iload_n 1, 1) := by decide +kernel
theorem dX3_forgetUpTo_4 : decode cX3_forgetUpTo 4 = .ok (.if_icmp .gt 25, 3) := by decide +kernel
theorem dX3_forgetUpTo_7 : decode cX3_forgetUpTo 7 = .ok (.iload_n 2, 1) := by decide +kernel
theorem dX3_forgetUpTo_8 : decode cX3_forgetUpTo 8 = .ok (.bipush 16, 2) := by decide +kernel
theorem dX3_forgetUpTo_10 : decode cX3_forgetUpTo 10 = .ok (.if_icmp .gt 19, 3) := by decide +kernel
theorem dX3_forgetUpTo_13 : decode cX3_forgetUpTo 13 = .ok (.aload_n 0, 1) := by decide +kernel
theorem dX3_forgetUpTo_14 : decode cX3_forgetUpTo 14 = .ok (.getfield 13, 3) := by decide +kernel
theorem dX3_forgetUpTo_17 : decode cX3_forgetUpTo 17 = .ok (.iload_n 2, 1) := by decide +kernel
theorem dX3_forgetUpTo_18 : decode cX3_forgetUpTo 18 = .ok (.aaload, 1) := by decide +kernel
theorem dX3_forgetUpTo_19 : decode cX3_forgetUpTo 19 = .ok (.iconst 0, 1) := by decide +kernel
theorem dX3_forgetUpTo_20 : decode cX3_forgetUpTo 20 = .ok (.invokestatic 42, 3) := by decide +kernel
theorem dX3_forgetUpTo_23 : decode cX3_forgetUpTo 23 = .ok (.iinc 2 1, 3) := by decide +kernel
theorem dX3_forgetUpTo_26 : decode cX3_forgetUpTo 26 = .ok (.goto (-24), 3) := by decide +kernel
theorem dX3_forgetUpTo_29 : decode cX3_forgetUpTo 29 = .ok (.return_, 1) := by decide +kernel
theorem dX3_findsAny_0 : decode cX3_findsAny 0 = .ok (.aload_n 0, 1) := by decide +kernel
theorem dX3_findsAny_1 : decode cX3_findsAny 1 = .ok (.iconst 1, 1) := by decide +kernel
theorem dX3_findsAny_2 : decode cX3_findsAny 2 = .ok (.putfield 63, 3) := by decide +kernel
theorem dX3_findsAny_5 : decode cX3_findsAny 5 = .ok (.aload_n 0, 1) := by decide +kernel
theorem dX3_findsAny_6 : decode cX3_findsAny 6 = .ok (.iconst 0, 1) := by decide +kernel
theorem dX3_findsAny_7 : decode cX3_findsAny 7 = .ok (.iconst 0, 1) := by decide +kernel
theorem dX3_findsAny_8 : decode cX3_findsAny 8 = .ok (.invokevirtual 67, 3) := by decide +kernel
theorem dX3_findsAny_11 : decode cX3_findsAny 11 = .ok (.ldc 71, 2) := by decide +kernel
theorem dX3_findsAny_13 : decode cX3_findsAny 13 = .ok (.if_icmp .ge 7, 3) := by decide +kernel
theorem dX3_findsAny_16 : decode cX3_findsAny 16 = .ok (.iconst 1, 1) := by decide +kernel
theorem dX3_findsAny_17 : decode cX3_findsAny 17 = .ok (.goto 4, 3) := by decide +kernel
theorem dX3_findsAny_20 : decode cX3_findsAny 20 = .ok (.iconst 0, 1) := by decide +kernel
theorem dX3_findsAny_21 : decode cX3_findsAny 21 = .ok (.ireturn, 1) := by decide +kernel
theorem dX3_findsBest_0 : decode cX3_findsBest 0 = .ok (.aload_n 0, 1) := by decide +kernel
theorem dX3_findsBest_1 : decode cX3_findsBest 1 = .ok (.iconst 0, 1) := by decide +kernel
theorem dX3_findsBest_2 : decode cX3_findsBest 2 = .ok (.putfield 63, 3) := by decide +kernel
theorem dX3_findsBest_5 : decode cX3_findsBest 5 = .ok (.aload_n 0, 1) := by decide +kernel
theorem dX3_findsBest_6 : decode cX3_findsBest 6 = .ok (.iconst 0, 1) := by decide +kernel
theorem dX3_findsBest_7 : decode cX3_findsBest 7 = .ok (.iconst 0, 1) := by decide +kernel
theorem dX3_findsBest_8 : decode cX3_findsBest 8 = .ok (.invokevirtual 67, 3) := by decide +kernel
theorem dX3_findsBest_11 : decode cX3_findsBest 11 = .ok (.ldc 71, 2) := by decide +kernel
theorem dX3_findsBest_13 : decode cX3_findsBest 13 = .ok (.if_icmp .ge 7, 3) := by decide +kernel
theorem dX3_findsBest_16 : decode cX3_findsBest 16 = .ok (.iconst 1, 1) := by decide +kernel
theorem dX3_findsBest_17 : decode cX3_findsBest 17 = .ok (.goto 4, 3) := by decide +kernel
theorem dX3_findsBest_20 : decode cX3_findsBest 20 = .ok (.iconst 0, 1) := by decide +kernel
theorem dX3_findsBest_21 : decode cX3_findsBest 21 = .ok (.ireturn, 1) := by decide +kernel
theorem dX3_breadth_0 : decode cX3_breadth 0 = .ok (.aload_n 0, 1) := by decide +kernel
theorem dX3_breadth_1 : decode cX3_breadth 1 = .ok (.iconst 0, 1) := by decide +kernel
theorem dX3_breadth_2 : decode cX3_breadth 2 = .ok (.iconst 0, 1) := by decide +kernel
theorem dX3_breadth_3 : decode cX3_breadth 3 = .ok (.invokevirtual 67, 3) := by decide +kernel
theorem dX3_breadth_6 : decode cX3_breadth 6 = .ok (.sipush 1000, 3) := by decide +kernel
theorem dX3_breadth_9 : decode cX3_breadth 9 = .ok (.idiv, 1) := by decide +kernel
theorem dX3_breadth_10 : decode cX3_breadth 10 = .ok (.bipush 100, 2) := by decide +kernel
theorem dX3_breadth_12 : decode cX3_breadth 12 = .ok (.idiv, 1) := by decide +kernel
theorem dX3_breadth_13 : decode cX3_breadth 13 = .ok (.ireturn, 1) := by decide +kernel
theorem dX3_leans_0 : decode cX3_leans 0 = .ok (.aload_n 0, 1) := by decide +kernel
theorem dX3_leans_1 : decode cX3_leans 1 = .ok (.iconst 0, 1) := by decide +kernel
theorem dX3_leans_2 : decode cX3_leans 2 = .ok (.iconst 0, 1) := by decide +kernel
theorem dX3_leans_3 : decode cX3_leans 3 = .ok (.invokevirtual 67, 3) := by decide +kernel
theorem dX3_leans_6 : decode cX3_leans 6 = .ok (.sipush 1000, 3) := by decide +kernel
theorem dX3_leans_9 : decode cX3_leans 9 = .ok (.idiv, 1) := by decide +kernel
theorem dX3_leans_10 : decode cX3_leans 10 = .ok (.bipush 100, 2) := by decide +kernel
theorem dX3_leans_12 : decode cX3_leans 12 = .ok (.irem, 1) := by decide +kernel
theorem dX3_leans_13 : decode cX3_leans 13 = .ok (.ireturn, 1) := by decide +kernel
theorem dX3_tell_0 : decode cX3_tell 0 = .ok (.iconst 0, 1) := by decide +kernel
theorem dX3_tell_1 : decode cX3_tell 1 = .ok (.istore_n 2, 1) := by decide +kernel
theorem dX3_tell_2 : decode cX3_tell 2 = .ok (.iconst 0, 1) := by decide +kernel
theorem dX3_tell_3 : decode cX3_tell 3 = .ok (.istore_n 3, 1) := by decide +kernel
theorem dX3_tell_4 : decode cX3_tell 4 = .ok (.iload_n 3, 1) := by decide +kernel
theorem dX3_tell_5 : decode cX3_tell 5 = .ok (.aload_n 0, 1) := by decide +kernel
theorem dX3_tell_6 : decode cX3_tell 6 = .ok (.getfield 32, 3) := by decide +kernel
theorem dX3_tell_9 : decode cX3_tell 9 = .ok (.if_icmp .gt 73, 3) := by decide +kernel
theorem dX3_tell_12 : decode cX3_tell 12 = .ok (.aload_n 0, 1) := by decide +kernel
theorem dX3_tell_13 : decode cX3_tell 13 = .ok (.iload_n 3, 1) := by decide +kernel
theorem dX3_tell_14 : decode cX3_tell 14 = .ok (.iload_n 2, 1) := by decide +kernel
theorem dX3_tell_15 : decode cX3_tell 15 = .ok (.invokevirtual 67, 3) := by decide +kernel
theorem dX3_tell_18 : decode cX3_tell 18 = .ok (.istore 4, 2) := by decide +kernel
theorem dX3_tell_20 : decode cX3_tell 20 = .ok (.iload 4, 2) := by decide +kernel
theorem dX3_tell_22 : decode cX3_tell 22 = .ok (.ldc 71, 2) := by decide +kernel
theorem dX3_tell_24 : decode cX3_tell 24 = .ok (.if_icmp .lt 4, 3) := by decide +kernel
theorem dX3_tell_27 : decode cX3_tell 27 = .ok (.return_, 1) := by decide +kernel
theorem dX3_tell_28 : decode cX3_tell 28 = .ok (.iload 4, 2) := by decide +kernel
theorem dX3_tell_30 : decode cX3_tell 30 = .ok (.sipush 1000, 3) := by decide +kernel
theorem dX3_tell_33 : decode cX3_tell 33 = .ok (.irem, 1) := by decide +kernel
theorem dX3_tell_34 : decode cX3_tell 34 = .ok (.istore_n 2, 1) := by decide +kernel
theorem dX3_tell_35 : decode cX3_tell 35 = .ok (.iconst 0, 1) := by decide +kernel
theorem dX3_tell_36 : decode cX3_tell 36 = .ok (.istore 5, 2) := by decide +kernel
theorem dX3_tell_38 : decode cX3_tell 38 = .ok (.iload 5, 2) := by decide +kernel
theorem dX3_tell_40 : decode cX3_tell 40 = .ok (.iconst 3, 1) := by decide +kernel
theorem dX3_tell_41 : decode cX3_tell 41 = .ok (.if_icmp .ge 35, 3) := by decide +kernel
theorem dX3_tell_44 : decode cX3_tell 44 = .ok (.iload_n 3, 1) := by decide +kernel
theorem dX3_tell_45 : decode cX3_tell 45 = .ok (.aload_n 0, 1) := by decide +kernel
theorem dX3_tell_46 : decode cX3_tell 46 = .ok (.getfield 23, 3) := by decide +kernel
theorem dX3_tell_49 : decode cX3_tell 49 = .ok (.iload 5, 2) := by decide +kernel
theorem dX3_tell_51 : decode cX3_tell 51 = .ok (.iaload, 1) := by decide +kernel
theorem dX3_tell_52 : decode cX3_tell 52 = .ok (.if_icmp .lt 18, 3) := by decide +kernel
theorem dX3_tell_55 : decode cX3_tell 55 = .ok (.aload_n 1, 1) := by decide +kernel
theorem dX3_tell_56 : decode cX3_tell 56 = .ok (.getfield 58, 3) := by decide +kernel
theorem dX3_tell_59 : decode cX3_tell 59 = .ok (.iload 5, 2) := by decide +kernel
theorem dX3_tell_61 : decode cX3_tell 61 = .ok (.aaload, 1) := by decide +kernel
theorem dX3_tell_62 : decode cX3_tell 62 = .ok (.iload_n 3, 1) := by decide +kernel
theorem dX3_tell_63 : decode cX3_tell 63 = .ok (.iload_n 2, 1) := by decide +kernel
theorem dX3_tell_64 : decode cX3_tell 64 = .ok (.iload 5, 2) := by decide +kernel
theorem dX3_tell_66 : decode cX3_tell 66 = .ok (.invokestatic 72, 3) := by decide +kernel
theorem dX3_tell_69 : decode cX3_tell 69 = .ok (.iastore, 1) := by decide +kernel
theorem dX3_tell_70 : decode cX3_tell 70 = .ok (.iinc 5 1, 3) := by decide +kernel
theorem dX3_tell_73 : decode cX3_tell 73 = .ok (.goto (-35), 3) := by decide +kernel
theorem dX3_tell_76 : decode cX3_tell 76 = .ok (.iinc 3 1, 3) := by decide +kernel
theorem dX3_tell_79 : decode cX3_tell 79 = .ok (.goto (-75), 3) := by decide +kernel
theorem dX3_tell_82 : decode cX3_tell 82 = .ok (.return_, 1) := by decide +kernel
theorem dX3_columnIn_0 : decode cX3_columnIn 0 = .ok (.iload_n 1, 1) := by decide +kernel
theorem dX3_columnIn_1 : decode cX3_columnIn 1 = .ok (.ifCond .ne 8, 3) := by decide +kernel
theorem dX3_columnIn_4 : decode cX3_columnIn 4 = .ok (.iload_n 0, 1) := by decide +kernel
theorem dX3_columnIn_5 : decode cX3_columnIn 5 = .ok (.bipush 100, 2) := by decide +kernel
theorem dX3_columnIn_7 : decode cX3_columnIn 7 = .ok (.idiv, 1) := by decide +kernel
theorem dX3_columnIn_8 : decode cX3_columnIn 8 = .ok (.ireturn, 1) := by decide +kernel
theorem dX3_columnIn_9 : decode cX3_columnIn 9 = .ok (.iload_n 1, 1) := by decide +kernel
theorem dX3_columnIn_10 : decode cX3_columnIn 10 = .ok (.iconst 1, 1) := by decide +kernel
theorem dX3_columnIn_11 : decode cX3_columnIn 11 = .ok (.if_icmp .ne 13, 3) := by decide +kernel
theorem dX3_columnIn_14 : decode cX3_columnIn 14 = .ok (.iload_n 0, 1) := by decide +kernel
theorem dX3_columnIn_15 : decode cX3_columnIn 15 = .ok (.bipush 10, 2) := by decide +kernel
theorem dX3_columnIn_17 : decode cX3_columnIn 17 = .ok (.idiv, 1) := by decide +kernel
theorem dX3_columnIn_18 : decode cX3_columnIn 18 = .ok (.bipush 10, 2) := by decide +kernel
theorem dX3_columnIn_20 : decode cX3_columnIn 20 = .ok (.irem, 1) := by decide +kernel
theorem dX3_columnIn_21 : decode cX3_columnIn 21 = .ok (.goto 7, 3) := by decide +kernel
theorem dX3_columnIn_24 : decode cX3_columnIn 24 = .ok (.iload_n 0, 1) := by decide +kernel
theorem dX3_columnIn_25 : decode cX3_columnIn 25 = .ok (.bipush 10, 2) := by decide +kernel
theorem dX3_columnIn_27 : decode cX3_columnIn 27 = .ok (.irem, 1) := by decide +kernel
theorem dX3_columnIn_28 : decode cX3_columnIn 28 = .ok (.ireturn, 1) := by decide +kernel
theorem dX3_restFrom_0 : decode cX3_restFrom 0 = .ok (.iload_n 1, 1) := by decide +kernel
theorem dX3_restFrom_1 : decode cX3_restFrom 1 = .ok (.ifCond .lt 20, 3) := by decide +kernel
theorem dX3_restFrom_4 : decode cX3_restFrom 4 = .ok (.iload_n 1, 1) := by decide +kernel
theorem dX3_restFrom_5 : decode cX3_restFrom 5 = .ok (.bipush 16, 2) := by decide +kernel
theorem dX3_restFrom_7 : decode cX3_restFrom 7 = .ok (.if_icmp .gt 14, 3) := by decide +kernel
theorem dX3_restFrom_10 : decode cX3_restFrom 10 = .ok (.iload_n 2, 1) := by decide +kernel
theorem dX3_restFrom_11 : decode cX3_restFrom 11 = .ok (.ifCond .lt 10, 3) := by decide +kernel
theorem dX3_restFrom_14 : decode cX3_restFrom 14 = .ok (.iload_n 2, 1) := by decide +kernel
theorem dX3_restFrom_15 : decode cX3_restFrom 15 = .ok (.sipush 1000, 3) := by decide +kernel
theorem dX3_restFrom_18 : decode cX3_restFrom 18 = .ok (.if_icmp .lt 6, 3) := by decide +kernel
theorem dX3_restFrom_21 : decode cX3_restFrom 21 = .ok (.ldc 71, 2) := by decide +kernel
theorem dX3_restFrom_23 : decode cX3_restFrom 23 = .ok (.ireturn, 1) := by decide +kernel
theorem dX3_restFrom_24 : decode cX3_restFrom 24 = .ok (.aload_n 0, 1) := by decide +kernel
theorem dX3_restFrom_25 : decode cX3_restFrom 25 = .ok (.getfield 13, 3) := by decide +kernel
theorem dX3_restFrom_28 : decode cX3_restFrom 28 = .ok (.iload_n 1, 1) := by decide +kernel
theorem dX3_restFrom_29 : decode cX3_restFrom 29 = .ok (.aaload, 1) := by decide +kernel
theorem dX3_restFrom_30 : decode cX3_restFrom 30 = .ok (.iload_n 2, 1) := by decide +kernel
theorem dX3_restFrom_31 : decode cX3_restFrom 31 = .ok (.iaload, 1) := by decide +kernel
theorem dX3_restFrom_32 : decode cX3_restFrom 32 = .ok (.ifCond .ne 54, 3) := by decide +kernel
theorem dX3_restFrom_35 : decode cX3_restFrom 35 = .ok (.aload_n 0, 1) := by decide +kernel
theorem dX3_restFrom_36 : decode cX3_restFrom 36 = .ok (.getfield 13, 3) := by decide +kernel
theorem dX3_restFrom_39 : decode cX3_restFrom 39 = .ok (.iload_n 1, 1) := by decide +kernel
theorem dX3_restFrom_40 : decode cX3_restFrom 40 = .ok (.aaload, 1) := by decide +kernel
theorem dX3_restFrom_41 : decode cX3_restFrom 41 = .ok (.iload_n 2, 1) := by decide +kernel
theorem dX3_restFrom_42 : decode cX3_restFrom 42 = .ok (.iload_n 1, 1) := by decide +kernel
theorem dX3_restFrom_43 : decode cX3_restFrom 43 = .ok (.aload_n 0, 1) := by decide +kernel
theorem dX3_restFrom_44 : decode cX3_restFrom 44 = .ok (.getfield 32, 3) := by decide +kernel
theorem dX3_restFrom_47 : decode cX3_restFrom 47 = .ok (.if_icmp .le 18, 3) := by decide +kernel
theorem dX3_restFrom_50 : decode cX3_restFrom 50 = .ok (.aload_n 0, 1) := by decide +kernel
theorem dX3_restFrom_51 : decode cX3_restFrom 51 = .ok (.iload_n 2, 1) := by decide +kernel
theorem dX3_restFrom_52 : decode cX3_restFrom 52 = .ok (.invokevirtual 75, 3) := by decide +kernel
theorem dX3_restFrom_55 : decode cX3_restFrom 55 = .ok (.bipush 100, 2) := by decide +kernel
theorem dX3_restFrom_57 : decode cX3_restFrom 57 = .ok (.imul, 1) := by decide +kernel
theorem dX3_restFrom_58 : decode cX3_restFrom 58 = .ok (.sipush 1000, 3) := by decide +kernel
theorem dX3_restFrom_61 : decode cX3_restFrom 61 = .ok (.imul, 1) := by decide +kernel
theorem dX3_restFrom_62 : decode cX3_restFrom 62 = .ok (.goto 23, 3) := by decide +kernel
theorem dX3_restFrom_65 : decode cX3_restFrom 65 = .ok (.aload_n 0, 1) := by decide +kernel
theorem dX3_restFrom_66 : decode cX3_restFrom 66 = .ok (.iload_n 1, 1) := by decide +kernel
theorem dX3_restFrom_67 : decode cX3_restFrom 67 = .ok (.iload_n 2, 1) := by decide +kernel
theorem dX3_restFrom_68 : decode cX3_restFrom 68 = .ok (.iconst 0, 1) := by decide +kernel
theorem dX3_restFrom_69 : decode cX3_restFrom 69 = .ok (.invokestatic 72, 3) := by decide +kernel
theorem dX3_restFrom_72 : decode cX3_restFrom 72 = .ok (.iload_n 2, 1) := by decide +kernel
theorem dX3_restFrom_73 : decode cX3_restFrom 73 = .ok (.iconst 1, 1) := by decide +kernel
theorem dX3_restFrom_74 : decode cX3_restFrom 74 = .ok (.invokestatic 72, 3) := by decide +kernel
theorem dX3_restFrom_77 : decode cX3_restFrom 77 = .ok (.iload_n 2, 1) := by decide +kernel
theorem dX3_restFrom_78 : decode cX3_restFrom 78 = .ok (.iconst 2, 1) := by decide +kernel
theorem dX3_restFrom_79 : decode cX3_restFrom 79 = .ok (.invokestatic 72, 3) := by decide +kernel
theorem dX3_restFrom_82 : decode cX3_restFrom 82 = .ok (.invokevirtual 78, 3) := by decide +kernel
theorem dX3_restFrom_85 : decode cX3_restFrom 85 = .ok (.iastore, 1) := by decide +kernel
theorem dX3_restFrom_86 : decode cX3_restFrom 86 = .ok (.aload_n 0, 1) := by decide +kernel
theorem dX3_restFrom_87 : decode cX3_restFrom 87 = .ok (.getfield 13, 3) := by decide +kernel
theorem dX3_restFrom_90 : decode cX3_restFrom 90 = .ok (.iload_n 1, 1) := by decide +kernel
theorem dX3_restFrom_91 : decode cX3_restFrom 91 = .ok (.aaload, 1) := by decide +kernel
theorem dX3_restFrom_92 : decode cX3_restFrom 92 = .ok (.iload_n 2, 1) := by decide +kernel
theorem dX3_restFrom_93 : decode cX3_restFrom 93 = .ok (.iaload, 1) := by decide +kernel
theorem dX3_restFrom_94 : decode cX3_restFrom 94 = .ok (.ireturn, 1) := by decide +kernel
theorem dX3_breadthOf_0 : decode cX3_breadthOf 0 = .ok (.bipush 10, 2) := by decide +kernel
theorem dX3_breadthOf_2 : decode cX3_breadthOf 2 = .ok (.istore_n 2, 1) := by decide +kernel
theorem dX3_breadthOf_3 : decode cX3_breadthOf 3 = .ok (.iconst (-1), 1) := by decide +kernel
theorem dX3_breadthOf_4 : decode cX3_breadthOf 4 = .ok (.istore_n 3, 1) := by decide +kernel
theorem dX3_breadthOf_5 : decode cX3_breadthOf 5 = .ok (.iconst 0, 1) := by decide +kernel
theorem dX3_breadthOf_6 : decode cX3_breadthOf 6 = .ok (.istore 4, 2) := by decide +kernel
theorem dX3_breadthOf_8 : decode cX3_breadthOf 8 = .ok (.iload 4, 2) := by decide +kernel
theorem dX3_breadthOf_10 : decode cX3_breadthOf 10 = .ok (.iconst 3, 1) := by decide +kernel
theorem dX3_breadthOf_11 : decode cX3_breadthOf 11 = .ok (.if_icmp .ge 45, 3) := by decide +kernel
theorem dX3_breadthOf_14 : decode cX3_breadthOf 14 = .ok (.aload_n 0, 1) := by decide +kernel
theorem dX3_breadthOf_15 : decode cX3_breadthOf 15 = .ok (.getfield 32, 3) := by decide +kernel
theorem dX3_breadthOf_18 : decode cX3_breadthOf 18 = .ok (.aload_n 0, 1) := by decide +kernel
theorem dX3_breadthOf_19 : decode cX3_breadthOf 19 = .ok (.getfield 23, 3) := by decide +kernel
theorem dX3_breadthOf_22 : decode cX3_breadthOf 22 = .ok (.iload 4, 2) := by decide +kernel
theorem dX3_breadthOf_24 : decode cX3_breadthOf 24 = .ok (.iaload, 1) := by decide +kernel
theorem dX3_breadthOf_25 : decode cX3_breadthOf 25 = .ok (.if_icmp .lt 25, 3) := by decide +kernel
theorem dX3_breadthOf_28 : decode cX3_breadthOf 28 = .ok (.iload_n 2, 1) := by decide +kernel
theorem dX3_breadthOf_29 : decode cX3_breadthOf 29 = .ok (.iload_n 1, 1) := by decide +kernel
theorem dX3_breadthOf_30 : decode cX3_breadthOf 30 = .ok (.iload 4, 2) := by decide +kernel
theorem dX3_breadthOf_32 : decode cX3_breadthOf 32 = .ok (.invokestatic 72, 3) := by decide +kernel
theorem dX3_breadthOf_35 : decode cX3_breadthOf 35 = .ok (.invokestatic 82, 3) := by decide +kernel
theorem dX3_breadthOf_38 : decode cX3_breadthOf 38 = .ok (.istore_n 2, 1) := by decide +kernel
theorem dX3_breadthOf_39 : decode cX3_breadthOf 39 = .ok (.iload_n 3, 1) := by decide +kernel
theorem dX3_breadthOf_40 : decode cX3_breadthOf 40 = .ok (.iload_n 1, 1) := by decide +kernel
theorem dX3_breadthOf_41 : decode cX3_breadthOf 41 = .ok (.iload 4, 2) := by decide +kernel
theorem dX3_breadthOf_43 : decode cX3_breadthOf 43 = .ok (.invokestatic 72, 3) := by decide +kernel
theorem dX3_breadthOf_46 : decode cX3_breadthOf 46 = .ok (.invokestatic 87, 3) := by decide +kernel
theorem dX3_breadthOf_49 : decode cX3_breadthOf 49 = .ok (.istore_n 3, 1) := by decide +kernel
theorem dX3_breadthOf_50 : decode cX3_breadthOf 50 = .ok (.iinc 4 1, 3) := by decide +kernel
theorem dX3_breadthOf_53 : decode cX3_breadthOf 53 = .ok (.goto (-45), 3) := by decide +kernel
theorem dX3_breadthOf_56 : decode cX3_breadthOf 56 = .ok (.iconst 1, 1) := by decide +kernel
theorem dX3_breadthOf_57 : decode cX3_breadthOf 57 = .ok (.iload_n 3, 1) := by decide +kernel
theorem dX3_breadthOf_58 : decode cX3_breadthOf 58 = .ok (.iload_n 2, 1) := by decide +kernel
theorem dX3_breadthOf_59 : decode cX3_breadthOf 59 = .ok (.isub, 1) := by decide +kernel
theorem dX3_breadthOf_60 : decode cX3_breadthOf 60 = .ok (.iconst 1, 1) := by decide +kernel
theorem dX3_breadthOf_61 : decode cX3_breadthOf 61 = .ok (.iadd, 1) := by decide +kernel
theorem dX3_breadthOf_62 : decode cX3_breadthOf 62 = .ok (.invokestatic 87, 3) := by decide +kernel
theorem dX3_breadthOf_65 : decode cX3_breadthOf 65 = .ok (.ireturn, 1) := by decide +kernel
theorem dX3_leastRest_0 : decode cX3_leastRest 0 = .ok (.ldc 71, 2) := by decide +kernel
theorem dX3_leastRest_2 : decode cX3_leastRest 2 = .ok (.istore 5, 2) := by decide +kernel
theorem dX3_leastRest_4 : decode cX3_leastRest 4 = .ok (.aload_n 0, 1) := by decide +kernel
theorem dX3_leastRest_5 : decode cX3_leastRest 5 = .ok (.iconst 0, 1) := by decide +kernel
theorem dX3_leastRest_6 : decode cX3_leastRest 6 = .ok (.iload_n 1, 1) := by decide +kernel
theorem dX3_leastRest_7 : decode cX3_leastRest 7 = .ok (.iload_n 2, 1) := by decide +kernel
theorem dX3_leastRest_8 : decode cX3_leastRest 8 = .ok (.invokevirtual 90, 3) := by decide +kernel
theorem dX3_leastRest_11 : decode cX3_leastRest 11 = .ok (.istore 6, 2) := by decide +kernel
theorem dX3_leastRest_13 : decode cX3_leastRest 13 = .ok (.aload_n 0, 1) := by decide +kernel
theorem dX3_leastRest_14 : decode cX3_leastRest 14 = .ok (.iconst 1, 1) := by decide +kernel
theorem dX3_leastRest_15 : decode cX3_leastRest 15 = .ok (.iload_n 1, 1) := by decide +kernel
theorem dX3_leastRest_16 : decode cX3_leastRest 16 = .ok (.iload_n 3, 1) := by decide +kernel
theorem dX3_leastRest_17 : decode cX3_leastRest 17 = .ok (.invokevirtual 94, 3) := by decide +kernel
theorem dX3_leastRest_20 : decode cX3_leastRest 20 = .ok (.istore 7, 2) := by decide +kernel
theorem dX3_leastRest_22 : decode cX3_leastRest 22 = .ok (.aload_n 0, 1) := by decide +kernel
theorem dX3_leastRest_23 : decode cX3_leastRest 23 = .ok (.iconst 1, 1) := by decide +kernel
theorem dX3_leastRest_24 : decode cX3_leastRest 24 = .ok (.iload_n 1, 1) := by decide +kernel
theorem dX3_leastRest_25 : decode cX3_leastRest 25 = .ok (.iload_n 3, 1) := by decide +kernel
theorem dX3_leastRest_26 : decode cX3_leastRest 26 = .ok (.invokevirtual 90, 3) := by decide +kernel
theorem dX3_leastRest_29 : decode cX3_leastRest 29 = .ok (.istore 8, 2) := by decide +kernel
theorem dX3_leastRest_31 : decode cX3_leastRest 31 = .ok (.aload_n 0, 1) := by decide +kernel
theorem dX3_leastRest_32 : decode cX3_leastRest 32 = .ok (.iconst 2, 1) := by decide +kernel
theorem dX3_leastRest_33 : decode cX3_leastRest 33 = .ok (.iload_n 1, 1) := by decide +kernel
theorem dX3_leastRest_34 : decode cX3_leastRest 34 = .ok (.iload 4, 2) := by decide +kernel
theorem dX3_leastRest_36 : decode cX3_leastRest 36 = .ok (.invokevirtual 94, 3) := by decide +kernel
theorem dX3_leastRest_39 : decode cX3_leastRest 39 = .ok (.istore 9, 2) := by decide +kernel
theorem dX3_leastRest_41 : decode cX3_leastRest 41 = .ok (.aload_n 0, 1) := by decide +kernel
theorem dX3_leastRest_42 : decode cX3_leastRest 42 = .ok (.iconst 2, 1) := by decide +kernel
theorem dX3_leastRest_43 : decode cX3_leastRest 43 = .ok (.iload_n 1, 1) := by decide +kernel
theorem dX3_leastRest_44 : decode cX3_leastRest 44 = .ok (.iload 4, 2) := by decide +kernel
theorem dX3_leastRest_46 : decode cX3_leastRest 46 = .ok (.invokevirtual 90, 3) := by decide +kernel
theorem dX3_leastRest_49 : decode cX3_leastRest 49 = .ok (.istore 10, 2) := by decide +kernel
theorem dX3_leastRest_51 : decode cX3_leastRest 51 = .ok (.aload_n 0, 1) := by decide +kernel
theorem dX3_leastRest_52 : decode cX3_leastRest 52 = .ok (.iconst 0, 1) := by decide +kernel
theorem dX3_leastRest_53 : decode cX3_leastRest 53 = .ok (.iload_n 1, 1) := by decide +kernel
theorem dX3_leastRest_54 : decode cX3_leastRest 54 = .ok (.iload_n 2, 1) := by decide +kernel
theorem dX3_leastRest_55 : decode cX3_leastRest 55 = .ok (.invokevirtual 94, 3) := by decide +kernel
theorem dX3_leastRest_58 : decode cX3_leastRest 58 = .ok (.istore 11, 2) := by decide +kernel
theorem dX3_leastRest_60 : decode cX3_leastRest 60 = .ok (.iload 11, 2) := by decide +kernel
theorem dX3_leastRest_62 : decode cX3_leastRest 62 = .ok (.iload 6, 2) := by decide +kernel
theorem dX3_leastRest_64 : decode cX3_leastRest 64 = .ok (.if_icmp .gt 258, 3) := by decide +kernel
theorem dX3_leastRest_67 : decode cX3_leastRest 67 = .ok (.aload_n 0, 1) := by decide +kernel
theorem dX3_leastRest_68 : decode cX3_leastRest 68 = .ok (.getfield 20, 3) := by decide +kernel
theorem dX3_leastRest_71 : decode cX3_leastRest 71 = .ok (.iconst 0, 1) := by decide +kernel
theorem dX3_leastRest_72 : decode cX3_leastRest 72 = .ok (.aaload, 1) := by decide +kernel
theorem dX3_leastRest_73 : decode cX3_leastRest 73 = .ok (.iload_n 1, 1) := by decide +kernel
theorem dX3_leastRest_74 : decode cX3_leastRest 74 = .ok (.iaload, 1) := by decide +kernel
theorem dX3_leastRest_75 : decode cX3_leastRest 75 = .ok (.iload 11, 2) := by decide +kernel
theorem dX3_leastRest_77 : decode cX3_leastRest 77 = .ok (.ishr, 1) := by decide +kernel
theorem dX3_leastRest_78 : decode cX3_leastRest 78 = .ok (.iconst 1, 1) := by decide +kernel
theorem dX3_leastRest_79 : decode cX3_leastRest 79 = .ok (.iand, 1) := by decide +kernel
theorem dX3_leastRest_80 : decode cX3_leastRest 80 = .ok (.ifCond .ne 6, 3) := by decide +kernel
theorem dX3_leastRest_83 : decode cX3_leastRest 83 = .ok (.goto 233, 3) := by decide +kernel
theorem dX3_leastRest_86 : decode cX3_leastRest 86 = .ok (.aload_n 0, 1) := by decide +kernel
theorem dX3_leastRest_87 : decode cX3_leastRest 87 = .ok (.getfield 20, 3) := by decide +kernel
theorem dX3_leastRest_90 : decode cX3_leastRest 90 = .ok (.iconst 1, 1) := by decide +kernel
theorem dX3_leastRest_91 : decode cX3_leastRest 91 = .ok (.aaload, 1) := by decide +kernel
theorem dX3_leastRest_92 : decode cX3_leastRest 92 = .ok (.iload_n 1, 1) := by decide +kernel
theorem dX3_leastRest_93 : decode cX3_leastRest 93 = .ok (.iaload, 1) := by decide +kernel
theorem dX3_leastRest_94 : decode cX3_leastRest 94 = .ok (.aload_n 0, 1) := by decide +kernel
theorem dX3_leastRest_95 : decode cX3_leastRest 95 = .ok (.iconst 0, 1) := by decide +kernel
theorem dX3_leastRest_96 : decode cX3_leastRest 96 = .ok (.iload 11, 2) := by decide +kernel
theorem dX3_leastRest_98 : decode cX3_leastRest 98 = .ok (.iconst 1, 1) := by decide +kernel
theorem dX3_leastRest_99 : decode cX3_leastRest 99 = .ok (.iload_n 1, 1) := by decide +kernel
theorem dX3_leastRest_100 : decode cX3_leastRest 100 = .ok (.iload_n 2, 1) := by decide +kernel
theorem dX3_leastRest_101 : decode cX3_leastRest 101 = .ok (.iload_n 3, 1) := by decide +kernel
theorem dX3_leastRest_102 : decode cX3_leastRest 102 = .ok (.if_icmp .ge 7, 3) := by decide +kernel
theorem dX3_leastRest_105 : decode cX3_leastRest 105 = .ok (.iconst 1, 1) := by decide +kernel
theorem dX3_leastRest_106 : decode cX3_leastRest 106 = .ok (.goto 4, 3) := by decide +kernel
theorem dX3_leastRest_109 : decode cX3_leastRest 109 = .ok (.iconst 0, 1) := by decide +kernel
theorem dX3_leastRest_110 : decode cX3_leastRest 110 = .ok (.invokevirtual 97, 3) := by decide +kernel
theorem dX3_leastRest_113 : decode cX3_leastRest 113 = .ok (.iand, 1) := by decide +kernel
theorem dX3_leastRest_114 : decode cX3_leastRest 114 = .ok (.istore 12, 2) := by decide +kernel
theorem dX3_leastRest_116 : decode cX3_leastRest 116 = .ok (.aload_n 0, 1) := by decide +kernel
theorem dX3_leastRest_117 : decode cX3_leastRest 117 = .ok (.getfield 20, 3) := by decide +kernel
theorem dX3_leastRest_120 : decode cX3_leastRest 120 = .ok (.iconst 2, 1) := by decide +kernel
theorem dX3_leastRest_121 : decode cX3_leastRest 121 = .ok (.aaload, 1) := by decide +kernel
theorem dX3_leastRest_122 : decode cX3_leastRest 122 = .ok (.iload_n 1, 1) := by decide +kernel
theorem dX3_leastRest_123 : decode cX3_leastRest 123 = .ok (.iaload, 1) := by decide +kernel
theorem dX3_leastRest_124 : decode cX3_leastRest 124 = .ok (.aload_n 0, 1) := by decide +kernel
theorem dX3_leastRest_125 : decode cX3_leastRest 125 = .ok (.iconst 0, 1) := by decide +kernel
theorem dX3_leastRest_126 : decode cX3_leastRest 126 = .ok (.iload 11, 2) := by decide +kernel
theorem dX3_leastRest_128 : decode cX3_leastRest 128 = .ok (.iconst 2, 1) := by decide +kernel
theorem dX3_leastRest_129 : decode cX3_leastRest 129 = .ok (.iload_n 1, 1) := by decide +kernel
theorem dX3_leastRest_130 : decode cX3_leastRest 130 = .ok (.iload_n 2, 1) := by decide +kernel
theorem dX3_leastRest_131 : decode cX3_leastRest 131 = .ok (.iload 4, 2) := by decide +kernel
theorem dX3_leastRest_133 : decode cX3_leastRest 133 = .ok (.if_icmp .ge 7, 3) := by decide +kernel
theorem dX3_leastRest_136 : decode cX3_leastRest 136 = .ok (.iconst 1, 1) := by decide +kernel
theorem dX3_leastRest_137 : decode cX3_leastRest 137 = .ok (.goto 4, 3) := by decide +kernel
theorem dX3_leastRest_140 : decode cX3_leastRest 140 = .ok (.iconst 0, 1) := by decide +kernel
theorem dX3_leastRest_141 : decode cX3_leastRest 141 = .ok (.invokevirtual 97, 3) := by decide +kernel
theorem dX3_leastRest_144 : decode cX3_leastRest 144 = .ok (.iand, 1) := by decide +kernel
theorem dX3_leastRest_145 : decode cX3_leastRest 145 = .ok (.istore 13, 2) := by decide +kernel
theorem dX3_leastRest_147 : decode cX3_leastRest 147 = .ok (.iload 7, 2) := by decide +kernel
theorem dX3_leastRest_149 : decode cX3_leastRest 149 = .ok (.istore 14, 2) := by decide +kernel
theorem dX3_leastRest_151 : decode cX3_leastRest 151 = .ok (.iload 14, 2) := by decide +kernel
theorem dX3_leastRest_153 : decode cX3_leastRest 153 = .ok (.iload 8, 2) := by decide +kernel
theorem dX3_leastRest_155 : decode cX3_leastRest 155 = .ok (.if_icmp .gt 161, 3) := by decide +kernel
theorem dX3_leastRest_158 : decode cX3_leastRest 158 = .ok (.iload 12, 2) := by decide +kernel
theorem dX3_leastRest_160 : decode cX3_leastRest 160 = .ok (.iload 14, 2) := by decide +kernel
theorem dX3_leastRest_162 : decode cX3_leastRest 162 = .ok (.ishr, 1) := by decide +kernel
theorem dX3_leastRest_163 : decode cX3_leastRest 163 = .ok (.iconst 1, 1) := by decide +kernel
theorem dX3_leastRest_164 : decode cX3_leastRest 164 = .ok (.iand, 1) := by decide +kernel
theorem dX3_leastRest_165 : decode cX3_leastRest 165 = .ok (.ifCond .ne 6, 3) := by decide +kernel
theorem dX3_leastRest_168 : decode cX3_leastRest 168 = .ok (.goto 142, 3) := by decide +kernel
theorem dX3_leastRest_171 : decode cX3_leastRest 171 = .ok (.iload 13, 2) := by decide +kernel
theorem dX3_leastRest_173 : decode cX3_leastRest 173 = .ok (.aload_n 0, 1) := by decide +kernel
theorem dX3_leastRest_174 : decode cX3_leastRest 174 = .ok (.iconst 1, 1) := by decide +kernel
theorem dX3_leastRest_175 : decode cX3_leastRest 175 = .ok (.iload 14, 2) := by decide +kernel
theorem dX3_leastRest_177 : decode cX3_leastRest 177 = .ok (.iconst 2, 1) := by decide +kernel
theorem dX3_leastRest_178 : decode cX3_leastRest 178 = .ok (.iload_n 1, 1) := by decide +kernel
theorem dX3_leastRest_179 : decode cX3_leastRest 179 = .ok (.iload_n 3, 1) := by decide +kernel
theorem dX3_leastRest_180 : decode cX3_leastRest 180 = .ok (.iload 4, 2) := by decide +kernel
theorem dX3_leastRest_182 : decode cX3_leastRest 182 = .ok (.if_icmp .ge 7, 3) := by decide +kernel
theorem dX3_leastRest_185 : decode cX3_leastRest 185 = .ok (.iconst 1, 1) := by decide +kernel
theorem dX3_leastRest_186 : decode cX3_leastRest 186 = .ok (.goto 4, 3) := by decide +kernel
theorem dX3_leastRest_189 : decode cX3_leastRest 189 = .ok (.iconst 0, 1) := by decide +kernel
theorem dX3_leastRest_190 : decode cX3_leastRest 190 = .ok (.invokevirtual 97, 3) := by decide +kernel
theorem dX3_leastRest_193 : decode cX3_leastRest 193 = .ok (.iand, 1) := by decide +kernel
theorem dX3_leastRest_194 : decode cX3_leastRest 194 = .ok (.istore 15, 2) := by decide +kernel
theorem dX3_leastRest_196 : decode cX3_leastRest 196 = .ok (.aload_n 0, 1) := by decide +kernel
theorem dX3_leastRest_197 : decode cX3_leastRest 197 = .ok (.iconst 0, 1) := by decide +kernel
theorem dX3_leastRest_198 : decode cX3_leastRest 198 = .ok (.iload_n 1, 1) := by decide +kernel
theorem dX3_leastRest_199 : decode cX3_leastRest 199 = .ok (.iload 11, 2) := by decide +kernel
theorem dX3_leastRest_201 : decode cX3_leastRest 201 = .ok (.iload_n 2, 1) := by decide +kernel
theorem dX3_leastRest_202 : decode cX3_leastRest 202 = .ok (.isub, 1) := by decide +kernel
theorem dX3_leastRest_203 : decode cX3_leastRest 203 = .ok (.invokevirtual 101, 3) := by decide +kernel
theorem dX3_leastRest_206 : decode cX3_leastRest 206 = .ok (.aload_n 0, 1) := by decide +kernel
theorem dX3_leastRest_207 : decode cX3_leastRest 207 = .ok (.iconst 1, 1) := by decide +kernel
theorem dX3_leastRest_208 : decode cX3_leastRest 208 = .ok (.iload_n 1, 1) := by decide +kernel
theorem dX3_leastRest_209 : decode cX3_leastRest 209 = .ok (.iload 14, 2) := by decide +kernel
theorem dX3_leastRest_211 : decode cX3_leastRest 211 = .ok (.iload_n 3, 1) := by decide +kernel
theorem dX3_leastRest_212 : decode cX3_leastRest 212 = .ok (.isub, 1) := by decide +kernel
theorem dX3_leastRest_213 : decode cX3_leastRest 213 = .ok (.invokevirtual 101, 3) := by decide +kernel
theorem dX3_leastRest_216 : decode cX3_leastRest 216 = .ok (.iadd, 1) := by decide +kernel
theorem dX3_leastRest_217 : decode cX3_leastRest 217 = .ok (.istore 16, 2) := by decide +kernel
theorem dX3_leastRest_219 : decode cX3_leastRest 219 = .ok (.iload 9, 2) := by decide +kernel
theorem dX3_leastRest_221 : decode cX3_leastRest 221 = .ok (.istore 17, 2) := by decide +kernel
theorem dX3_leastRest_223 : decode cX3_leastRest 223 = .ok (.iload 17, 2) := by decide +kernel
theorem dX3_leastRest_225 : decode cX3_leastRest 225 = .ok (.iload 10, 2) := by decide +kernel
theorem dX3_leastRest_227 : decode cX3_leastRest 227 = .ok (.if_icmp .gt 83, 3) := by decide +kernel
theorem dX3_leastRest_230 : decode cX3_leastRest 230 = .ok (.iload 15, 2) := by decide +kernel
theorem dX3_leastRest_232 : decode cX3_leastRest 232 = .ok (.iload 17, 2) := by decide +kernel
theorem dX3_leastRest_234 : decode cX3_leastRest 234 = .ok (.ishr, 1) := by decide +kernel
theorem dX3_leastRest_235 : decode cX3_leastRest 235 = .ok (.iconst 1, 1) := by decide +kernel
theorem dX3_leastRest_236 : decode cX3_leastRest 236 = .ok (.iand, 1) := by decide +kernel
theorem dX3_leastRest_237 : decode cX3_leastRest 237 = .ok (.ifCond .ne 6, 3) := by decide +kernel
theorem dX3_leastRest_240 : decode cX3_leastRest 240 = .ok (.goto 64, 3) := by decide +kernel
theorem dX3_leastRest_243 : decode cX3_leastRest 243 = .ok (.iload 16, 2) := by decide +kernel
theorem dX3_leastRest_245 : decode cX3_leastRest 245 = .ok (.aload_n 0, 1) := by decide +kernel
theorem dX3_leastRest_246 : decode cX3_leastRest 246 = .ok (.iconst 2, 1) := by decide +kernel
theorem dX3_leastRest_247 : decode cX3_leastRest 247 = .ok (.iload_n 1, 1) := by decide +kernel
theorem dX3_leastRest_248 : decode cX3_leastRest 248 = .ok (.iload 17, 2) := by decide +kernel
theorem dX3_leastRest_250 : decode cX3_leastRest 250 = .ok (.iload 4, 2) := by decide +kernel
theorem dX3_leastRest_252 : decode cX3_leastRest 252 = .ok (.isub, 1) := by decide +kernel
theorem dX3_leastRest_253 : decode cX3_leastRest 253 = .ok (.invokevirtual 101, 3) := by decide +kernel
theorem dX3_leastRest_256 : decode cX3_leastRest 256 = .ok (.iadd, 1) := by decide +kernel
theorem dX3_leastRest_257 : decode cX3_leastRest 257 = .ok (.istore 18, 2) := by decide +kernel
theorem dX3_leastRest_259 : decode cX3_leastRest 259 = .ok (.iload 5, 2) := by decide +kernel
theorem dX3_leastRest_261 : decode cX3_leastRest 261 = .ok (.aload_n 0, 1) := by decide +kernel
theorem dX3_leastRest_262 : decode cX3_leastRest 262 = .ok (.iload_n 1, 1) := by decide +kernel
theorem dX3_leastRest_263 : decode cX3_leastRest 263 = .ok (.iload 11, 2) := by decide +kernel
theorem dX3_leastRest_265 : decode cX3_leastRest 265 = .ok (.bipush 100, 2) := by decide +kernel
theorem dX3_leastRest_267 : decode cX3_leastRest 267 = .ok (.imul, 1) := by decide +kernel
theorem dX3_leastRest_268 : decode cX3_leastRest 268 = .ok (.iload 14, 2) := by decide +kernel
theorem dX3_leastRest_270 : decode cX3_leastRest 270 = .ok (.bipush 10, 2) := by decide +kernel
theorem dX3_leastRest_272 : decode cX3_leastRest 272 = .ok (.imul, 1) := by decide +kernel
theorem dX3_leastRest_273 : decode cX3_leastRest 273 = .ok (.iadd, 1) := by decide +kernel
theorem dX3_leastRest_274 : decode cX3_leastRest 274 = .ok (.iload 17, 2) := by decide +kernel
theorem dX3_leastRest_276 : decode cX3_leastRest 276 = .ok (.iadd, 1) := by decide +kernel
theorem dX3_leastRest_277 : decode cX3_leastRest 277 = .ok (.iload 18, 2) := by decide +kernel
theorem dX3_leastRest_279 : decode cX3_leastRest 279 = .ok (.invokevirtual 104, 3) := by decide +kernel
theorem dX3_leastRest_282 : decode cX3_leastRest 282 = .ok (.invokestatic 82, 3) := by decide +kernel
theorem dX3_leastRest_285 : decode cX3_leastRest 285 = .ok (.istore 5, 2) := by decide +kernel
theorem dX3_leastRest_287 : decode cX3_leastRest 287 = .ok (.aload_n 0, 1) := by decide +kernel
theorem dX3_leastRest_288 : decode cX3_leastRest 288 = .ok (.getfield 63, 3) := by decide +kernel
theorem dX3_leastRest_291 : decode cX3_leastRest 291 = .ok (.ifCond .eq 13, 3) := by decide +kernel
theorem dX3_leastRest_294 : decode cX3_leastRest 294 = .ok (.iload 5, 2) := by decide +kernel
theorem dX3_leastRest_296 : decode cX3_leastRest 296 = .ok (.ldc 71, 2) := by decide +kernel
theorem dX3_leastRest_298 : decode cX3_leastRest 298 = .ok (.if_icmp .ge 6, 3) := by decide +kernel
theorem dX3_leastRest_301 : decode cX3_leastRest 301 = .ok (.iload 5, 2) := by decide +kernel
theorem dX3_leastRest_303 : decode cX3_leastRest 303 = .ok (.ireturn, 1) := by decide +kernel
theorem dX3_leastRest_304 : decode cX3_leastRest 304 = .ok (.iinc 17 1, 3) := by decide +kernel
theorem dX3_leastRest_307 : decode cX3_leastRest 307 = .ok (.goto (-84), 3) := by decide +kernel
theorem dX3_leastRest_310 : decode cX3_leastRest 310 = .ok (.iinc 14 1, 3) := by decide +kernel
theorem dX3_leastRest_313 : decode cX3_leastRest 313 = .ok (.goto (-162), 3) := by decide +kernel
theorem dX3_leastRest_316 : decode cX3_leastRest 316 = .ok (.iinc 11 1, 3) := by decide +kernel
theorem dX3_leastRest_319 : decode cX3_leastRest 319 = .ok (.goto (-259), 3) := by decide +kernel
theorem dX3_leastRest_322 : decode cX3_leastRest 322 = .ok (.iload 5, 2) := by decide +kernel
theorem dX3_leastRest_324 : decode cX3_leastRest 324 = .ok (.ireturn, 1) := by decide +kernel
theorem dX3_restBy_0 : decode cX3_restBy 0 = .ok (.aload_n 0, 1) := by decide +kernel
theorem dX3_restBy_1 : decode cX3_restBy 1 = .ok (.iload_n 1, 1) := by decide +kernel
theorem dX3_restBy_2 : decode cX3_restBy 2 = .ok (.iconst 1, 1) := by decide +kernel
theorem dX3_restBy_3 : decode cX3_restBy 3 = .ok (.iadd, 1) := by decide +kernel
theorem dX3_restBy_4 : decode cX3_restBy 4 = .ok (.iload_n 2, 1) := by decide +kernel
theorem dX3_restBy_5 : decode cX3_restBy 5 = .ok (.invokevirtual 67, 3) := by decide +kernel
theorem dX3_restBy_8 : decode cX3_restBy 8 = .ok (.istore 4, 2) := by decide +kernel
theorem dX3_restBy_10 : decode cX3_restBy 10 = .ok (.iload 4, 2) := by decide +kernel
theorem dX3_restBy_12 : decode cX3_restBy 12 = .ok (.ldc 71, 2) := by decide +kernel
theorem dX3_restBy_14 : decode cX3_restBy 14 = .ok (.if_icmp .lt 8, 3) := by decide +kernel
theorem dX3_restBy_17 : decode cX3_restBy 17 = .ok (.ldc 71, 2) := by decide +kernel
theorem dX3_restBy_19 : decode cX3_restBy 19 = .ok (.goto 17, 3) := by decide +kernel
theorem dX3_restBy_22 : decode cX3_restBy 22 = .ok (.iload 4, 2) := by decide +kernel
theorem dX3_restBy_24 : decode cX3_restBy 24 = .ok (.sipush 1000, 3) := by decide +kernel
theorem dX3_restBy_27 : decode cX3_restBy 27 = .ok (.idiv, 1) := by decide +kernel
theorem dX3_restBy_28 : decode cX3_restBy 28 = .ok (.iload_n 3, 1) := by decide +kernel
theorem dX3_restBy_29 : decode cX3_restBy 29 = .ok (.iadd, 1) := by decide +kernel
theorem dX3_restBy_30 : decode cX3_restBy 30 = .ok (.sipush 1000, 3) := by decide +kernel
theorem dX3_restBy_33 : decode cX3_restBy 33 = .ok (.imul, 1) := by decide +kernel
theorem dX3_restBy_34 : decode cX3_restBy 34 = .ok (.iload_n 2, 1) := by decide +kernel
theorem dX3_restBy_35 : decode cX3_restBy 35 = .ok (.iadd, 1) := by decide +kernel
theorem dX3_restBy_36 : decode cX3_restBy 36 = .ok (.ireturn, 1) := by decide +kernel
theorem dX3_lowest_0 : decode cX3_lowest 0 = .ok (.iload_n 2, 1) := by decide +kernel
theorem dX3_lowest_1 : decode cX3_lowest 1 = .ok (.aload_n 0, 1) := by decide +kernel
theorem dX3_lowest_2 : decode cX3_lowest 2 = .ok (.getfield 23, 3) := by decide +kernel
theorem dX3_lowest_5 : decode cX3_lowest 5 = .ok (.iload_n 1, 1) := by decide +kernel
theorem dX3_lowest_6 : decode cX3_lowest 6 = .ok (.iaload, 1) := by decide +kernel
theorem dX3_lowest_7 : decode cX3_lowest 7 = .ok (.if_icmp .le 13, 3) := by decide +kernel
theorem dX3_lowest_10 : decode cX3_lowest 10 = .ok (.iconst 0, 1) := by decide +kernel
theorem dX3_lowest_11 : decode cX3_lowest 11 = .ok (.iload_n 3, 1) := by decide +kernel
theorem dX3_lowest_12 : decode cX3_lowest 12 = .ok (.iconst 1, 1) := by decide +kernel
theorem dX3_lowest_13 : decode cX3_lowest 13 = .ok (.isub, 1) := by decide +kernel
theorem dX3_lowest_14 : decode cX3_lowest 14 = .ok (.invokestatic 87, 3) := by decide +kernel
theorem dX3_lowest_17 : decode cX3_lowest 17 = .ok (.goto 4, 3) := by decide +kernel
theorem dX3_lowest_20 : decode cX3_lowest 20 = .ok (.iconst 0, 1) := by decide +kernel
theorem dX3_lowest_21 : decode cX3_lowest 21 = .ok (.ireturn, 1) := by decide +kernel
theorem dX3_highest_0 : decode cX3_highest 0 = .ok (.iload_n 2, 1) := by decide +kernel
theorem dX3_highest_1 : decode cX3_highest 1 = .ok (.aload_n 0, 1) := by decide +kernel
theorem dX3_highest_2 : decode cX3_highest 2 = .ok (.getfield 23, 3) := by decide +kernel
theorem dX3_highest_5 : decode cX3_highest 5 = .ok (.iload_n 1, 1) := by decide +kernel
theorem dX3_highest_6 : decode cX3_highest 6 = .ok (.iaload, 1) := by decide +kernel
theorem dX3_highest_7 : decode cX3_highest 7 = .ok (.if_icmp .ge 5, 3) := by decide +kernel
theorem dX3_highest_10 : decode cX3_highest 10 = .ok (.iconst 0, 1) := by decide +kernel
theorem dX3_highest_11 : decode cX3_highest 11 = .ok (.ireturn, 1) := by decide +kernel
theorem dX3_highest_12 : decode cX3_highest 12 = .ok (.iload_n 2, 1) := by decide +kernel
theorem dX3_highest_13 : decode cX3_highest 13 = .ok (.aload_n 0, 1) := by decide +kernel
theorem dX3_highest_14 : decode cX3_highest 14 = .ok (.getfield 23, 3) := by decide +kernel
theorem dX3_highest_17 : decode cX3_highest 17 = .ok (.iload_n 1, 1) := by decide +kernel
theorem dX3_highest_18 : decode cX3_highest 18 = .ok (.iaload, 1) := by decide +kernel
theorem dX3_highest_19 : decode cX3_highest 19 = .ok (.if_icmp .le 14, 3) := by decide +kernel
theorem dX3_highest_22 : decode cX3_highest 22 = .ok (.bipush 9, 2) := by decide +kernel
theorem dX3_highest_24 : decode cX3_highest 24 = .ok (.iload_n 3, 1) := by decide +kernel
theorem dX3_highest_25 : decode cX3_highest 25 = .ok (.iconst 1, 1) := by decide +kernel
theorem dX3_highest_26 : decode cX3_highest 26 = .ok (.iadd, 1) := by decide +kernel
theorem dX3_highest_27 : decode cX3_highest 27 = .ok (.invokestatic 82, 3) := by decide +kernel
theorem dX3_highest_30 : decode cX3_highest 30 = .ok (.goto 5, 3) := by decide +kernel
theorem dX3_highest_33 : decode cX3_highest 33 = .ok (.bipush 9, 2) := by decide +kernel
theorem dX3_highest_35 : decode cX3_highest 35 = .ok (.ireturn, 1) := by decide +kernel
theorem dX3_leftBy_0 : decode cX3_leftBy 0 = .ok (.iload 4, 2) := by decide +kernel
theorem dX3_leftBy_2 : decode cX3_leftBy 2 = .ok (.aload_n 0, 1) := by decide +kernel
theorem dX3_leftBy_3 : decode cX3_leftBy 3 = .ok (.getfield 23, 3) := by decide +kernel
theorem dX3_leftBy_6 : decode cX3_leftBy 6 = .ok (.iload_n 1, 1) := by decide +kernel
theorem dX3_leftBy_7 : decode cX3_leftBy 7 = .ok (.iaload, 1) := by decide +kernel
theorem dX3_leftBy_8 : decode cX3_leftBy 8 = .ok (.if_icmp .lt 14, 3) := by decide +kernel
theorem dX3_leftBy_11 : decode cX3_leftBy 11 = .ok (.iload 4, 2) := by decide +kernel
theorem dX3_leftBy_13 : decode cX3_leftBy 13 = .ok (.aload_n 0, 1) := by decide +kernel
theorem dX3_leftBy_14 : decode cX3_leftBy 14 = .ok (.getfield 23, 3) := by decide +kernel
theorem dX3_leftBy_17 : decode cX3_leftBy 17 = .ok (.iload_n 3, 1) := by decide +kernel
theorem dX3_leftBy_18 : decode cX3_leftBy 18 = .ok (.iaload, 1) := by decide +kernel
theorem dX3_leftBy_19 : decode cX3_leftBy 19 = .ok (.if_icmp .ge 7, 3) := by decide +kernel
theorem dX3_leftBy_22 : decode cX3_leftBy 22 = .ok (.sipush 1023, 3) := by decide +kernel
theorem dX3_leftBy_25 : decode cX3_leftBy 25 = .ok (.ireturn, 1) := by decide +kernel
theorem dX3_leftBy_26 : decode cX3_leftBy 26 = .ok (.iconst 1, 1) := by decide +kernel
theorem dX3_leftBy_27 : decode cX3_leftBy 27 = .ok (.iconst 0, 1) := by decide +kernel
theorem dX3_leftBy_28 : decode cX3_leftBy 28 = .ok (.iload_n 2, 1) := by decide +kernel
theorem dX3_leftBy_29 : decode cX3_leftBy 29 = .ok (.aload_n 0, 1) := by decide +kernel
theorem dX3_leftBy_30 : decode cX3_leftBy 30 = .ok (.getfield 35, 3) := by decide +kernel
theorem dX3_leftBy_33 : decode cX3_leftBy 33 = .ok (.isub, 1) := by decide +kernel
theorem dX3_leftBy_34 : decode cX3_leftBy 34 = .ok (.invokestatic 87, 3) := by decide +kernel
theorem dX3_leftBy_37 : decode cX3_leftBy 37 = .ok (.ishl, 1) := by decide +kernel
theorem dX3_leftBy_38 : decode cX3_leftBy 38 = .ok (.iconst 1, 1) := by decide +kernel
theorem dX3_leftBy_39 : decode cX3_leftBy 39 = .ok (.isub, 1) := by decide +kernel
theorem dX3_leftBy_40 : decode cX3_leftBy 40 = .ok (.istore 6, 2) := by decide +kernel
theorem dX3_leftBy_42 : decode cX3_leftBy 42 = .ok (.sipush 1023, 3) := by decide +kernel
theorem dX3_leftBy_45 : decode cX3_leftBy 45 = .ok (.iload_n 2, 1) := by decide +kernel
theorem dX3_leftBy_46 : decode cX3_leftBy 46 = .ok (.aload_n 0, 1) := by decide +kernel
theorem dX3_leftBy_47 : decode cX3_leftBy 47 = .ok (.getfield 35, 3) := by decide +kernel
theorem dX3_leftBy_50 : decode cX3_leftBy 50 = .ok (.iadd, 1) := by decide +kernel
theorem dX3_leftBy_51 : decode cX3_leftBy 51 = .ok (.iconst 1, 1) := by decide +kernel
theorem dX3_leftBy_52 : decode cX3_leftBy 52 = .ok (.iadd, 1) := by decide +kernel
theorem dX3_leftBy_53 : decode cX3_leftBy 53 = .ok (.ishl, 1) := by decide +kernel
theorem dX3_leftBy_54 : decode cX3_leftBy 54 = .ok (.istore 7, 2) := by decide +kernel
theorem dX3_leftBy_56 : decode cX3_leftBy 56 = .ok (.iload 4, 2) := by decide +kernel
theorem dX3_leftBy_58 : decode cX3_leftBy 58 = .ok (.aload_n 0, 1) := by decide +kernel
theorem dX3_leftBy_59 : decode cX3_leftBy 59 = .ok (.getfield 23, 3) := by decide +kernel
theorem dX3_leftBy_62 : decode cX3_leftBy 62 = .ok (.iload_n 1, 1) := by decide +kernel
theorem dX3_leftBy_63 : decode cX3_leftBy 63 = .ok (.iaload, 1) := by decide +kernel
theorem dX3_leftBy_64 : decode cX3_leftBy 64 = .ok (.if_icmp .eq 14, 3) := by decide +kernel
theorem dX3_leftBy_67 : decode cX3_leftBy 67 = .ok (.iload 4, 2) := by decide +kernel
theorem dX3_leftBy_69 : decode cX3_leftBy 69 = .ok (.aload_n 0, 1) := by decide +kernel
theorem dX3_leftBy_70 : decode cX3_leftBy 70 = .ok (.getfield 23, 3) := by decide +kernel
theorem dX3_leftBy_73 : decode cX3_leftBy 73 = .ok (.iload_n 3, 1) := by decide +kernel
theorem dX3_leftBy_74 : decode cX3_leftBy 74 = .ok (.iaload, 1) := by decide +kernel
theorem dX3_leftBy_75 : decode cX3_leftBy 75 = .ok (.if_icmp .ne 9, 3) := by decide +kernel
theorem dX3_leftBy_78 : decode cX3_leftBy 78 = .ok (.iload 6, 2) := by decide +kernel
theorem dX3_leftBy_80 : decode cX3_leftBy 80 = .ok (.iload 7, 2) := by decide +kernel
theorem dX3_leftBy_82 : decode cX3_leftBy 82 = .ok (.ior, 1) := by decide +kernel
theorem dX3_leftBy_83 : decode cX3_leftBy 83 = .ok (.ireturn, 1) := by decide +kernel
theorem dX3_leftBy_84 : decode cX3_leftBy 84 = .ok (.iload 5, 2) := by decide +kernel
theorem dX3_leftBy_86 : decode cX3_leftBy 86 = .ok (.ifCond .eq 8, 3) := by decide +kernel
theorem dX3_leftBy_89 : decode cX3_leftBy 89 = .ok (.iload 7, 2) := by decide +kernel
theorem dX3_leftBy_91 : decode cX3_leftBy 91 = .ok (.goto 5, 3) := by decide +kernel
theorem dX3_leftBy_94 : decode cX3_leftBy 94 = .ok (.iload 6, 2) := by decide +kernel
theorem dX3_leftBy_96 : decode cX3_leftBy 96 = .ok (.ireturn, 1) := by decide +kernel
theorem dX3_lean_0 : decode cX3_lean 0 = .ok (.iload_n 2, 1) := by decide +kernel
theorem dX3_lean_1 : decode cX3_lean 1 = .ok (.aload_n 0, 1) := by decide +kernel
theorem dX3_lean_2 : decode cX3_lean 2 = .ok (.getfield 23, 3) := by decide +kernel
theorem dX3_lean_5 : decode cX3_lean 5 = .ok (.iload_n 1, 1) := by decide +kernel
theorem dX3_lean_6 : decode cX3_lean 6 = .ok (.iaload, 1) := by decide +kernel
theorem dX3_lean_7 : decode cX3_lean 7 = .ok (.if_icmp .le 11, 3) := by decide +kernel
theorem dX3_lean_10 : decode cX3_lean 10 = .ok (.iload_n 3, 1) := by decide +kernel
theorem dX3_lean_11 : decode cX3_lean 11 = .ok (.ifCond .eq 7, 3) := by decide +kernel
theorem dX3_lean_14 : decode cX3_lean 14 = .ok (.iconst 1, 1) := by decide +kernel
theorem dX3_lean_15 : decode cX3_lean 15 = .ok (.goto 4, 3) := by decide +kernel
theorem dX3_lean_18 : decode cX3_lean 18 = .ok (.iconst 0, 1) := by decide +kernel
theorem dX3_lean_19 : decode cX3_lean 19 = .ok (.ireturn, 1) := by decide +kernel
theorem dX4_init_0 : decode cX4_init 0 = .ok (.aload_n 0, 1) := by decide +kernel
theorem dX4_init_1 : decode cX4_init 1 = .ok (.invokespecial 3, 3) := by decide +kernel
theorem dX4_init_4 : decode cX4_init 4 = .ok (.aload_n 0, 1) := by decide +kernel
theorem dX4_init_5 : decode cX4_init 5 = .ok (.bipush 10, 2) := by decide +kernel
theorem dX4_init_7 : decode cX4_init 7 = .ok (.putfield 9, 3) := by decide +kernel
theorem dX4_init_10 : decode cX4_init 10 = .ok (.aload_n 0, 1) := by decide +kernel
theorem dX4_init_11 : decode cX4_init 11 = .ok (.bipush 10, 2) := by decide +kernel
theorem dX4_init_13 : decode cX4_init 13 = .ok (.putfield 15, 3) := by decide +kernel
theorem dX4_init_16 : decode cX4_init 16 = .ok (.aload_n 0, 1) := by decide +kernel
theorem dX4_init_17 : decode cX4_init 17 = .ok (.bipush 16, 2) := by decide +kernel
theorem dX4_init_19 : decode cX4_init 19 = .ok (.newarray .int, 2) := by decide +kernel
theorem dX4_init_21 : decode cX4_init 21 = .ok (.putfield 18, 3) := by decide +kernel
theorem dX4_init_24 : decode cX4_init 24 = .ok (.aload_n 0, 1) := by decide +kernel
theorem dX4_init_25 : decode cX4_init 25 = .ok (.iconst 3, 1) := by decide +kernel
theorem dX4_init_26 : decode cX4_init 26 = .ok (.newarray .int, 2) := by decide +kernel
theorem dX4_init_28 : decode cX4_init 28 = .ok (.putfield 22, 3) := by decide +kernel
theorem dX4_init_31 : decode cX4_init 31 = .ok (.aload_n 0, 1) := by decide +kernel
theorem dX4_init_32 : decode cX4_init 32 = .ok (.iconst 3, 1) := by decide +kernel
theorem dX4_init_33 : decode cX4_init 33 = .ok (.newarray .int, 2) := by decide +kernel
theorem dX4_init_35 : decode cX4_init 35 = .ok (.putfield 25, 3) := by decide +kernel
theorem dX4_init_38 : decode cX4_init 38 = .ok (.aload_n 0, 1) := by decide +kernel
theorem dX4_init_39 : decode cX4_init 39 = .ok (.iconst 3, 1) := by decide +kernel
theorem dX4_init_40 : decode cX4_init 40 = .ok (.newarray .int, 2) := by decide +kernel
theorem dX4_init_42 : decode cX4_init 42 = .ok (.putfield 28, 3) := by decide +kernel
theorem dX4_init_45 : decode cX4_init 45 = .ok (.return_, 1) := by decide +kernel
theorem dX4_reset_0 : decode cX4_reset 0 = .ok (.aload_n 0, 1) := by decide +kernel
theorem dX4_reset_1 : decode cX4_reset 1 = .ok (.bipush 10, 2) := by decide +kernel
theorem dX4_reset_3 : decode cX4_reset 3 = .ok (.putfield 9, 3) := by decide +kernel
theorem dX4_reset_6 : decode cX4_reset 6 = .ok (.aload_n 0, 1) := by decide +kernel
theorem dX4_reset_7 : decode cX4_reset 7 = .ok (.bipush 10, 2) := by decide +kernel
theorem dX4_reset_9 : decode cX4_reset 9 = .ok (.putfield 15, 3) := by decide +kernel
theorem dX4_reset_12 : decode cX4_reset 12 = .ok (.aload_n 0, 1) := by decide +kernel
theorem dX4_reset_13 : decode cX4_reset 13 = .ok (.iconst 0, 1) := by decide +kernel
theorem dX4_reset_14 : decode cX4_reset 14 = .ok (.putfield 31, 3) := by decide +kernel
theorem dX4_reset_17 : decode cX4_reset 17 = .ok (.aload_n 0, 1) := by decide +kernel
theorem dX4_reset_18 : decode cX4_reset 18 = .ok (.iconst 0, 1) := by decide +kernel
theorem dX4_reset_19 : decode cX4_reset 19 = .ok (.putfield 34, 3) := by decide +kernel
theorem dX4_reset_22 : decode cX4_reset 22 = .ok (.aload_n 0, 1) := by decide +kernel
theorem dX4_reset_23 : decode cX4_reset 23 = .ok (.getfield 18, 3) := by decide +kernel
theorem dX4_reset_26 : decode cX4_reset 26 = .ok (.iconst 0, 1) := by decide +kernel
theorem dX4_reset_27 : decode cX4_reset 27 = .ok (.invokestatic 37, 3) := by decide +kernel
theorem dX4_reset_30 : decode cX4_reset 30 = .ok (.return_, 1) := by decide +kernel
theorem dX4_copyFrom_0 : decode cX4_copyFrom 0 = .ok (.aload_n 0, 1) := by decide +kernel
theorem dX4_copyFrom_1 : decode cX4_copyFrom 1 = .ok (.aload_n 1, 1) := by decide +kernel
theorem dX4_copyFrom_2 : decode cX4_copyFrom 2 = .ok (.getfield 9, 3) := by decide +kernel
theorem dX4_copyFrom_5 : decode cX4_copyFrom 5 = .ok (.putfield 9, 3) := by decide +kernel
theorem dX4_copyFrom_8 : decode cX4_copyFrom 8 = .ok (.aload_n 0, 1) := by decide +kernel
theorem dX4_copyFrom_9 : decode cX4_copyFrom 9 = .ok (.aload_n 1, 1) := by decide +kernel
theorem dX4_copyFrom_10 : decode cX4_copyFrom 10 = .ok (.getfield 15, 3) := by decide +kernel
theorem dX4_copyFrom_13 : decode cX4_copyFrom 13 = .ok (.putfield 15, 3) := by decide +kernel
theorem dX4_copyFrom_16 : decode cX4_copyFrom 16 = .ok (.aload_n 0, 1) := by decide +kernel
theorem dX4_copyFrom_17 : decode cX4_copyFrom 17 = .ok (.aload_n 1, 1) := by decide +kernel
theorem dX4_copyFrom_18 : decode cX4_copyFrom 18 = .ok (.getfield 31, 3) := by decide +kernel
theorem dX4_copyFrom_21 : decode cX4_copyFrom 21 = .ok (.putfield 31, 3) := by decide +kernel
theorem dX4_copyFrom_24 : decode cX4_copyFrom 24 = .ok (.aload_n 0, 1) := by decide +kernel
theorem dX4_copyFrom_25 : decode cX4_copyFrom 25 = .ok (.aload_n 1, 1) := by decide +kernel
theorem dX4_copyFrom_26 : decode cX4_copyFrom 26 = .ok (.getfield 34, 3) := by decide +kernel
theorem dX4_copyFrom_29 : decode cX4_copyFrom 29 = .ok (.putfield 34, 3) := by decide +kernel
theorem dX4_copyFrom_32 : decode cX4_copyFrom 32 = .ok (.aload_n 1, 1) := by decide +kernel
theorem dX4_copyFrom_33 : decode cX4_copyFrom 33 = .ok (.getfield 18, 3) := by decide +kernel
theorem dX4_copyFrom_36 : decode cX4_copyFrom 36 = .ok (.iconst 0, 1) := by decide +kernel
theorem dX4_copyFrom_37 : decode cX4_copyFrom 37 = .ok (.aload_n 0, 1) := by decide +kernel
theorem dX4_copyFrom_38 : decode cX4_copyFrom 38 = .ok (.getfield 18, 3) := by decide +kernel
theorem dX4_copyFrom_41 : decode cX4_copyFrom 41 = .ok (.iconst 0, 1) := by decide +kernel
theorem dX4_copyFrom_42 : decode cX4_copyFrom 42 = .ok (.bipush 16, 2) := by decide +kernel
theorem dX4_copyFrom_44 : decode cX4_copyFrom 44 = .ok (.invokestatic 43, 3) := by decide +kernel
theorem dX4_copyFrom_47 : decode cX4_copyFrom 47 = .ok (.aload_n 1, 1) := by decide +kernel
theorem dX4_copyFrom_48 : decode cX4_copyFrom 48 = .ok (.getfield 22, 3) := by decide +kernel
theorem dX4_copyFrom_51 : decode cX4_copyFrom 51 = .ok (.iconst 0, 1) := by decide +kernel
theorem dX4_copyFrom_52 : decode cX4_copyFrom 52 = .ok (.aload_n 0, 1) := by decide +kernel
theorem dX4_copyFrom_53 : decode cX4_copyFrom 53 = .ok (.getfield 22, 3) := by decide +kernel
theorem dX4_copyFrom_56 : decode cX4_copyFrom 56 = .ok (.iconst 0, 1) := by decide +kernel
theorem dX4_copyFrom_57 : decode cX4_copyFrom 57 = .ok (.iconst 3, 1) := by decide +kernel
theorem dX4_copyFrom_58 : decode cX4_copyFrom 58 = .ok (.invokestatic 43, 3) := by decide +kernel
theorem dX4_copyFrom_61 : decode cX4_copyFrom 61 = .ok (.aload_n 1, 1) := by decide +kernel
theorem dX4_copyFrom_62 : decode cX4_copyFrom 62 = .ok (.getfield 25, 3) := by decide +kernel
theorem dX4_copyFrom_65 : decode cX4_copyFrom 65 = .ok (.iconst 0, 1) := by decide +kernel
theorem dX4_copyFrom_66 : decode cX4_copyFrom 66 = .ok (.aload_n 0, 1) := by decide +kernel
theorem dX4_copyFrom_67 : decode cX4_copyFrom 67 = .ok (.getfield 25, 3) := by decide +kernel
theorem dX4_copyFrom_70 : decode cX4_copyFrom 70 = .ok (.iconst 0, 1) := by decide +kernel
theorem dX4_copyFrom_71 : decode cX4_copyFrom 71 = .ok (.iconst 3, 1) := by decide +kernel
theorem dX4_copyFrom_72 : decode cX4_copyFrom 72 = .ok (.invokestatic 43, 3) := by decide +kernel
theorem dX4_copyFrom_75 : decode cX4_copyFrom 75 = .ok (.aload_n 1, 1) := by decide +kernel
theorem dX4_copyFrom_76 : decode cX4_copyFrom 76 = .ok (.getfield 28, 3) := by decide +kernel
theorem dX4_copyFrom_79 : decode cX4_copyFrom 79 = .ok (.iconst 0, 1) := by decide +kernel
theorem dX4_copyFrom_80 : decode cX4_copyFrom 80 = .ok (.aload_n 0, 1) := by decide +kernel
theorem dX4_copyFrom_81 : decode cX4_copyFrom 81 = .ok (.getfield 28, 3) := by decide +kernel
theorem dX4_copyFrom_84 : decode cX4_copyFrom 84 = .ok (.iconst 0, 1) := by decide +kernel
theorem dX4_copyFrom_85 : decode cX4_copyFrom 85 = .ok (.iconst 3, 1) := by decide +kernel
theorem dX4_copyFrom_86 : decode cX4_copyFrom 86 = .ok (.invokestatic 43, 3) := by decide +kernel
theorem dX4_copyFrom_89 : decode cX4_copyFrom 89 = .ok (.return_, 1) := by decide +kernel
theorem dX4_hasCourse_0 : decode cX4_hasCourse 0 = .ok (.iload_n 1, 1) := by decide +kernel
theorem dX4_hasCourse_1 : decode cX4_hasCourse 1 = .ok (.ifCond .lt 15, 3) := by decide +kernel
theorem dX4_hasCourse_4 : decode cX4_hasCourse 4 = .ok (.iload_n 1, 1) := by decide +kernel
theorem dX4_hasCourse_5 : decode cX4_hasCourse 5 = .ok (.aload_n 0, 1) := by decide +kernel
theorem dX4_hasCourse_6 : decode cX4_hasCourse 6 = .ok (.getfield 15, 3) := by decide +kernel
theorem dX4_hasCourse_9 : decode cX4_hasCourse 9 = .ok (.if_icmp .ge 7, 3) := by decide +kernel
theorem dX4_hasCourse_12 : decode cX4_hasCourse 12 = .ok (.iconst 1, 1) := by decide +kernel
theorem dX4_hasCourse_13 : decode cX4_hasCourse 13 = .ok (.goto 4, 3) := by decide +kernel
theorem dX4_hasCourse_16 : decode cX4_hasCourse 16 = .ok (.iconst 0, 1) := by decide +kernel
theorem dX4_hasCourse_17 : decode cX4_hasCourse 17 = .ok (.ireturn, 1) := by decide +kernel
theorem dX4_hasColumn_0 : decode cX4_hasColumn 0 = .ok (.iload_n 1, 1) := by decide +kernel
theorem dX4_hasColumn_1 : decode cX4_hasColumn 1 = .ok (.ifCond .lt 15, 3) := by decide +kernel
theorem dX4_hasColumn_4 : decode cX4_hasColumn 4 = .ok (.iload_n 1, 1) := by decide +kernel
theorem dX4_hasColumn_5 : decode cX4_hasColumn 5 = .ok (.aload_n 0, 1) := by decide +kernel
theorem dX4_hasColumn_6 : decode cX4_hasColumn 6 = .ok (.getfield 9, 3) := by decide +kernel
theorem dX4_hasColumn_9 : decode cX4_hasColumn 9 = .ok (.if_icmp .ge 7, 3) := by decide +kernel
theorem dX4_hasColumn_12 : decode cX4_hasColumn 12 = .ok (.iconst 1, 1) := by decide +kernel
theorem dX4_hasColumn_13 : decode cX4_hasColumn 13 = .ok (.goto 4, 3) := by decide +kernel
theorem dX4_hasColumn_16 : decode cX4_hasColumn 16 = .ok (.iconst 0, 1) := by decide +kernel
theorem dX4_hasColumn_17 : decode cX4_hasColumn 17 = .ok (.ireturn, 1) := by decide +kernel
theorem dX4_hasBrick_0 : decode cX4_hasBrick 0 = .ok (.aload_n 0, 1) := by decide +kernel
theorem dX4_hasBrick_1 : decode cX4_hasBrick 1 = .ok (.iload_n 1, 1) := by decide +kernel
theorem dX4_hasBrick_2 : decode cX4_hasBrick 2 = .ok (.invokevirtual 49, 3) := by decide +kernel
theorem dX4_hasBrick_5 : decode cX4_hasBrick 5 = .ok (.ifCond .eq 15, 3) := by decide +kernel
theorem dX4_hasBrick_8 : decode cX4_hasBrick 8 = .ok (.aload_n 0, 1) := by decide +kernel
theorem dX4_hasBrick_9 : decode cX4_hasBrick 9 = .ok (.iload_n 2, 1) := by decide +kernel
theorem dX4_hasBrick_10 : decode cX4_hasBrick 10 = .ok (.invokevirtual 53, 3) := by decide +kernel
theorem dX4_hasBrick_13 : decode cX4_hasBrick 13 = .ok (.ifCond .eq 7, 3) := by decide +kernel
theorem dX4_hasBrick_16 : decode cX4_hasBrick 16 = .ok (.iconst 1, 1) := by decide +kernel
theorem dX4_hasBrick_17 : decode cX4_hasBrick 17 = .ok (.goto 4, 3) := by decide +kernel
theorem dX4_hasBrick_20 : decode cX4_hasBrick 20 = .ok (.iconst 0, 1) := by decide +kernel
theorem dX4_hasBrick_21 : decode cX4_hasBrick 21 = .ok (.ireturn, 1) := by decide +kernel
theorem dX4_hasHearth_0 : decode cX4_hasHearth 0 = .ok (.iload_n 1, 1) := by decide +kernel
theorem dX4_hasHearth_1 : decode cX4_hasHearth 1 = .ok (.ifCond .lt 15, 3) := by decide +kernel
theorem dX4_hasHearth_4 : decode cX4_hasHearth 4 = .ok (.iload_n 1, 1) := by decide +kernel
theorem dX4_hasHearth_5 : decode cX4_hasHearth 5 = .ok (.aload_n 0, 1) := by decide +kernel
theorem dX4_hasHearth_6 : decode cX4_hasHearth 6 = .ok (.getfield 34, 3) := by decide +kernel
theorem dX4_hasHearth_9 : decode cX4_hasHearth 9 = .ok (.if_icmp .ge 7, 3) := by decide +kernel
theorem dX4_hasHearth_12 : decode cX4_hasHearth 12 = .ok (.iconst 1, 1) := by decide +kernel
theorem dX4_hasHearth_13 : decode cX4_hasHearth 13 = .ok (.goto 4, 3) := by decide +kernel
theorem dX4_hasHearth_16 : decode cX4_hasHearth 16 = .ok (.iconst 0, 1) := by decide +kernel
theorem dX4_hasHearth_17 : decode cX4_hasHearth 17 = .ok (.ireturn, 1) := by decide +kernel
theorem dX4_isFree_0 : decode cX4_isFree 0 = .ok (.aload_n 0, 1) := by decide +kernel
theorem dX4_isFree_1 : decode cX4_isFree 1 = .ok (.iload_n 1, 1) := by decide +kernel
theorem dX4_isFree_2 : decode cX4_isFree 2 = .ok (.iload_n 2, 1) := by decide +kernel
theorem dX4_isFree_3 : decode cX4_isFree 3 = .ok (.invokevirtual 56, 3) := by decide +kernel
theorem dX4_isFree_6 : decode cX4_isFree 6 = .ok (.ifCond .eq 20, 3) := by decide +kernel
theorem dX4_isFree_9 : decode cX4_isFree 9 = .ok (.aload_n 0, 1) := by decide +kernel
theorem dX4_isFree_10 : decode cX4_isFree 10 = .ok (.getfield 18, 3) := by decide +kernel
theorem dX4_isFree_13 : decode cX4_isFree 13 = .ok (.iload_n 1, 1) := by decide +kernel
theorem dX4_isFree_14 : decode cX4_isFree 14 = .ok (.iaload, 1) := by decide +kernel
theorem dX4_isFree_15 : decode cX4_isFree 15 = .ok (.iload_n 2, 1) := by decide +kernel
theorem dX4_isFree_16 : decode cX4_isFree 16 = .ok (.ishr, 1) := by decide +kernel
theorem dX4_isFree_17 : decode cX4_isFree 17 = .ok (.iconst 1, 1) := by decide +kernel
theorem dX4_isFree_18 : decode cX4_isFree 18 = .ok (.iand, 1) := by decide +kernel
theorem dX4_isFree_19 : decode cX4_isFree 19 = .ok (.ifCond .ne 7, 3) := by decide +kernel
theorem dX4_isFree_22 : decode cX4_isFree 22 = .ok (.iconst 1, 1) := by decide +kernel
theorem dX4_isFree_23 : decode cX4_isFree 23 = .ok (.goto 4, 3) := by decide +kernel
theorem dX4_isFree_26 : decode cX4_isFree 26 = .ok (.iconst 0, 1) := by decide +kernel
theorem dX4_isFree_27 : decode cX4_isFree 27 = .ok (.ireturn, 1) := by decide +kernel
theorem dX4_isCold_0 : decode cX4_isCold 0 = .ok (.aload_n 0, 1) := by decide +kernel
theorem dX4_isCold_1 : decode cX4_isCold 1 = .ok (.iload_n 1, 1) := by decide +kernel
theorem dX4_isCold_2 : decode cX4_isCold 2 = .ok (.invokevirtual 53, 3) := by decide +kernel
theorem dX4_isCold_5 : decode cX4_isCold 5 = .ok (.ifCond .eq 18, 3) := by decide +kernel
theorem dX4_isCold_8 : decode cX4_isCold 8 = .ok (.aload_n 0, 1) := by decide +kernel
theorem dX4_isCold_9 : decode cX4_isCold 9 = .ok (.getfield 31, 3) := by decide +kernel
theorem dX4_isCold_12 : decode cX4_isCold 12 = .ok (.iload_n 1, 1) := by decide +kernel
theorem dX4_isCold_13 : decode cX4_isCold 13 = .ok (.ishr, 1) := by decide +kernel
theorem dX4_isCold_14 : decode cX4_isCold 14 = .ok (.iconst 1, 1) := by decide +kernel
theorem dX4_isCold_15 : decode cX4_isCold 15 = .ok (.iand, 1) := by decide +kernel
theorem dX4_isCold_16 : decode cX4_isCold 16 = .ok (.ifCond .eq 7, 3) := by decide +kernel
theorem dX4_isCold_19 : decode cX4_isCold 19 = .ok (.iconst 1, 1) := by decide +kernel
theorem dX4_isCold_20 : decode cX4_isCold 20 = .ok (.goto 4, 3) := by decide +kernel
theorem dX4_isCold_23 : decode cX4_isCold 23 = .ok (.iconst 0, 1) := by decide +kernel
theorem dX4_isCold_24 : decode cX4_isCold 24 = .ok (.ireturn, 1) := by decide +kernel
theorem dX4_reaches_0 : decode cX4_reaches 0 = .ok (.lload_n 2, 1) := by decide +kernel
theorem dX4_reaches_1 : decode cX4_reaches 1 = .ok (.aload_n 0, 1) := by decide +kernel
theorem dX4_reaches_2 : decode cX4_reaches 2 = .ok (.getfield 22, 3) := by decide +kernel
theorem dX4_reaches_5 : decode cX4_reaches 5 = .ok (.iload_n 1, 1) := by decide +kernel
theorem dX4_reaches_6 : decode cX4_reaches 6 = .ok (.iaload, 1) := by decide +kernel
theorem dX4_reaches_7 : decode cX4_reaches 7 = .ok (.i2l, 1) := by decide +kernel
theorem dX4_reaches_8 : decode cX4_reaches 8 = .ok (.lcmp, 1) := by decide +kernel
theorem dX4_reaches_9 : decode cX4_reaches 9 = .ok (.ifCond .lt 17, 3) := by decide +kernel
theorem dX4_reaches_12 : decode cX4_reaches 12 = .ok (.lload_n 2, 1) := by decide +kernel
theorem dX4_reaches_13 : decode cX4_reaches 13 = .ok (.aload_n 0, 1) := by decide +kernel
theorem dX4_reaches_14 : decode cX4_reaches 14 = .ok (.getfield 15, 3) := by decide +kernel
theorem dX4_reaches_17 : decode cX4_reaches 17 = .ok (.i2l, 1) := by decide +kernel
theorem dX4_reaches_18 : decode cX4_reaches 18 = .ok (.lcmp, 1) := by decide +kernel
theorem dX4_reaches_19 : decode cX4_reaches 19 = .ok (.ifCond .ge 7, 3) := by decide +kernel
theorem dX4_reaches_22 : decode cX4_reaches 22 = .ok (.iconst 1, 1) := by decide +kernel
theorem dX4_reaches_23 : decode cX4_reaches 23 = .ok (.goto 4, 3) := by decide +kernel
theorem dX4_reaches_26 : decode cX4_reaches 26 = .ok (.iconst 0, 1) := by decide +kernel
theorem dX4_reaches_27 : decode cX4_reaches 27 = .ok (.ireturn, 1) := by decide +kernel
theorem dX4_above_0 : decode cX4_above 0 = .ok (.aload_n 0, 1) := by decide +kernel
theorem dX4_above_1 : decode cX4_above 1 = .ok (.getfield 15, 3) := by decide +kernel
theorem dX4_above_4 : decode cX4_above 4 = .ok (.iconst 1, 1) := by decide +kernel
theorem dX4_above_5 : decode cX4_above 5 = .ok (.isub, 1) := by decide +kernel
theorem dX4_above_6 : decode cX4_above 6 = .ok (.aload_n 0, 1) := by decide +kernel
theorem dX4_above_7 : decode cX4_above 7 = .ok (.getfield 22, 3) := by decide +kernel
theorem dX4_above_10 : decode cX4_above 10 = .ok (.iload_n 1, 1) := by decide +kernel
theorem dX4_above_11 : decode cX4_above 11 = .ok (.iaload, 1) := by decide +kernel
theorem dX4_above_12 : decode cX4_above 12 = .ok (.isub, 1) := by decide +kernel
theorem dX4_above_13 : decode cX4_above 13 = .ok (.ireturn, 1) := by decide +kernel
theorem dX4_freeColumns_0 : decode cX4_freeColumns 0 = .ok (.iconst 1, 1) := by decide +kernel
theorem dX4_freeColumns_1 : decode cX4_freeColumns 1 = .ok (.aload_n 0, 1) := by decide +kernel
theorem dX4_freeColumns_2 : decode cX4_freeColumns 2 = .ok (.getfield 9, 3) := by decide +kernel
theorem dX4_freeColumns_5 : decode cX4_freeColumns 5 = .ok (.ishl, 1) := by decide +kernel
theorem dX4_freeColumns_6 : decode cX4_freeColumns 6 = .ok (.iconst 1, 1) := by decide +kernel
theorem dX4_freeColumns_7 : decode cX4_freeColumns 7 = .ok (.isub, 1) := by decide +kernel
theorem dX4_freeColumns_8 : decode cX4_freeColumns 8 = .ok (.aload_n 0, 1) := by decide +kernel
theorem dX4_freeColumns_9 : decode cX4_freeColumns 9 = .ok (.getfield 18, 3) := by decide +kernel
theorem dX4_freeColumns_12 : decode cX4_freeColumns 12 = .ok (.iload_n 1, 1) := by decide +kernel
theorem dX4_freeColumns_13 : decode cX4_freeColumns 13 = .ok (.iaload, 1) := by decide +kernel
theorem dX4_freeColumns_14 : decode cX4_freeColumns 14 = .ok (.iconst (-1), 1) := by decide +kernel
theorem dX4_freeColumns_15 : decode cX4_freeColumns 15 = .ok (.ixor, 1) := by decide +kernel
theorem dX4_freeColumns_16 : decode cX4_freeColumns 16 = .ok (.iand, 1) := by decide +kernel
theorem dX4_freeColumns_17 : decode cX4_freeColumns 17 = .ok (.ireturn, 1) := by decide +kernel
theorem dX4_barredBricks_0 : decode cX4_barredBricks 0 = .ok (.iconst 0, 1) := by decide +kernel
theorem dX4_barredBricks_1 : decode cX4_barredBricks 1 = .ok (.istore_n 1, 1) := by decide +kernel
theorem dX4_barredBricks_2 : decode cX4_barredBricks 2 = .ok (.iconst 0, 1) := by decide +kernel
theorem dX4_barredBricks_3 : decode cX4_barredBricks 3 = .ok (.istore_n 2, 1) := by decide +kernel
theorem dX4_barredBricks_4 : decode cX4_barredBricks 4 = .ok (.iload_n 2, 1) := by decide +kernel
theorem dX4_barredBricks_5 : decode cX4_barredBricks 5 = .ok (.aload_n 0, 1) := by decide +kernel
theorem dX4_barredBricks_6 : decode cX4_barredBricks 6 = .ok (.getfield 15, 3) := by decide +kernel
theorem dX4_barredBricks_9 : decode cX4_barredBricks 9 = .ok (.if_icmp .ge 25, 3) := by decide +kernel
theorem dX4_barredBricks_12 : decode cX4_barredBricks 12 = .ok (.iload_n 1, 1) := by decide +kernel
theorem dX4_barredBricks_13 : decode cX4_barredBricks 13 = .ok (.aload_n 0, 1) := by decide +kernel
theorem dX4_barredBricks_14 : decode cX4_barredBricks 14 = .ok (.getfield 9, 3) := by decide +kernel
theorem dX4_barredBricks_17 : decode cX4_barredBricks 17 = .ok (.aload_n 0, 1) := by decide +kernel
theorem dX4_barredBricks_18 : decode cX4_barredBricks 18 = .ok (.iload_n 2, 1) := by decide +kernel
theorem dX4_barredBricks_19 : decode cX4_barredBricks 19 = .ok (.invokevirtual 60, 3) := by decide +kernel
theorem dX4_barredBricks_22 : decode cX4_barredBricks 22 = .ok (.invokestatic 64, 3) := by decide +kernel
theorem dX4_barredBricks_25 : decode cX4_barredBricks 25 = .ok (.isub, 1) := by decide +kernel
theorem dX4_barredBricks_26 : decode cX4_barredBricks 26 = .ok (.iadd, 1) := by decide +kernel
theorem dX4_barredBricks_27 : decode cX4_barredBricks 27 = .ok (.istore_n 1, 1) := by decide +kernel
theorem dX4_barredBricks_28 : decode cX4_barredBricks 28 = .ok (.iinc 2 1, 3) := by decide +kernel
theorem dX4_barredBricks_31 : decode cX4_barredBricks 31 = .ok (.goto (-27), 3) := by decide +kernel
theorem dX4_barredBricks_34 : decode cX4_barredBricks 34 = .ok (.iload_n 1, 1) := by decide +kernel
theorem dX4_barredBricks_35 : decode cX4_barredBricks 35 = .ok (.ireturn, 1) := by decide +kernel
theorem dX5_init_0 : decode cX5_init 0 = .ok (.aload_n 0, 1) := by decide +kernel
theorem dX5_init_1 : decode cX5_init 1 = .ok (.invokespecial 3, 3) := by decide +kernel
theorem dX5_init_4 : decode cX5_init 4 = .ok (.aload_n 0, 1) := by decide +kernel
theorem dX5_init_5 : decode cX5_init 5 = .ok (.bipush 16, 2) := by decide +kernel
theorem dX5_init_7 : decode cX5_init 7 = .ok (.newarray .int, 2) := by decide +kernel
theorem dX5_init_9 : decode cX5_init 9 = .ok (.putfield 9, 3) := by decide +kernel
theorem dX5_init_12 : decode cX5_init 12 = .ok (.aload_n 0, 1) := by decide +kernel
theorem dX5_init_13 : decode cX5_init 13 = .ok (.bipush 10, 2) := by decide +kernel
theorem dX5_init_15 : decode cX5_init 15 = .ok (.newarray .long, 2) := by decide +kernel
theorem dX5_init_17 : decode cX5_init 17 = .ok (.putfield 15, 3) := by decide +kernel
theorem dX5_init_20 : decode cX5_init 20 = .ok (.aload_n 0, 1) := by decide +kernel
theorem dX5_init_21 : decode cX5_init 21 = .ok (.bipush 10, 2) := by decide +kernel
theorem dX5_init_23 : decode cX5_init 23 = .ok (.newarray .long, 2) := by decide +kernel
theorem dX5_init_25 : decode cX5_init 25 = .ok (.putfield 19, 3) := by decide +kernel
theorem dX5_init_28 : decode cX5_init 28 = .ok (.aload_n 0, 1) := by decide +kernel
theorem dX5_init_29 : decode cX5_init 29 = .ok (.sipush 640, 3) := by decide +kernel
theorem dX5_init_32 : decode cX5_init 32 = .ok (.newarray .int, 2) := by decide +kernel
theorem dX5_init_34 : decode cX5_init 34 = .ok (.putfield 22, 3) := by decide +kernel
theorem dX5_init_37 : decode cX5_init 37 = .ok (.aload_n 0, 1) := by decide +kernel
theorem dX5_init_38 : decode cX5_init 38 = .ok (.bipush 16, 2) := by decide +kernel
theorem dX5_init_40 : decode cX5_init 40 = .ok (.newarray .int, 2) := by decide +kernel
theorem dX5_init_42 : decode cX5_init 42 = .ok (.putfield 25, 3) := by decide +kernel
theorem dX5_init_45 : decode cX5_init 45 = .ok (.return_, 1) := by decide +kernel
theorem dX5_prepare_0 : decode cX5_prepare 0 = .ok (.aload_n 0, 1) := by decide +kernel
theorem dX5_prepare_1 : decode cX5_prepare 1 = .ok (.aload_n 1, 1) := by decide +kernel
theorem dX5_prepare_2 : decode cX5_prepare 2 = .ok (.getfield 28, 3) := by decide +kernel
theorem dX5_prepare_5 : decode cX5_prepare 5 = .ok (.putfield 34, 3) := by decide +kernel
theorem dX5_prepare_8 : decode cX5_prepare 8 = .ok (.aload_n 0, 1) := by decide +kernel
theorem dX5_prepare_9 : decode cX5_prepare 9 = .ok (.aload_n 1, 1) := by decide +kernel
theorem dX5_prepare_10 : decode cX5_prepare 10 = .ok (.getfield 35, 3) := by decide +kernel
theorem dX5_prepare_13 : decode cX5_prepare 13 = .ok (.iload_n 2, 1) := by decide +kernel
theorem dX5_prepare_14 : decode cX5_prepare 14 = .ok (.iaload, 1) := by decide +kernel
theorem dX5_prepare_15 : decode cX5_prepare 15 = .ok (.putfield 38, 3) := by decide +kernel
theorem dX5_prepare_18 : decode cX5_prepare 18 = .ok (.aload_n 0, 1) := by decide +kernel
theorem dX5_prepare_19 : decode cX5_prepare 19 = .ok (.aload_n 1, 1) := by decide +kernel
theorem dX5_prepare_20 : decode cX5_prepare 20 = .ok (.getfield 41, 3) := by decide +kernel
theorem dX5_prepare_23 : decode cX5_prepare 23 = .ok (.iconst 1, 1) := by decide +kernel
theorem dX5_prepare_24 : decode cX5_prepare 24 = .ok (.isub, 1) := by decide +kernel
theorem dX5_prepare_25 : decode cX5_prepare 25 = .ok (.putfield 44, 3) := by decide +kernel
theorem dX5_prepare_28 : decode cX5_prepare 28 = .ok (.aload_n 0, 1) := by decide +kernel
theorem dX5_prepare_29 : decode cX5_prepare 29 = .ok (.aload_n 1, 1) := by decide +kernel
theorem dX5_prepare_30 : decode cX5_prepare 30 = .ok (.getfield 47, 3) := by decide +kernel
theorem dX5_prepare_33 : decode cX5_prepare 33 = .ok (.iload_n 2, 1) := by decide +kernel
theorem dX5_prepare_34 : decode cX5_prepare 34 = .ok (.iaload, 1) := by decide +kernel
theorem dX5_prepare_35 : decode cX5_prepare 35 = .ok (.putfield 50, 3) := by decide +kernel
theorem dX5_prepare_38 : decode cX5_prepare 38 = .ok (.iconst 0, 1) := by decide +kernel
theorem dX5_prepare_39 : decode cX5_prepare 39 = .ok (.istore_n 3, 1) := by decide +kernel
theorem dX5_prepare_40 : decode cX5_prepare 40 = .ok (.iload_n 3, 1) := by decide +kernel
theorem dX5_prepare_41 : decode cX5_prepare 41 = .ok (.aload_n 0, 1) := by decide +kernel
theorem dX5_prepare_42 : decode cX5_prepare 42 = .ok (.getfield 44, 3) := by decide +kernel
theorem dX5_prepare_45 : decode cX5_prepare 45 = .ok (.if_icmp .gt 20, 3) := by decide +kernel
theorem dX5_prepare_48 : decode cX5_prepare 48 = .ok (.aload_n 0, 1) := by decide +kernel
theorem dX5_prepare_49 : decode cX5_prepare 49 = .ok (.getfield 9, 3) := by decide +kernel
theorem dX5_prepare_52 : decode cX5_prepare 52 = .ok (.iload_n 3, 1) := by decide +kernel
theorem dX5_prepare_53 : decode cX5_prepare 53 = .ok (.aload_n 1, 1) := by decide +kernel
theorem dX5_prepare_54 : decode cX5_prepare 54 = .ok (.iload_n 3, 1) := by decide +kernel
theorem dX5_prepare_55 : decode cX5_prepare 55 = .ok (.invokevirtual 53, 3) := by decide +kernel
theorem dX5_prepare_58 : decode cX5_prepare 58 = .ok (.iastore, 1) := by decide +kernel
theorem dX5_prepare_59 : decode cX5_prepare 59 = .ok (.iinc 3 1, 3) := by decide +kernel
theorem dX5_prepare_62 : decode cX5_prepare 62 = .ok (.goto (-22), 3) := by decide +kernel
theorem dX5_prepare_65 : decode cX5_prepare 65 = .ok (.return_, 1) := by decide +kernel
theorem dX5_hear_0 : decode cX5_hear 0 = .ok (.iconst 0, 1) := by decide +kernel
theorem dX5_hear_1 : decode cX5_hear 1 = .ok (.istore_n 2, 1) := by decide +kernel
theorem dX5_hear_2 : decode cX5_hear 2 = .ok (.iload_n 2, 1) := by decide +kernel
theorem dX5_hear_3 : decode cX5_hear 3 = .ok (.aload_n 1, 1) := by decide +kernel
theorem dX5_hear_4 : decode cX5_hear 4 = .ok (.getfield 57, 3) := by decide +kernel
theorem dX5_hear_7 : decode cX5_hear 7 = .ok (.if_icmp .ge 31, 3) := by decide +kernel
theorem dX5_hear_10 : decode cX5_hear 10 = .ok (.aload_n 0, 1) := by decide +kernel
theorem dX5_hear_11 : decode cX5_hear 11 = .ok (.getfield 9, 3) := by decide +kernel
theorem dX5_hear_14 : decode cX5_hear 14 = .ok (.aload_n 1, 1) := by decide +kernel
theorem dX5_hear_15 : decode cX5_hear 15 = .ok (.getfield 62, 3) := by decide +kernel
theorem dX5_hear_18 : decode cX5_hear 18 = .ok (.iload_n 2, 1) := by decide +kernel
theorem dX5_hear_19 : decode cX5_hear 19 = .ok (.iaload, 1) := by decide +kernel
theorem dX5_hear_20 : decode cX5_hear 20 = .ok (.dup2, 1) := by decide +kernel
theorem dX5_hear_21 : decode cX5_hear 21 = .ok (.iaload, 1) := by decide +kernel
theorem dX5_hear_22 : decode cX5_hear 22 = .ok (.iconst 1, 1) := by decide +kernel
theorem dX5_hear_23 : decode cX5_hear 23 = .ok (.aload_n 1, 1) := by decide +kernel
theorem dX5_hear_24 : decode cX5_hear 24 = .ok (.getfield 65, 3) := by decide +kernel
theorem dX5_hear_27 : decode cX5_hear 27 = .ok (.iload_n 2, 1) := by decide +kernel
theorem dX5_hear_28 : decode cX5_hear 28 = .ok (.iaload, 1) := by decide +kernel
theorem dX5_hear_29 : decode cX5_hear 29 = .ok (.ishl, 1) := by decide +kernel
theorem dX5_hear_30 : decode cX5_hear 30 = .ok (.iand, 1) := by decide +kernel
theorem dX5_hear_31 : decode cX5_hear 31 = .ok (.iastore, 1) := by decide +kernel
theorem dX5_hear_32 : decode cX5_hear 32 = .ok (.iinc 2 1, 3) := by decide +kernel
theorem dX5_hear_35 : decode cX5_hear 35 = .ok (.goto (-33), 3) := by decide +kernel
theorem dX5_hear_38 : decode cX5_hear 38 = .ok (.return_, 1) := by decide +kernel
theorem dX5_isOpen_0 : decode cX5_isOpen 0 = .ok (.iload_n 2, 1) := by decide +kernel
theorem dX5_isOpen_1 : decode cX5_isOpen 1 = .ok (.ifCond .lt 28, 3) := by decide +kernel
theorem dX5_isOpen_4 : decode cX5_isOpen 4 = .ok (.iload_n 2, 1) := by decide +kernel
theorem dX5_isOpen_5 : decode cX5_isOpen 5 = .ok (.aload_n 0, 1) := by decide +kernel
theorem dX5_isOpen_6 : decode cX5_isOpen 6 = .ok (.getfield 34, 3) := by decide +kernel
theorem dX5_isOpen_9 : decode cX5_isOpen 9 = .ok (.if_icmp .ge 20, 3) := by decide +kernel
theorem dX5_isOpen_12 : decode cX5_isOpen 12 = .ok (.aload_n 0, 1) := by decide +kernel
theorem dX5_isOpen_13 : decode cX5_isOpen 13 = .ok (.getfield 9, 3) := by decide +kernel
theorem dX5_isOpen_16 : decode cX5_isOpen 16 = .ok (.iload_n 1, 1) := by decide +kernel
theorem dX5_isOpen_17 : decode cX5_isOpen 17 = .ok (.iaload, 1) := by decide +kernel
theorem dX5_isOpen_18 : decode cX5_isOpen 18 = .ok (.iload_n 2, 1) := by decide +kernel
theorem dX5_isOpen_19 : decode cX5_isOpen 19 = .ok (.ishr, 1) := by decide +kernel
theorem dX5_isOpen_20 : decode cX5_isOpen 20 = .ok (.iconst 1, 1) := by decide +kernel
theorem dX5_isOpen_21 : decode cX5_isOpen 21 = .ok (.iand, 1) := by decide +kernel
theorem dX5_isOpen_22 : decode cX5_isOpen 22 = .ok (.ifCond .eq 7, 3) := by decide +kernel
theorem dX5_isOpen_25 : decode cX5_isOpen 25 = .ok (.iconst 1, 1) := by decide +kernel
theorem dX5_isOpen_26 : decode cX5_isOpen 26 = .ok (.goto 4, 3) := by decide +kernel
theorem dX5_isOpen_29 : decode cX5_isOpen 29 = .ok (.iconst 0, 1) := by decide +kernel
theorem dX5_isOpen_30 : decode cX5_isOpen 30 = .ok (.ireturn, 1) := by decide +kernel
theorem dX5_number_0 : decode cX5_number 0 = .ok (.aload_n 0, 1) := by decide +kernel
theorem dX5_number_1 : decode cX5_number 1 = .ok (.getfield 15, 3) := by decide +kernel
theorem dX5_number_4 : decode cX5_number 4 = .ok (.lconst 0, 1) := by decide +kernel
theorem dX5_number_5 : decode cX5_number 5 = .ok (.invokestatic 68, 3) := by decide +kernel
theorem dX5_number_8 : decode cX5_number 8 = .ok (.aload_n 0, 1) := by decide +kernel
theorem dX5_number_9 : decode cX5_number 9 = .ok (.getfield 15, 3) := by decide +kernel
theorem dX5_number_12 : decode cX5_number 12 = .ok (.aload_n 0, 1) := by decide +kernel
theorem dX5_number_13 : decode cX5_number 13 = .ok (.getfield 50, 3) := by decide +kernel
theorem dX5_number_16 : decode cX5_number 16 = .ok (.aload_n 0, 1) := by decide +kernel
theorem dX5_number_17 : decode cX5_number 17 = .ok (.aload_n 0, 1) := by decide +kernel
theorem dX5_number_18 : decode cX5_number 18 = .ok (.getfield 38, 3) := by decide +kernel
theorem dX5_number_21 : decode cX5_number 21 = .ok (.aload_n 0, 1) := by decide +kernel
theorem dX5_number_22 : decode cX5_number 22 = .ok (.getfield 50, 3) := by decide +kernel
theorem dX5_number_25 : decode cX5_number 25 = .ok (.invokevirtual 74, 3) := by decide +kernel
theorem dX5_number_28 : decode cX5_number 28 = .ok (.ifCond .eq 7, 3) := by decide +kernel
theorem dX5_number_31 : decode cX5_number 31 = .ok (.lconst 1, 1) := by decide +kernel
theorem dX5_number_32 : decode cX5_number 32 = .ok (.goto 4, 3) := by decide +kernel
theorem dX5_number_35 : decode cX5_number 35 = .ok (.lconst 0, 1) := by decide +kernel
theorem dX5_number_36 : decode cX5_number 36 = .ok (.lastore, 1) := by decide +kernel
theorem dX5_number_37 : decode cX5_number 37 = .ok (.aload_n 0, 1) := by decide +kernel
theorem dX5_number_38 : decode cX5_number 38 = .ok (.getfield 38, 3) := by decide +kernel
theorem dX5_number_41 : decode cX5_number 41 = .ok (.iconst 1, 1) := by decide +kernel
theorem dX5_number_42 : decode cX5_number 42 = .ok (.iadd, 1) := by decide +kernel
theorem dX5_number_43 : decode cX5_number 43 = .ok (.istore_n 1, 1) := by decide +kernel
theorem dX5_number_44 : decode cX5_number 44 = .ok (.iload_n 1, 1) := by decide +kernel
theorem dX5_number_45 : decode cX5_number 45 = .ok (.aload_n 0, 1) := by decide +kernel
theorem dX5_number_46 : decode cX5_number 46 = .ok (.getfield 44, 3) := by decide +kernel
theorem dX5_number_49 : decode cX5_number 49 = .ok (.if_icmp .gt 66, 3) := by decide +kernel
theorem dX5_number_52 : decode cX5_number 52 = .ok (.iconst 0, 1) := by decide +kernel
theorem dX5_number_53 : decode cX5_number 53 = .ok (.istore_n 2, 1) := by decide +kernel
theorem dX5_number_54 : decode cX5_number 54 = .ok (.iload_n 2, 1) := by decide +kernel
theorem dX5_number_55 : decode cX5_number 55 = .ok (.aload_n 0, 1) := by decide +kernel
theorem dX5_number_56 : decode cX5_number 56 = .ok (.getfield 34, 3) := by decide +kernel
theorem dX5_number_59 : decode cX5_number 59 = .ok (.if_icmp .ge 33, 3) := by decide +kernel
theorem dX5_number_62 : decode cX5_number 62 = .ok (.aload_n 0, 1) := by decide +kernel
theorem dX5_number_63 : decode cX5_number 63 = .ok (.getfield 19, 3) := by decide +kernel
theorem dX5_number_66 : decode cX5_number 66 = .ok (.iload_n 2, 1) := by decide +kernel
theorem dX5_number_67 : decode cX5_number 67 = .ok (.aload_n 0, 1) := by decide +kernel
theorem dX5_number_68 : decode cX5_number 68 = .ok (.iload_n 1, 1) := by decide +kernel
theorem dX5_number_69 : decode cX5_number 69 = .ok (.iload_n 2, 1) := by decide +kernel
theorem dX5_number_70 : decode cX5_number 70 = .ok (.invokevirtual 74, 3) := by decide +kernel
theorem dX5_number_73 : decode cX5_number 73 = .ok (.ifCond .eq 11, 3) := by decide +kernel
theorem dX5_number_76 : decode cX5_number 76 = .ok (.aload_n 0, 1) := by decide +kernel
theorem dX5_number_77 : decode cX5_number 77 = .ok (.iload_n 2, 1) := by decide +kernel
theorem dX5_number_78 : decode cX5_number 78 = .ok (.invokevirtual 78, 3) := by decide +kernel
theorem dX5_number_81 : decode cX5_number 81 = .ok (.goto 4, 3) := by decide +kernel
theorem dX5_number_84 : decode cX5_number 84 = .ok (.lconst 0, 1) := by decide +kernel
theorem dX5_number_85 : decode cX5_number 85 = .ok (.lastore, 1) := by decide +kernel
theorem dX5_number_86 : decode cX5_number 86 = .ok (.iinc 2 1, 3) := by decide +kernel
theorem dX5_number_89 : decode cX5_number 89 = .ok (.goto (-35), 3) := by decide +kernel
theorem dX5_number_92 : decode cX5_number 92 = .ok (.aload_n 0, 1) := by decide +kernel
theorem dX5_number_93 : decode cX5_number 93 = .ok (.getfield 19, 3) := by decide +kernel
theorem dX5_number_96 : decode cX5_number 96 = .ok (.iconst 0, 1) := by decide +kernel
theorem dX5_number_97 : decode cX5_number 97 = .ok (.aload_n 0, 1) := by decide +kernel
theorem dX5_number_98 : decode cX5_number 98 = .ok (.getfield 15, 3) := by decide +kernel
theorem dX5_number_101 : decode cX5_number 101 = .ok (.iconst 0, 1) := by decide +kernel
theorem dX5_number_102 : decode cX5_number 102 = .ok (.aload_n 0, 1) := by decide +kernel
theorem dX5_number_103 : decode cX5_number 103 = .ok (.getfield 34, 3) := by decide +kernel
theorem dX5_number_106 : decode cX5_number 106 = .ok (.invokestatic 82, 3) := by decide +kernel
theorem dX5_number_109 : decode cX5_number 109 = .ok (.iinc 1 1, 3) := by decide +kernel
theorem dX5_number_112 : decode cX5_number 112 = .ok (.goto (-68), 3) := by decide +kernel
theorem dX5_number_115 : decode cX5_number 115 = .ok (.lconst 0, 1) := by decide +kernel
theorem dX5_number_116 : decode cX5_number 116 = .ok (.lstore_n 1, 1) := by decide +kernel
theorem dX5_number_117 : decode cX5_number 117 = .ok (.iconst 0, 1) := by decide +kernel
theorem dX5_number_118 : decode cX5_number 118 = .ok (.istore_n 3, 1) := by decide +kernel
theorem dX5_number_119 : decode cX5_number 119 = .ok (.iload_n 3, 1) := by decide +kernel
theorem dX5_number_120 : decode cX5_number 120 = .ok (.aload_n 0, 1) := by decide +kernel
theorem dX5_number_121 : decode cX5_number 121 = .ok (.getfield 34, 3) := by decide +kernel
theorem dX5_number_124 : decode cX5_number 124 = .ok (.if_icmp .ge 18, 3) := by decide +kernel
theorem dX5_number_127 : decode cX5_number 127 = .ok (.lload_n 1, 1) := by decide +kernel
theorem dX5_number_128 : decode cX5_number 128 = .ok (.aload_n 0, 1) := by decide +kernel
theorem dX5_number_129 : decode cX5_number 129 = .ok (.getfield 15, 3) := by decide +kernel
theorem dX5_number_132 : decode cX5_number 132 = .ok (.iload_n 3, 1) := by decide +kernel
theorem dX5_number_133 : decode cX5_number 133 = .ok (.laload, 1) := by decide +kernel
theorem dX5_number_134 : decode cX5_number 134 = .ok (.ladd, 1) := by decide +kernel
theorem dX5_number_135 : decode cX5_number 135 = .ok (.lstore_n 1, 1) := by decide +kernel
theorem dX5_number_136 : decode cX5_number 136 = .ok (.iinc 3 1, 3) := by decide +kernel
theorem dX5_number_139 : decode cX5_number 139 = .ok (.goto (-20), 3) := by decide +kernel
theorem dX5_number_142 : decode cX5_number 142 = .ok (.lload_n 1, 1) := by decide +kernel
theorem dX5_number_143 : decode cX5_number 143 = .ok (.lreturn, 1) := by decide +kernel
theorem dX5_numberBelow_0 : decode cX5_numberBelow 0 = .ok (.iload_n 1, 1) := by decide +kernel
theorem dX5_numberBelow_1 : decode cX5_numberBelow 1 = .ok (.ifCond .le 14, 3) := by decide +kernel
theorem dX5_numberBelow_4 : decode cX5_numberBelow 4 = .ok (.aload_n 0, 1) := by decide +kernel
theorem dX5_numberBelow_5 : decode cX5_numberBelow 5 = .ok (.getfield 15, 3) := by decide +kernel
theorem dX5_numberBelow_8 : decode cX5_numberBelow 8 = .ok (.iload_n 1, 1) := by decide +kernel
theorem dX5_numberBelow_9 : decode cX5_numberBelow 9 = .ok (.iconst 1, 1) := by decide +kernel
theorem dX5_numberBelow_10 : decode cX5_numberBelow 10 = .ok (.isub, 1) := by decide +kernel
theorem dX5_numberBelow_11 : decode cX5_numberBelow 11 = .ok (.laload, 1) := by decide +kernel
theorem dX5_numberBelow_12 : decode cX5_numberBelow 12 = .ok (.goto 4, 3) := by decide +kernel
theorem dX5_numberBelow_15 : decode cX5_numberBelow 15 = .ok (.lconst 0, 1) := by decide +kernel
theorem dX5_numberBelow_16 : decode cX5_numberBelow 16 = .ok (.lstore_n 2, 1) := by decide +kernel
theorem dX5_numberBelow_17 : decode cX5_numberBelow 17 = .ok (.iload_n 1, 1) := by decide +kernel
theorem dX5_numberBelow_18 : decode cX5_numberBelow 18 = .ok (.iconst 1, 1) := by decide +kernel
theorem dX5_numberBelow_19 : decode cX5_numberBelow 19 = .ok (.iadd, 1) := by decide +kernel
theorem dX5_numberBelow_20 : decode cX5_numberBelow 20 = .ok (.aload_n 0, 1) := by decide +kernel
theorem dX5_numberBelow_21 : decode cX5_numberBelow 21 = .ok (.getfield 34, 3) := by decide +kernel
theorem dX5_numberBelow_24 : decode cX5_numberBelow 24 = .ok (.if_icmp .ge 14, 3) := by decide +kernel
theorem dX5_numberBelow_27 : decode cX5_numberBelow 27 = .ok (.aload_n 0, 1) := by decide +kernel
theorem dX5_numberBelow_28 : decode cX5_numberBelow 28 = .ok (.getfield 15, 3) := by decide +kernel
theorem dX5_numberBelow_31 : decode cX5_numberBelow 31 = .ok (.iload_n 1, 1) := by decide +kernel
theorem dX5_numberBelow_32 : decode cX5_numberBelow 32 = .ok (.iconst 1, 1) := by decide +kernel
theorem dX5_numberBelow_33 : decode cX5_numberBelow 33 = .ok (.iadd, 1) := by decide +kernel
theorem dX5_numberBelow_34 : decode cX5_numberBelow 34 = .ok (.laload, 1) := by decide +kernel
theorem dX5_numberBelow_35 : decode cX5_numberBelow 35 = .ok (.goto 4, 3) := by decide +kernel
theorem dX5_numberBelow_38 : decode cX5_numberBelow 38 = .ok (.lconst 0, 1) := by decide +kernel
theorem dX5_numberBelow_39 : decode cX5_numberBelow 39 = .ok (.lstore 4, 2) := by decide +kernel
theorem dX5_numberBelow_41 : decode cX5_numberBelow 41 = .ok (.lload_n 2, 1) := by decide +kernel
theorem dX5_numberBelow_42 : decode cX5_numberBelow 42 = .ok (.aload_n 0, 1) := by decide +kernel
theorem dX5_numberBelow_43 : decode cX5_numberBelow 43 = .ok (.getfield 15, 3) := by decide +kernel
theorem dX5_numberBelow_46 : decode cX5_numberBelow 46 = .ok (.iload_n 1, 1) := by decide +kernel
theorem dX5_numberBelow_47 : decode cX5_numberBelow 47 = .ok (.laload, 1) := by decide +kernel
theorem dX5_numberBelow_48 : decode cX5_numberBelow 48 = .ok (.ladd, 1) := by decide +kernel
theorem dX5_numberBelow_49 : decode cX5_numberBelow 49 = .ok (.lload 4, 2) := by decide +kernel
theorem dX5_numberBelow_51 : decode cX5_numberBelow 51 = .ok (.ladd, 1) := by decide +kernel
theorem dX5_numberBelow_52 : decode cX5_numberBelow 52 = .ok (.lreturn, 1) := by decide +kernel
theorem dX5_findFewestBends_0 : decode cX5_findFewestBends 0 = .ok (.aload_n 0, 1) := by decide +kernel
theorem dX5_findFewestBends_1 : decode cX5_findFewestBends 1 = .ok (.aload_n 0, 1) := by decide +kernel
theorem dX5_findFewestBends_2 : decode cX5_findFewestBends 2 = .ok (.getfield 38, 3) := by decide +kernel
theorem dX5_findFewestBends_5 : decode cX5_findFewestBends 5 = .ok (.aload_n 0, 1) := by decide +kernel
theorem dX5_findFewestBends_6 : decode cX5_findFewestBends 6 = .ok (.getfield 50, 3) := by decide +kernel
theorem dX5_findFewestBends_9 : decode cX5_findFewestBends 9 = .ok (.invokevirtual 74, 3) := by decide +kernel
theorem dX5_findFewestBends_12 : decode cX5_findFewestBends 12 = .ok (.ifCond .ne 5, 3) := by decide +kernel
theorem dX5_findFewestBends_15 : decode cX5_findFewestBends 15 = .ok (.iconst 0, 1) := by decide +kernel
theorem dX5_findFewestBends_16 : decode cX5_findFewestBends 16 = .ok (.ireturn, 1) := by decide +kernel
theorem dX5_findFewestBends_17 : decode cX5_findFewestBends 17 = .ok (.aload_n 0, 1) := by decide +kernel
theorem dX5_findFewestBends_18 : decode cX5_findFewestBends 18 = .ok (.getfield 44, 3) := by decide +kernel
theorem dX5_findFewestBends_21 : decode cX5_findFewestBends 21 = .ok (.istore_n 1, 1) := by decide +kernel
theorem dX5_findFewestBends_22 : decode cX5_findFewestBends 22 = .ok (.iload_n 1, 1) := by decide +kernel
theorem dX5_findFewestBends_23 : decode cX5_findFewestBends 23 = .ok (.aload_n 0, 1) := by decide +kernel
theorem dX5_findFewestBends_24 : decode cX5_findFewestBends 24 = .ok (.getfield 38, 3) := by decide +kernel
theorem dX5_findFewestBends_27 : decode cX5_findFewestBends 27 = .ok (.if_icmp .lt 56, 3) := by decide +kernel
theorem dX5_findFewestBends_30 : decode cX5_findFewestBends 30 = .ok (.iconst 0, 1) := by decide +kernel
theorem dX5_findFewestBends_31 : decode cX5_findFewestBends 31 = .ok (.istore_n 2, 1) := by decide +kernel
theorem dX5_findFewestBends_32 : decode cX5_findFewestBends 32 = .ok (.iload_n 2, 1) := by decide +kernel
theorem dX5_findFewestBends_33 : decode cX5_findFewestBends 33 = .ok (.aload_n 0, 1) := by decide +kernel
theorem dX5_findFewestBends_34 : decode cX5_findFewestBends 34 = .ok (.getfield 34, 3) := by decide +kernel
theorem dX5_findFewestBends_37 : decode cX5_findFewestBends 37 = .ok (.if_icmp .ge 40, 3) := by decide +kernel
theorem dX5_findFewestBends_40 : decode cX5_findFewestBends 40 = .ok (.iconst 0, 1) := by decide +kernel
theorem dX5_findFewestBends_41 : decode cX5_findFewestBends 41 = .ok (.istore_n 3, 1) := by decide +kernel
theorem dX5_findFewestBends_42 : decode cX5_findFewestBends 42 = .ok (.iload_n 3, 1) := by decide +kernel
theorem dX5_findFewestBends_43 : decode cX5_findFewestBends 43 = .ok (.iconst 4, 1) := by decide +kernel
theorem dX5_findFewestBends_44 : decode cX5_findFewestBends 44 = .ok (.if_icmp .ge 27, 3) := by decide +kernel
theorem dX5_findFewestBends_47 : decode cX5_findFewestBends 47 = .ok (.aload_n 0, 1) := by decide +kernel
theorem dX5_findFewestBends_48 : decode cX5_findFewestBends 48 = .ok (.getfield 22, 3) := by decide +kernel
theorem dX5_findFewestBends_51 : decode cX5_findFewestBends 51 = .ok (.iload_n 1, 1) := by decide +kernel
theorem dX5_findFewestBends_52 : decode cX5_findFewestBends 52 = .ok (.iload_n 2, 1) := by decide +kernel
theorem dX5_findFewestBends_53 : decode cX5_findFewestBends 53 = .ok (.iload_n 3, 1) := by decide +kernel
theorem dX5_findFewestBends_54 : decode cX5_findFewestBends 54 = .ok (.invokestatic 88, 3) := by decide +kernel
theorem dX5_findFewestBends_57 : decode cX5_findFewestBends 57 = .ok (.aload_n 0, 1) := by decide +kernel
theorem dX5_findFewestBends_58 : decode cX5_findFewestBends 58 = .ok (.iload_n 1, 1) := by decide +kernel
theorem dX5_findFewestBends_59 : decode cX5_findFewestBends 59 = .ok (.iload_n 2, 1) := by decide +kernel
theorem dX5_findFewestBends_60 : decode cX5_findFewestBends 60 = .ok (.iload_n 3, 1) := by decide +kernel
theorem dX5_findFewestBends_61 : decode cX5_findFewestBends 61 = .ok (.invokevirtual 92, 3) := by decide +kernel
theorem dX5_findFewestBends_64 : decode cX5_findFewestBends 64 = .ok (.iastore, 1) := by decide +kernel
theorem dX5_findFewestBends_65 : decode cX5_findFewestBends 65 = .ok (.iinc 3 1, 3) := by decide +kernel
theorem dX5_findFewestBends_68 : decode cX5_findFewestBends 68 = .ok (.goto (-26), 3) := by decide +kernel
theorem dX5_findFewestBends_71 : decode cX5_findFewestBends 71 = .ok (.iinc 2 1, 3) := by decide +kernel
theorem dX5_findFewestBends_74 : decode cX5_findFewestBends 74 = .ok (.goto (-42), 3) := by decide +kernel
theorem dX5_findFewestBends_77 : decode cX5_findFewestBends 77 = .ok (.iinc 1 (-1), 3) := by decide +kernel
theorem dX5_findFewestBends_80 : decode cX5_findFewestBends 80 = .ok (.goto (-58), 3) := by decide +kernel
theorem dX5_findFewestBends_83 : decode cX5_findFewestBends 83 = .ok (.aload_n 0, 1) := by decide +kernel
theorem dX5_findFewestBends_84 : decode cX5_findFewestBends 84 = .ok (.getfield 22, 3) := by decide +kernel
theorem dX5_findFewestBends_87 : decode cX5_findFewestBends 87 = .ok (.aload_n 0, 1) := by decide +kernel
theorem dX5_findFewestBends_88 : decode cX5_findFewestBends 88 = .ok (.getfield 38, 3) := by decide +kernel
theorem dX5_findFewestBends_91 : decode cX5_findFewestBends 91 = .ok (.aload_n 0, 1) := by decide +kernel
theorem dX5_findFewestBends_92 : decode cX5_findFewestBends 92 = .ok (.getfield 50, 3) := by decide +kernel
theorem dX5_findFewestBends_95 : decode cX5_findFewestBends 95 = .ok (.iconst 3, 1) := by decide +kernel
theorem dX5_findFewestBends_96 : decode cX5_findFewestBends 96 = .ok (.invokestatic 88, 3) := by decide +kernel
theorem dX5_findFewestBends_99 : decode cX5_findFewestBends 99 = .ok (.iaload, 1) := by decide +kernel
theorem dX5_findFewestBends_100 : decode cX5_findFewestBends 100 = .ok (.istore_n 1, 1) := by decide +kernel
theorem dX5_findFewestBends_101 : decode cX5_findFewestBends 101 = .ok (.iload_n 1, 1) := by decide +kernel
theorem dX5_findFewestBends_102 : decode cX5_findFewestBends 102 = .ok (.ldc 95, 2) := by decide +kernel
theorem dX5_findFewestBends_104 : decode cX5_findFewestBends 104 = .ok (.if_icmp .lt 5, 3) := by decide +kernel
theorem dX5_findFewestBends_107 : decode cX5_findFewestBends 107 = .ok (.iconst 0, 1) := by decide +kernel
theorem dX5_findFewestBends_108 : decode cX5_findFewestBends 108 = .ok (.ireturn, 1) := by decide +kernel
theorem dX5_findFewestBends_109 : decode cX5_findFewestBends 109 = .ok (.aload_n 0, 1) := by decide +kernel
theorem dX5_findFewestBends_110 : decode cX5_findFewestBends 110 = .ok (.iload_n 1, 1) := by decide +kernel
theorem dX5_findFewestBends_111 : decode cX5_findFewestBends 111 = .ok (.iconst 4, 1) := by decide +kernel
theorem dX5_findFewestBends_112 : decode cX5_findFewestBends 112 = .ok (.idiv, 1) := by decide +kernel
theorem dX5_findFewestBends_113 : decode cX5_findFewestBends 113 = .ok (.bipush 100, 2) := by decide +kernel
theorem dX5_findFewestBends_115 : decode cX5_findFewestBends 115 = .ok (.idiv, 1) := by decide +kernel
theorem dX5_findFewestBends_116 : decode cX5_findFewestBends 116 = .ok (.putfield 96, 3) := by decide +kernel
theorem dX5_findFewestBends_119 : decode cX5_findFewestBends 119 = .ok (.aload_n 0, 1) := by decide +kernel
theorem dX5_findFewestBends_120 : decode cX5_findFewestBends 120 = .ok (.iload_n 1, 1) := by decide +kernel
theorem dX5_findFewestBends_121 : decode cX5_findFewestBends 121 = .ok (.iconst 4, 1) := by decide +kernel
theorem dX5_findFewestBends_122 : decode cX5_findFewestBends 122 = .ok (.idiv, 1) := by decide +kernel
theorem dX5_findFewestBends_123 : decode cX5_findFewestBends 123 = .ok (.bipush 100, 2) := by decide +kernel
theorem dX5_findFewestBends_125 : decode cX5_findFewestBends 125 = .ok (.irem, 1) := by decide +kernel
theorem dX5_findFewestBends_126 : decode cX5_findFewestBends 126 = .ok (.putfield 99, 3) := by decide +kernel
theorem dX5_findFewestBends_129 : decode cX5_findFewestBends 129 = .ok (.aload_n 0, 1) := by decide +kernel
theorem dX5_findFewestBends_130 : decode cX5_findFewestBends 130 = .ok (.invokevirtual 102, 3) := by decide +kernel
theorem dX5_findFewestBends_133 : decode cX5_findFewestBends 133 = .ok (.iconst 1, 1) := by decide +kernel
theorem dX5_findFewestBends_134 : decode cX5_findFewestBends 134 = .ok (.ireturn, 1) := by decide +kernel
theorem dX5_place_0 : decode cX5_place 0 = .ok (.iload_n 0, 1) := by decide +kernel
theorem dX5_place_1 : decode cX5_place 1 = .ok (.bipush 10, 2) := by decide +kernel
theorem dX5_place_3 : decode cX5_place 3 = .ok (.imul, 1) := by decide +kernel
theorem dX5_place_4 : decode cX5_place 4 = .ok (.iload_n 1, 1) := by decide +kernel
theorem dX5_place_5 : decode cX5_place 5 = .ok (.iadd, 1) := by decide +kernel
theorem dX5_place_6 : decode cX5_place 6 = .ok (.iconst 4, 1) := by decide +kernel
theorem dX5_place_7 : decode cX5_place 7 = .ok (.imul, 1) := by decide +kernel
theorem dX5_place_8 : decode cX5_place 8 = .ok (.iload_n 2, 1) := by decide +kernel
theorem dX5_place_9 : decode cX5_place 9 = .ok (.iadd, 1) := by decide +kernel
theorem dX5_place_10 : decode cX5_place 10 = .ok (.ireturn, 1) := by decide +kernel
theorem dX5_leastRest_0 : decode cX5_leastRest 0 = .ok (.iload_n 1, 1) := by decide +kernel
theorem dX5_leastRest_1 : decode cX5_leastRest 1 = .ok (.aload_n 0, 1) := by decide +kernel
theorem dX5_leastRest_2 : decode cX5_leastRest 2 = .ok (.getfield 44, 3) := by decide +kernel
theorem dX5_leastRest_5 : decode cX5_leastRest 5 = .ok (.if_icmp .ne 5, 3) := by decide +kernel
theorem dX5_leastRest_8 : decode cX5_leastRest 8 = .ok (.iconst 0, 1) := by decide +kernel
theorem dX5_leastRest_9 : decode cX5_leastRest 9 = .ok (.ireturn, 1) := by decide +kernel
theorem dX5_leastRest_10 : decode cX5_leastRest 10 = .ok (.ldc 95, 2) := by decide +kernel
theorem dX5_leastRest_12 : decode cX5_leastRest 12 = .ok (.istore 4, 2) := by decide +kernel
theorem dX5_leastRest_14 : decode cX5_leastRest 14 = .ok (.iconst 0, 1) := by decide +kernel
theorem dX5_leastRest_15 : decode cX5_leastRest 15 = .ok (.istore 5, 2) := by decide +kernel
theorem dX5_leastRest_17 : decode cX5_leastRest 17 = .ok (.iload 5, 2) := by decide +kernel
theorem dX5_leastRest_19 : decode cX5_leastRest 19 = .ok (.iconst 3, 1) := by decide +kernel
theorem dX5_leastRest_20 : decode cX5_leastRest 20 = .ok (.if_icmp .ge 32, 3) := by decide +kernel
theorem dX5_leastRest_23 : decode cX5_leastRest 23 = .ok (.iload 4, 2) := by decide +kernel
theorem dX5_leastRest_25 : decode cX5_leastRest 25 = .ok (.aload_n 0, 1) := by decide +kernel
theorem dX5_leastRest_26 : decode cX5_leastRest 26 = .ok (.iload_n 1, 1) := by decide +kernel
theorem dX5_leastRest_27 : decode cX5_leastRest 27 = .ok (.iconst 1, 1) := by decide +kernel
theorem dX5_leastRest_28 : decode cX5_leastRest 28 = .ok (.iadd, 1) := by decide +kernel
theorem dX5_leastRest_29 : decode cX5_leastRest 29 = .ok (.iload_n 2, 1) := by decide +kernel
theorem dX5_leastRest_30 : decode cX5_leastRest 30 = .ok (.iload 5, 2) := by decide +kernel
theorem dX5_leastRest_32 : decode cX5_leastRest 32 = .ok (.iadd, 1) := by decide +kernel
theorem dX5_leastRest_33 : decode cX5_leastRest 33 = .ok (.iconst 1, 1) := by decide +kernel
theorem dX5_leastRest_34 : decode cX5_leastRest 34 = .ok (.isub, 1) := by decide +kernel
theorem dX5_leastRest_35 : decode cX5_leastRest 35 = .ok (.iload_n 3, 1) := by decide +kernel
theorem dX5_leastRest_36 : decode cX5_leastRest 36 = .ok (.iload 5, 2) := by decide +kernel
theorem dX5_leastRest_38 : decode cX5_leastRest 38 = .ok (.invokevirtual 105, 3) := by decide +kernel
theorem dX5_leastRest_41 : decode cX5_leastRest 41 = .ok (.invokestatic 109, 3) := by decide +kernel
theorem dX5_leastRest_44 : decode cX5_leastRest 44 = .ok (.istore 4, 2) := by decide +kernel
theorem dX5_leastRest_46 : decode cX5_leastRest 46 = .ok (.iinc 5 1, 3) := by decide +kernel
theorem dX5_leastRest_49 : decode cX5_leastRest 49 = .ok (.goto (-32), 3) := by decide +kernel
theorem dX5_leastRest_52 : decode cX5_leastRest 52 = .ok (.iload 4, 2) := by decide +kernel
theorem dX5_leastRest_54 : decode cX5_leastRest 54 = .ok (.ireturn, 1) := by decide +kernel
theorem dX5_restBy_0 : decode cX5_restBy 0 = .ok (.aload_n 0, 1) := by decide +kernel
theorem dX5_restBy_1 : decode cX5_restBy 1 = .ok (.iload_n 1, 1) := by decide +kernel
theorem dX5_restBy_2 : decode cX5_restBy 2 = .ok (.iload_n 2, 1) := by decide +kernel
theorem dX5_restBy_3 : decode cX5_restBy 3 = .ok (.invokevirtual 74, 3) := by decide +kernel
theorem dX5_restBy_6 : decode cX5_restBy 6 = .ok (.ifCond .ne 6, 3) := by decide +kernel
theorem dX5_restBy_9 : decode cX5_restBy 9 = .ok (.ldc 95, 2) := by decide +kernel
theorem dX5_restBy_11 : decode cX5_restBy 11 = .ok (.ireturn, 1) := by decide +kernel
theorem dX5_restBy_12 : decode cX5_restBy 12 = .ok (.aload_n 0, 1) := by decide +kernel
theorem dX5_restBy_13 : decode cX5_restBy 13 = .ok (.getfield 22, 3) := by decide +kernel
theorem dX5_restBy_16 : decode cX5_restBy 16 = .ok (.iload_n 1, 1) := by decide +kernel
theorem dX5_restBy_17 : decode cX5_restBy 17 = .ok (.iload_n 2, 1) := by decide +kernel
theorem dX5_restBy_18 : decode cX5_restBy 18 = .ok (.iload 4, 2) := by decide +kernel
theorem dX5_restBy_20 : decode cX5_restBy 20 = .ok (.invokestatic 88, 3) := by decide +kernel
theorem dX5_restBy_23 : decode cX5_restBy 23 = .ok (.iaload, 1) := by decide +kernel
theorem dX5_restBy_24 : decode cX5_restBy 24 = .ok (.istore 5, 2) := by decide +kernel
theorem dX5_restBy_26 : decode cX5_restBy 26 = .ok (.iload 5, 2) := by decide +kernel
theorem dX5_restBy_28 : decode cX5_restBy 28 = .ok (.ldc 95, 2) := by decide +kernel
theorem dX5_restBy_30 : decode cX5_restBy 30 = .ok (.if_icmp .lt 6, 3) := by decide +kernel
theorem dX5_restBy_33 : decode cX5_restBy 33 = .ok (.ldc 95, 2) := by decide +kernel
theorem dX5_restBy_35 : decode cX5_restBy 35 = .ok (.ireturn, 1) := by decide +kernel
theorem dX5_restBy_36 : decode cX5_restBy 36 = .ok (.iload_n 3, 1) := by decide +kernel
theorem dX5_restBy_37 : decode cX5_restBy 37 = .ok (.iconst 3, 1) := by decide +kernel
theorem dX5_restBy_38 : decode cX5_restBy 38 = .ok (.if_icmp .eq 14, 3) := by decide +kernel
theorem dX5_restBy_41 : decode cX5_restBy 41 = .ok (.iload_n 3, 1) := by decide +kernel
theorem dX5_restBy_42 : decode cX5_restBy 42 = .ok (.iload 4, 2) := by decide +kernel
theorem dX5_restBy_44 : decode cX5_restBy 44 = .ok (.if_icmp .eq 8, 3) := by decide +kernel
theorem dX5_restBy_47 : decode cX5_restBy 47 = .ok (.bipush 100, 2) := by decide +kernel
theorem dX5_restBy_49 : decode cX5_restBy 49 = .ok (.goto 4, 3) := by decide +kernel
theorem dX5_restBy_52 : decode cX5_restBy 52 = .ok (.iconst 0, 1) := by decide +kernel
theorem dX5_restBy_53 : decode cX5_restBy 53 = .ok (.istore 6, 2) := by decide +kernel
theorem dX5_restBy_55 : decode cX5_restBy 55 = .ok (.iload 4, 2) := by decide +kernel
theorem dX5_restBy_57 : decode cX5_restBy 57 = .ok (.iconst 1, 1) := by decide +kernel
theorem dX5_restBy_58 : decode cX5_restBy 58 = .ok (.if_icmp .eq 7, 3) := by decide +kernel
theorem dX5_restBy_61 : decode cX5_restBy 61 = .ok (.iconst 1, 1) := by decide +kernel
theorem dX5_restBy_62 : decode cX5_restBy 62 = .ok (.goto 4, 3) := by decide +kernel
theorem dX5_restBy_65 : decode cX5_restBy 65 = .ok (.iconst 0, 1) := by decide +kernel
theorem dX5_restBy_66 : decode cX5_restBy 66 = .ok (.istore 7, 2) := by decide +kernel
theorem dX5_restBy_68 : decode cX5_restBy 68 = .ok (.iload 5, 2) := by decide +kernel
theorem dX5_restBy_70 : decode cX5_restBy 70 = .ok (.iconst 4, 1) := by decide +kernel
theorem dX5_restBy_71 : decode cX5_restBy 71 = .ok (.idiv, 1) := by decide +kernel
theorem dX5_restBy_72 : decode cX5_restBy 72 = .ok (.iload 6, 2) := by decide +kernel
theorem dX5_restBy_74 : decode cX5_restBy 74 = .ok (.iadd, 1) := by decide +kernel
theorem dX5_restBy_75 : decode cX5_restBy 75 = .ok (.iload 7, 2) := by decide +kernel
theorem dX5_restBy_77 : decode cX5_restBy 77 = .ok (.iadd, 1) := by decide +kernel
theorem dX5_restBy_78 : decode cX5_restBy 78 = .ok (.iconst 4, 1) := by decide +kernel
theorem dX5_restBy_79 : decode cX5_restBy 79 = .ok (.imul, 1) := by decide +kernel
theorem dX5_restBy_80 : decode cX5_restBy 80 = .ok (.iload 4, 2) := by decide +kernel
theorem dX5_restBy_82 : decode cX5_restBy 82 = .ok (.iadd, 1) := by decide +kernel
theorem dX5_restBy_83 : decode cX5_restBy 83 = .ok (.ireturn, 1) := by decide +kernel
theorem dX5_walk_0 : decode cX5_walk 0 = .ok (.aload_n 0, 1) := by decide +kernel
theorem dX5_walk_1 : decode cX5_walk 1 = .ok (.getfield 50, 3) := by decide +kernel
theorem dX5_walk_4 : decode cX5_walk 4 = .ok (.istore_n 1, 1) := by decide +kernel
theorem dX5_walk_5 : decode cX5_walk 5 = .ok (.iconst 3, 1) := by decide +kernel
theorem dX5_walk_6 : decode cX5_walk 6 = .ok (.istore_n 2, 1) := by decide +kernel
theorem dX5_walk_7 : decode cX5_walk 7 = .ok (.aload_n 0, 1) := by decide +kernel
theorem dX5_walk_8 : decode cX5_walk 8 = .ok (.getfield 25, 3) := by decide +kernel
theorem dX5_walk_11 : decode cX5_walk 11 = .ok (.aload_n 0, 1) := by decide +kernel
theorem dX5_walk_12 : decode cX5_walk 12 = .ok (.getfield 38, 3) := by decide +kernel
theorem dX5_walk_15 : decode cX5_walk 15 = .ok (.iload_n 1, 1) := by decide +kernel
theorem dX5_walk_16 : decode cX5_walk 16 = .ok (.iastore, 1) := by decide +kernel
theorem dX5_walk_17 : decode cX5_walk 17 = .ok (.aload_n 0, 1) := by decide +kernel
theorem dX5_walk_18 : decode cX5_walk 18 = .ok (.getfield 38, 3) := by decide +kernel
theorem dX5_walk_21 : decode cX5_walk 21 = .ok (.istore_n 3, 1) := by decide +kernel
theorem dX5_walk_22 : decode cX5_walk 22 = .ok (.iload_n 3, 1) := by decide +kernel
theorem dX5_walk_23 : decode cX5_walk 23 = .ok (.aload_n 0, 1) := by decide +kernel
theorem dX5_walk_24 : decode cX5_walk 24 = .ok (.getfield 44, 3) := by decide +kernel
theorem dX5_walk_27 : decode cX5_walk 27 = .ok (.if_icmp .ge 47, 3) := by decide +kernel
theorem dX5_walk_30 : decode cX5_walk 30 = .ok (.aload_n 0, 1) := by decide +kernel
theorem dX5_walk_31 : decode cX5_walk 31 = .ok (.iload_n 3, 1) := by decide +kernel
theorem dX5_walk_32 : decode cX5_walk 32 = .ok (.iload_n 1, 1) := by decide +kernel
theorem dX5_walk_33 : decode cX5_walk 33 = .ok (.invokevirtual 74, 3) := by decide +kernel
theorem dX5_walk_36 : decode cX5_walk 36 = .ok (.ifCond .eq 38, 3) := by decide +kernel
theorem dX5_walk_39 : decode cX5_walk 39 = .ok (.aload_n 0, 1) := by decide +kernel
theorem dX5_walk_40 : decode cX5_walk 40 = .ok (.getfield 22, 3) := by decide +kernel
theorem dX5_walk_43 : decode cX5_walk 43 = .ok (.iload_n 3, 1) := by decide +kernel
theorem dX5_walk_44 : decode cX5_walk 44 = .ok (.iload_n 1, 1) := by decide +kernel
theorem dX5_walk_45 : decode cX5_walk 45 = .ok (.iload_n 2, 1) := by decide +kernel
theorem dX5_walk_46 : decode cX5_walk 46 = .ok (.invokestatic 88, 3) := by decide +kernel
theorem dX5_walk_49 : decode cX5_walk 49 = .ok (.iaload, 1) := by decide +kernel
theorem dX5_walk_50 : decode cX5_walk 50 = .ok (.iconst 4, 1) := by decide +kernel
theorem dX5_walk_51 : decode cX5_walk 51 = .ok (.irem, 1) := by decide +kernel
theorem dX5_walk_52 : decode cX5_walk 52 = .ok (.istore_n 2, 1) := by decide +kernel
theorem dX5_walk_53 : decode cX5_walk 53 = .ok (.iload_n 1, 1) := by decide +kernel
theorem dX5_walk_54 : decode cX5_walk 54 = .ok (.iload_n 2, 1) := by decide +kernel
theorem dX5_walk_55 : decode cX5_walk 55 = .ok (.iconst 1, 1) := by decide +kernel
theorem dX5_walk_56 : decode cX5_walk 56 = .ok (.isub, 1) := by decide +kernel
theorem dX5_walk_57 : decode cX5_walk 57 = .ok (.iadd, 1) := by decide +kernel
theorem dX5_walk_58 : decode cX5_walk 58 = .ok (.istore_n 1, 1) := by decide +kernel
theorem dX5_walk_59 : decode cX5_walk 59 = .ok (.aload_n 0, 1) := by decide +kernel
theorem dX5_walk_60 : decode cX5_walk 60 = .ok (.getfield 25, 3) := by decide +kernel
theorem dX5_walk_63 : decode cX5_walk 63 = .ok (.iload_n 3, 1) := by decide +kernel
theorem dX5_walk_64 : decode cX5_walk 64 = .ok (.iconst 1, 1) := by decide +kernel
theorem dX5_walk_65 : decode cX5_walk 65 = .ok (.iadd, 1) := by decide +kernel
theorem dX5_walk_66 : decode cX5_walk 66 = .ok (.iload_n 1, 1) := by decide +kernel
theorem dX5_walk_67 : decode cX5_walk 67 = .ok (.iastore, 1) := by decide +kernel
theorem dX5_walk_68 : decode cX5_walk 68 = .ok (.iinc 3 1, 3) := by decide +kernel
theorem dX5_walk_71 : decode cX5_walk 71 = .ok (.goto (-49), 3) := by decide +kernel
theorem dX5_walk_74 : decode cX5_walk 74 = .ok (.return_, 1) := by decide +kernel
theorem dX6_init_0 : decode cX6_init 0 = .ok (.aload_n 0, 1) := by decide +kernel
theorem dX6_init_1 : decode cX6_init 1 = .ok (.invokespecial 1, 3) := by decide +kernel
theorem dX6_init_4 : decode cX6_init 4 = .ok (.aload_n 0, 1) := by decide +kernel
theorem dX6_init_5 : decode cX6_init 5 = .ok (.sipush 300, 3) := by decide +kernel
theorem dX6_init_8 : decode cX6_init 8 = .ok (.newarray .byte, 2) := by decide +kernel
theorem dX6_init_10 : decode cX6_init 10 = .ok (.putfield 9, 3) := by decide +kernel
theorem dX6_init_13 : decode cX6_init 13 = .ok (.aload_n 0, 1) := by decide +kernel
theorem dX6_init_14 : decode cX6_init 14 = .ok (.new 13, 3) := by decide +kernel
theorem dX6_init_17 : decode cX6_init 17 = .ok (.dup, 1) := by decide +kernel
theorem dX6_init_18 : decode cX6_init 18 = .ok (.invokespecial 15, 3) := by decide +kernel
theorem dX6_init_21 : decode cX6_init 21 = .ok (.putfield 16, 3) := by decide +kernel
theorem dX6_init_24 : decode cX6_init 24 = .ok (.aload_n 0, 1) := by decide +kernel
theorem dX6_init_25 : decode cX6_init 25 = .ok (.new 20, 3) := by decide +kernel
theorem dX6_init_28 : decode cX6_init 28 = .ok (.dup, 1) := by decide +kernel
theorem dX6_init_29 : decode cX6_init 29 = .ok (.invokespecial 22, 3) := by decide +kernel
theorem dX6_init_32 : decode cX6_init 32 = .ok (.putfield 23, 3) := by decide +kernel
theorem dX6_init_35 : decode cX6_init 35 = .ok (.aload_n 0, 1) := by decide +kernel
theorem dX6_init_36 : decode cX6_init 36 = .ok (.new 20, 3) := by decide +kernel
theorem dX6_init_39 : decode cX6_init 39 = .ok (.dup, 1) := by decide +kernel
theorem dX6_init_40 : decode cX6_init 40 = .ok (.invokespecial 22, 3) := by decide +kernel
theorem dX6_init_43 : decode cX6_init 43 = .ok (.putfield 27, 3) := by decide +kernel
theorem dX6_init_46 : decode cX6_init 46 = .ok (.aload_n 0, 1) := by decide +kernel
theorem dX6_init_47 : decode cX6_init 47 = .ok (.bipush 6, 2) := by decide +kernel
theorem dX6_init_49 : decode cX6_init 49 = .ok (.newarray .int, 2) := by decide +kernel
theorem dX6_init_51 : decode cX6_init 51 = .ok (.dup, 1) := by decide +kernel
theorem dX6_init_52 : decode cX6_init 52 = .ok (.iconst 0, 1) := by decide +kernel
theorem dX6_init_53 : decode cX6_init 53 = .ok (.iconst 1, 1) := by decide +kernel
theorem dX6_init_54 : decode cX6_init 54 = .ok (.iastore, 1) := by decide +kernel
theorem dX6_init_55 : decode cX6_init 55 = .ok (.dup, 1) := by decide +kernel
theorem dX6_init_56 : decode cX6_init 56 = .ok (.iconst 1, 1) := by decide +kernel
theorem dX6_init_57 : decode cX6_init 57 = .ok (.iconst 3, 1) := by decide +kernel
theorem dX6_init_58 : decode cX6_init 58 = .ok (.iastore, 1) := by decide +kernel
theorem dX6_init_59 : decode cX6_init 59 = .ok (.dup, 1) := by decide +kernel
theorem dX6_init_60 : decode cX6_init 60 = .ok (.iconst 2, 1) := by decide +kernel
theorem dX6_init_61 : decode cX6_init 61 = .ok (.iconst 1, 1) := by decide +kernel
theorem dX6_init_62 : decode cX6_init 62 = .ok (.iastore, 1) := by decide +kernel
theorem dX6_init_63 : decode cX6_init 63 = .ok (.dup, 1) := by decide +kernel
theorem dX6_init_64 : decode cX6_init 64 = .ok (.iconst 3, 1) := by decide +kernel
theorem dX6_init_65 : decode cX6_init 65 = .ok (.iconst 5, 1) := by decide +kernel
theorem dX6_init_66 : decode cX6_init 66 = .ok (.iastore, 1) := by decide +kernel
theorem dX6_init_67 : decode cX6_init 67 = .ok (.dup, 1) := by decide +kernel
theorem dX6_init_68 : decode cX6_init 68 = .ok (.iconst 4, 1) := by decide +kernel
theorem dX6_init_69 : decode cX6_init 69 = .ok (.iconst 1, 1) := by decide +kernel
theorem dX6_init_70 : decode cX6_init 70 = .ok (.iastore, 1) := by decide +kernel
theorem dX6_init_71 : decode cX6_init 71 = .ok (.dup, 1) := by decide +kernel
theorem dX6_init_72 : decode cX6_init 72 = .ok (.iconst 5, 1) := by decide +kernel
theorem dX6_init_73 : decode cX6_init 73 = .ok (.bipush 10, 2) := by decide +kernel
theorem dX6_init_75 : decode cX6_init 75 = .ok (.iastore, 1) := by decide +kernel
theorem dX6_init_76 : decode cX6_init 76 = .ok (.putfield 30, 3) := by decide +kernel
theorem dX6_init_79 : decode cX6_init 79 = .ok (.aload_n 0, 1) := by decide +kernel
theorem dX6_init_80 : decode cX6_init 80 = .ok (.iconst 4, 1) := by decide +kernel
theorem dX6_init_81 : decode cX6_init 81 = .ok (.bipush 10, 2) := by decide +kernel
theorem dX6_init_83 : decode cX6_init 83 = .ok (.multianewarray 34 2, 4) := by decide +kernel
theorem dX6_init_87 : decode cX6_init 87 = .ok (.putfield 36, 3) := by decide +kernel
theorem dX6_init_90 : decode cX6_init 90 = .ok (.aload_n 0, 1) := by decide +kernel
theorem dX6_init_91 : decode cX6_init 91 = .ok (.new 39, 3) := by decide +kernel
theorem dX6_init_94 : decode cX6_init 94 = .ok (.dup, 1) := by decide +kernel
theorem dX6_init_95 : decode cX6_init 95 = .ok (.invokespecial 41, 3) := by decide +kernel
theorem dX6_init_98 : decode cX6_init 98 = .ok (.putfield 42, 3) := by decide +kernel
theorem dX6_init_101 : decode cX6_init 101 = .ok (.aload_n 0, 1) := by decide +kernel
theorem dX6_init_102 : decode cX6_init 102 = .ok (.new 46, 3) := by decide +kernel
theorem dX6_init_105 : decode cX6_init 105 = .ok (.dup, 1) := by decide +kernel
theorem dX6_init_106 : decode cX6_init 106 = .ok (.invokespecial 48, 3) := by decide +kernel
theorem dX6_init_109 : decode cX6_init 109 = .ok (.putfield 49, 3) := by decide +kernel
theorem dX6_init_112 : decode cX6_init 112 = .ok (.aload_n 0, 1) := by decide +kernel
theorem dX6_init_113 : decode cX6_init 113 = .ok (.new 39, 3) := by decide +kernel
theorem dX6_init_116 : decode cX6_init 116 = .ok (.dup, 1) := by decide +kernel
theorem dX6_init_117 : decode cX6_init 117 = .ok (.invokespecial 41, 3) := by decide +kernel
theorem dX6_init_120 : decode cX6_init 120 = .ok (.putfield 53, 3) := by decide +kernel
theorem dX6_init_123 : decode cX6_init 123 = .ok (.aload_n 0, 1) := by decide +kernel
theorem dX6_init_124 : decode cX6_init 124 = .ok (.new 39, 3) := by decide +kernel
theorem dX6_init_127 : decode cX6_init 127 = .ok (.dup, 1) := by decide +kernel
theorem dX6_init_128 : decode cX6_init 128 = .ok (.invokespecial 41, 3) := by decide +kernel
theorem dX6_init_131 : decode cX6_init 131 = .ok (.putfield 56, 3) := by decide +kernel
theorem dX6_init_134 : decode cX6_init 134 = .ok (.aload_n 0, 1) := by decide +kernel
theorem dX6_init_135 : decode cX6_init 135 = .ok (.iconst 2, 1) := by decide +kernel
theorem dX6_init_136 : decode cX6_init 136 = .ok (.newarray .boolean, 2) := by decide +kernel
theorem dX6_init_138 : decode cX6_init 138 = .ok (.putfield 59, 3) := by decide +kernel
theorem dX6_init_141 : decode cX6_init 141 = .ok (.aload_n 0, 1) := by decide +kernel
theorem dX6_init_142 : decode cX6_init 142 = .ok (.new 63, 3) := by decide +kernel
theorem dX6_init_145 : decode cX6_init 145 = .ok (.dup, 1) := by decide +kernel
theorem dX6_init_146 : decode cX6_init 146 = .ok (.invokespecial 65, 3) := by decide +kernel
theorem dX6_init_149 : decode cX6_init 149 = .ok (.putfield 66, 3) := by decide +kernel
theorem dX6_init_152 : decode cX6_init 152 = .ok (.aload_n 0, 1) := by decide +kernel
theorem dX6_init_153 : decode cX6_init 153 = .ok (.new 70, 3) := by decide +kernel
theorem dX6_init_156 : decode cX6_init 156 = .ok (.dup, 1) := by decide +kernel
theorem dX6_init_157 : decode cX6_init 157 = .ok (.invokespecial 72, 3) := by decide +kernel
theorem dX6_init_160 : decode cX6_init 160 = .ok (.putfield 73, 3) := by decide +kernel
theorem dX6_init_163 : decode cX6_init 163 = .ok (.return_, 1) := by decide +kernel
theorem dX6_type_0 : decode cX6_type 0 = .ok (.iload_n 3, 1) := by decide +kernel
theorem dX6_type_1 : decode cX6_type 1 = .ok (.iconst 1, 1) := by decide +kernel
theorem dX6_type_2 : decode cX6_type 2 = .ok (.if_icmp .lt 9, 3) := by decide +kernel
theorem dX6_type_5 : decode cX6_type 5 = .ok (.iload_n 3, 1) := by decide +kernel
theorem dX6_type_6 : decode cX6_type 6 = .ok (.bipush 8, 2) := by decide +kernel
theorem dX6_type_8 : decode cX6_type 8 = .ok (.if_icmp .le 5, 3) := by decide +kernel
theorem dX6_type_11 : decode cX6_type 11 = .ok (.iconst (-1), 1) := by decide +kernel
theorem dX6_type_12 : decode cX6_type 12 = .ok (.ireturn, 1) := by decide +kernel
theorem dX6_type_13 : decode cX6_type 13 = .ok (.aload_n 0, 1) := by decide +kernel
theorem dX6_type_14 : decode cX6_type 14 = .ok (.getfield 77, 3) := by decide +kernel
theorem dX6_type_17 : decode cX6_type 17 = .ok (.iload_n 3, 1) := by decide +kernel
theorem dX6_type_18 : decode cX6_type 18 = .ok (.iadd, 1) := by decide +kernel
theorem dX6_type_19 : decode cX6_type 19 = .ok (.sipush 300, 3) := by decide +kernel
theorem dX6_type_22 : decode cX6_type 22 = .ok (.if_icmp .le 6, 3) := by decide +kernel
theorem dX6_type_25 : decode cX6_type 25 = .ok (.bipush (-3), 2) := by decide +kernel
theorem dX6_type_27 : decode cX6_type 27 = .ok (.ireturn, 1) := by decide +kernel
theorem dX6_type_28 : decode cX6_type 28 = .ok (.iload_n 3, 1) := by decide +kernel
theorem dX6_type_29 : decode cX6_type 29 = .ok (.iconst 1, 1) := by decide +kernel
theorem dX6_type_30 : decode cX6_type 30 = .ok (.isub, 1) := by decide +kernel
theorem dX6_type_31 : decode cX6_type 31 = .ok (.istore 4, 2) := by decide +kernel
theorem dX6_type_33 : decode cX6_type 33 = .ok (.iload 4, 2) := by decide +kernel
theorem dX6_type_35 : decode cX6_type 35 = .ok (.ifCond .lt 37, 3) := by decide +kernel
theorem dX6_type_38 : decode cX6_type 38 = .ok (.aload_n 0, 1) := by decide +kernel
theorem dX6_type_39 : decode cX6_type 39 = .ok (.getfield 9, 3) := by decide +kernel
theorem dX6_type_42 : decode cX6_type 42 = .ok (.aload_n 0, 1) := by decide +kernel
theorem dX6_type_43 : decode cX6_type 43 = .ok (.getfield 77, 3) := by decide +kernel
theorem dX6_type_46 : decode cX6_type 46 = .ok (.lload_n 1, 1) := by decide +kernel
theorem dX6_type_47 : decode cX6_type 47 = .ok (.bipush 8, 2) := by decide +kernel
theorem dX6_type_49 : decode cX6_type 49 = .ok (.iload 4, 2) := by decide +kernel
theorem dX6_type_51 : decode cX6_type 51 = .ok (.imul, 1) := by decide +kernel
theorem dX6_type_52 : decode cX6_type 52 = .ok (.lushr, 1) := by decide +kernel
theorem dX6_type_53 : decode cX6_type 53 = .ok (.l2i, 1) := by decide +kernel
theorem dX6_type_54 : decode cX6_type 54 = .ok (.i2b, 1) := by decide +kernel
theorem dX6_type_55 : decode cX6_type 55 = .ok (.bastore, 1) := by decide +kernel
theorem dX6_type_56 : decode cX6_type 56 = .ok (.aload_n 0, 1) := by decide +kernel
theorem dX6_type_57 : decode cX6_type 57 = .ok (.dup, 1) := by decide +kernel
theorem dX6_type_58 : decode cX6_type 58 = .ok (.getfield 77, 3) := by decide +kernel
theorem dX6_type_61 : decode cX6_type 61 = .ok (.iconst 1, 1) := by decide +kernel
theorem dX6_type_62 : decode cX6_type 62 = .ok (.iadd, 1) := by decide +kernel
theorem dX6_type_63 : decode cX6_type 63 = .ok (.putfield 77, 3) := by decide +kernel
theorem dX6_type_66 : decode cX6_type 66 = .ok (.iinc 4 (-1), 3) := by decide +kernel
theorem dX6_type_69 : decode cX6_type 69 = .ok (.goto (-36), 3) := by decide +kernel
theorem dX6_type_72 : decode cX6_type 72 = .ok (.aload_n 0, 1) := by decide +kernel
theorem dX6_type_73 : decode cX6_type 73 = .ok (.getfield 77, 3) := by decide +kernel
theorem dX6_type_76 : decode cX6_type 76 = .ok (.ireturn, 1) := by decide +kernel
theorem dX6_clear_0 : decode cX6_clear 0 = .ok (.aload_n 0, 1) := by decide +kernel
theorem dX6_clear_1 : decode cX6_clear 1 = .ok (.getfield 77, 3) := by decide +kernel
theorem dX6_clear_4 : decode cX6_clear 4 = .ok (.istore_n 1, 1) := by decide +kernel
theorem dX6_clear_5 : decode cX6_clear 5 = .ok (.aload_n 0, 1) := by decide +kernel
theorem dX6_clear_6 : decode cX6_clear 6 = .ok (.iconst 0, 1) := by decide +kernel
theorem dX6_clear_7 : decode cX6_clear 7 = .ok (.putfield 77, 3) := by decide +kernel
theorem dX6_clear_10 : decode cX6_clear 10 = .ok (.iload_n 1, 1) := by decide +kernel
theorem dX6_clear_11 : decode cX6_clear 11 = .ok (.ireturn, 1) := by decide +kernel
theorem dX6_wall_0 : decode cX6_wall 0 = .ok (.aload_n 0, 1) := by decide +kernel
theorem dX6_wall_1 : decode cX6_wall 1 = .ok (.getfield 16, 3) := by decide +kernel
theorem dX6_wall_4 : decode cX6_wall 4 = .ok (.aload_n 0, 1) := by decide +kernel
theorem dX6_wall_5 : decode cX6_wall 5 = .ok (.getfield 9, 3) := by decide +kernel
theorem dX6_wall_8 : decode cX6_wall 8 = .ok (.aload_n 0, 1) := by decide +kernel
theorem dX6_wall_9 : decode cX6_wall 9 = .ok (.getfield 77, 3) := by decide +kernel
theorem dX6_wall_12 : decode cX6_wall 12 = .ok (.aload_n 0, 1) := by decide +kernel
theorem dX6_wall_13 : decode cX6_wall 13 = .ok (.getfield 27, 3) := by decide +kernel
theorem dX6_wall_16 : decode cX6_wall 16 = .ok (.invokevirtual 81, 3) := by decide +kernel
theorem dX6_wall_19 : decode cX6_wall 19 = .ok (.istore_n 1, 1) := by decide +kernel
theorem dX6_wall_20 : decode cX6_wall 20 = .ok (.iload_n 1, 1) := by decide +kernel
theorem dX6_wall_21 : decode cX6_wall 21 = .ok (.ifCond .lt 8, 3) := by decide +kernel
theorem dX6_wall_24 : decode cX6_wall 24 = .ok (.bipush (-10), 2) := by decide +kernel
theorem dX6_wall_26 : decode cX6_wall 26 = .ok (.iload_n 1, 1) := by decide +kernel
theorem dX6_wall_27 : decode cX6_wall 27 = .ok (.isub, 1) := by decide +kernel
theorem dX6_wall_28 : decode cX6_wall 28 = .ok (.ireturn, 1) := by decide +kernel
theorem dX6_wall_29 : decode cX6_wall 29 = .ok (.aload_n 0, 1) := by decide +kernel
theorem dX6_wall_30 : decode cX6_wall 30 = .ok (.getfield 23, 3) := by decide +kernel
theorem dX6_wall_33 : decode cX6_wall 33 = .ok (.aload_n 0, 1) := by decide +kernel
theorem dX6_wall_34 : decode cX6_wall 34 = .ok (.getfield 27, 3) := by decide +kernel
theorem dX6_wall_37 : decode cX6_wall 37 = .ok (.invokevirtual 85, 3) := by decide +kernel
theorem dX6_wall_40 : decode cX6_wall 40 = .ok (.aload_n 0, 1) := by decide +kernel
theorem dX6_wall_41 : decode cX6_wall 41 = .ok (.iconst 0, 1) := by decide +kernel
theorem dX6_wall_42 : decode cX6_wall 42 = .ok (.putfield 77, 3) := by decide +kernel
theorem dX6_wall_45 : decode cX6_wall 45 = .ok (.aload_n 0, 1) := by decide +kernel
theorem dX6_wall_46 : decode cX6_wall 46 = .ok (.getfield 42, 3) := by decide +kernel
theorem dX6_wall_49 : decode cX6_wall 49 = .ok (.aload_n 0, 1) := by decide +kernel
theorem dX6_wall_50 : decode cX6_wall 50 = .ok (.getfield 23, 3) := by decide +kernel
theorem dX6_wall_53 : decode cX6_wall 53 = .ok (.invokevirtual 89, 3) := by decide +kernel
theorem dX6_wall_56 : decode cX6_wall 56 = .ok (.aload_n 0, 1) := by decide +kernel
theorem dX6_wall_57 : decode cX6_wall 57 = .ok (.getfield 42, 3) := by decide +kernel
theorem dX6_wall_60 : decode cX6_wall 60 = .ok (.iconst 0, 1) := by decide +kernel
theorem dX6_wall_61 : decode cX6_wall 61 = .ok (.putfield 92, 3) := by decide +kernel
theorem dX6_wall_64 : decode cX6_wall 64 = .ok (.iconst 0, 1) := by decide +kernel
theorem dX6_wall_65 : decode cX6_wall 65 = .ok (.istore_n 2, 1) := by decide +kernel
theorem dX6_wall_66 : decode cX6_wall 66 = .ok (.iload_n 2, 1) := by decide +kernel
theorem dX6_wall_67 : decode cX6_wall 67 = .ok (.iconst 4, 1) := by decide +kernel
theorem dX6_wall_68 : decode cX6_wall 68 = .ok (.if_icmp .ge 19, 3) := by decide +kernel
theorem dX6_wall_71 : decode cX6_wall 71 = .ok (.aload_n 0, 1) := by decide +kernel
theorem dX6_wall_72 : decode cX6_wall 72 = .ok (.getfield 36, 3) := by decide +kernel
theorem dX6_wall_75 : decode cX6_wall 75 = .ok (.iload_n 2, 1) := by decide +kernel
theorem dX6_wall_76 : decode cX6_wall 76 = .ok (.aaload, 1) := by decide +kernel
theorem dX6_wall_77 : decode cX6_wall 77 = .ok (.iconst 0, 1) := by decide +kernel
theorem dX6_wall_78 : decode cX6_wall 78 = .ok (.invokestatic 95, 3) := by decide +kernel
theorem dX6_wall_81 : decode cX6_wall 81 = .ok (.iinc 2 1, 3) := by decide +kernel
theorem dX6_wall_84 : decode cX6_wall 84 = .ok (.goto (-18), 3) := by decide +kernel
theorem dX6_wall_87 : decode cX6_wall 87 = .ok (.iconst 0, 1) := by decide +kernel
theorem dX6_wall_88 : decode cX6_wall 88 = .ok (.istore_n 2, 1) := by decide +kernel
theorem dX6_wall_89 : decode cX6_wall 89 = .ok (.iload_n 2, 1) := by decide +kernel
theorem dX6_wall_90 : decode cX6_wall 90 = .ok (.iconst 2, 1) := by decide +kernel
theorem dX6_wall_91 : decode cX6_wall 91 = .ok (.if_icmp .ge 16, 3) := by decide +kernel
theorem dX6_wall_94 : decode cX6_wall 94 = .ok (.aload_n 0, 1) := by decide +kernel
theorem dX6_wall_95 : decode cX6_wall 95 = .ok (.getfield 59, 3) := by decide +kernel
theorem dX6_wall_98 : decode cX6_wall 98 = .ok (.iload_n 2, 1) := by decide +kernel
theorem dX6_wall_99 : decode cX6_wall 99 = .ok (.iconst 0, 1) := by decide +kernel
theorem dX6_wall_100 : decode cX6_wall 100 = .ok (.bastore, 1) := by decide +kernel
theorem dX6_wall_101 : decode cX6_wall 101 = .ok (.iinc 2 1, 3) := by decide +kernel
theorem dX6_wall_104 : decode cX6_wall 104 = .ok (.goto (-15), 3) := by decide +kernel
theorem dX6_wall_107 : decode cX6_wall 107 = .ok (.aload_n 0, 1) := by decide +kernel
theorem dX6_wall_108 : decode cX6_wall 108 = .ok (.getfield 23, 3) := by decide +kernel
theorem dX6_wall_111 : decode cX6_wall 111 = .ok (.getfield 101, 3) := by decide +kernel
theorem dX6_wall_114 : decode cX6_wall 114 = .ok (.ireturn, 1) := by decide +kernel
theorem dX6_brick_0 : decode cX6_brick 0 = .ok (.aload_n 0, 1) := by decide +kernel
theorem dX6_brick_1 : decode cX6_brick 1 = .ok (.getfield 23, 3) := by decide +kernel
theorem dX6_brick_4 : decode cX6_brick 4 = .ok (.iload_n 1, 1) := by decide +kernel
theorem dX6_brick_5 : decode cX6_brick 5 = .ok (.iload_n 2, 1) := by decide +kernel
theorem dX6_brick_6 : decode cX6_brick 6 = .ok (.invokevirtual 104, 3) := by decide +kernel
theorem dX6_brick_9 : decode cX6_brick 9 = .ok (.ifCond .ne 5, 3) := by decide +kernel
theorem dX6_brick_12 : decode cX6_brick 12 = .ok (.iconst (-1), 1) := by decide +kernel
theorem dX6_brick_13 : decode cX6_brick 13 = .ok (.ireturn, 1) := by decide +kernel
theorem dX6_brick_14 : decode cX6_brick 14 = .ok (.aload_n 0, 1) := by decide +kernel
theorem dX6_brick_15 : decode cX6_brick 15 = .ok (.getfield 23, 3) := by decide +kernel
theorem dX6_brick_18 : decode cX6_brick 18 = .ok (.iload_n 1, 1) := by decide +kernel
theorem dX6_brick_19 : decode cX6_brick 19 = .ok (.iload_n 2, 1) := by decide +kernel
theorem dX6_brick_20 : decode cX6_brick 20 = .ok (.invokevirtual 108, 3) := by decide +kernel
theorem dX6_brick_23 : decode cX6_brick 23 = .ok (.ifCond .eq 7, 3) := by decide +kernel
theorem dX6_brick_26 : decode cX6_brick 26 = .ok (.iconst 0, 1) := by decide +kernel
theorem dX6_brick_27 : decode cX6_brick 27 = .ok (.goto 4, 3) := by decide +kernel
theorem dX6_brick_30 : decode cX6_brick 30 = .ok (.iconst 1, 1) := by decide +kernel
theorem dX6_brick_31 : decode cX6_brick 31 = .ok (.aload_n 0, 1) := by decide +kernel
theorem dX6_brick_32 : decode cX6_brick 32 = .ok (.getfield 23, 3) := by decide +kernel
theorem dX6_brick_35 : decode cX6_brick 35 = .ok (.iload_n 2, 1) := by decide +kernel
theorem dX6_brick_36 : decode cX6_brick 36 = .ok (.invokevirtual 111, 3) := by decide +kernel
theorem dX6_brick_39 : decode cX6_brick 39 = .ok (.ifCond .eq 7, 3) := by decide +kernel
theorem dX6_brick_42 : decode cX6_brick 42 = .ok (.iconst 2, 1) := by decide +kernel
theorem dX6_brick_43 : decode cX6_brick 43 = .ok (.goto 4, 3) := by decide +kernel
theorem dX6_brick_46 : decode cX6_brick 46 = .ok (.iconst 0, 1) := by decide +kernel
theorem dX6_brick_47 : decode cX6_brick 47 = .ok (.iadd, 1) := by decide +kernel
theorem dX6_brick_48 : decode cX6_brick 48 = .ok (.ireturn, 1) := by decide +kernel
theorem dX6_hearth_0 : decode cX6_hearth 0 = .ok (.aload_n 0, 1) := by decide +kernel
theorem dX6_hearth_1 : decode cX6_hearth 1 = .ok (.getfield 23, 3) := by decide +kernel
theorem dX6_hearth_4 : decode cX6_hearth 4 = .ok (.iload_n 1, 1) := by decide +kernel
theorem dX6_hearth_5 : decode cX6_hearth 5 = .ok (.invokevirtual 115, 3) := by decide +kernel
theorem dX6_hearth_8 : decode cX6_hearth 8 = .ok (.ifCond .ne 5, 3) := by decide +kernel
theorem dX6_hearth_11 : decode cX6_hearth 11 = .ok (.iconst (-1), 1) := by decide +kernel
theorem dX6_hearth_12 : decode cX6_hearth 12 = .ok (.ireturn, 1) := by decide +kernel
theorem dX6_hearth_13 : decode cX6_hearth 13 = .ok (.iload_n 2, 1) := by decide +kernel
theorem dX6_hearth_14 : decode cX6_hearth 14 = .ok (.tableswitch 56 0 2 #[26, 36, 46], 26) := by decide +kernel
theorem dX6_hearth_40 : decode cX6_hearth 40 = .ok (.aload_n 0, 1) := by decide +kernel
theorem dX6_hearth_41 : decode cX6_hearth 41 = .ok (.getfield 23, 3) := by decide +kernel
theorem dX6_hearth_44 : decode cX6_hearth 44 = .ok (.getfield 118, 3) := by decide +kernel
theorem dX6_hearth_47 : decode cX6_hearth 47 = .ok (.iload_n 1, 1) := by decide +kernel
theorem dX6_hearth_48 : decode cX6_hearth 48 = .ok (.iaload, 1) := by decide +kernel
theorem dX6_hearth_49 : decode cX6_hearth 49 = .ok (.ireturn, 1) := by decide +kernel
theorem dX6_hearth_50 : decode cX6_hearth 50 = .ok (.aload_n 0, 1) := by decide +kernel
theorem dX6_hearth_51 : decode cX6_hearth 51 = .ok (.getfield 23, 3) := by decide +kernel
theorem dX6_hearth_54 : decode cX6_hearth 54 = .ok (.getfield 121, 3) := by decide +kernel
theorem dX6_hearth_57 : decode cX6_hearth 57 = .ok (.iload_n 1, 1) := by decide +kernel
theorem dX6_hearth_58 : decode cX6_hearth 58 = .ok (.iaload, 1) := by decide +kernel
theorem dX6_hearth_59 : decode cX6_hearth 59 = .ok (.ireturn, 1) := by decide +kernel
theorem dX6_hearth_60 : decode cX6_hearth 60 = .ok (.aload_n 0, 1) := by decide +kernel
theorem dX6_hearth_61 : decode cX6_hearth 61 = .ok (.getfield 23, 3) := by decide +kernel
theorem dX6_hearth_64 : decode cX6_hearth 64 = .ok (.getfield 124, 3) := by decide +kernel
theorem dX6_hearth_67 : decode cX6_hearth 67 = .ok (.iload_n 1, 1) := by decide +kernel
theorem dX6_hearth_68 : decode cX6_hearth 68 = .ok (.iaload, 1) := by decide +kernel
theorem dX6_hearth_69 : decode cX6_hearth 69 = .ok (.ireturn, 1) := by decide +kernel
theorem dX6_hearth_70 : decode cX6_hearth 70 = .ok (.iconst (-1), 1) := by decide +kernel
theorem dX6_hearth_71 : decode cX6_hearth 71 = .ok (.ireturn, 1) := by decide +kernel
theorem dX6_tune_0 : decode cX6_tune 0 = .ok (.iload_n 1, 1) := by decide +kernel
theorem dX6_tune_1 : decode cX6_tune 1 = .ok (.ifCond .lt 27, 3) := by decide +kernel
theorem dX6_tune_4 : decode cX6_tune 4 = .ok (.iload_n 1, 1) := by decide +kernel
theorem dX6_tune_5 : decode cX6_tune 5 = .ok (.bipush 6, 2) := by decide +kernel
theorem dX6_tune_7 : decode cX6_tune 7 = .ok (.if_icmp .ge 21, 3) := by decide +kernel
theorem dX6_tune_10 : decode cX6_tune 10 = .ok (.iload_n 2, 1) := by decide +kernel
theorem dX6_tune_11 : decode cX6_tune 11 = .ok (.getstatic 127, 3) := by decide +kernel
theorem dX6_tune_14 : decode cX6_tune 14 = .ok (.iload_n 1, 1) := by decide +kernel
theorem dX6_tune_15 : decode cX6_tune 15 = .ok (.iaload, 1) := by decide +kernel
theorem dX6_tune_16 : decode cX6_tune 16 = .ok (.if_icmp .lt 12, 3) := by decide +kernel
theorem dX6_tune_19 : decode cX6_tune 19 = .ok (.iload_n 2, 1) := by decide +kernel
theorem dX6_tune_20 : decode cX6_tune 20 = .ok (.getstatic 130, 3) := by decide +kernel
theorem dX6_tune_23 : decode cX6_tune 23 = .ok (.iload_n 1, 1) := by decide +kernel
theorem dX6_tune_24 : decode cX6_tune 24 = .ok (.iaload, 1) := by decide +kernel
theorem dX6_tune_25 : decode cX6_tune 25 = .ok (.if_icmp .le 5, 3) := by decide +kernel
theorem dX6_tune_28 : decode cX6_tune 28 = .ok (.iconst (-1), 1) := by decide +kernel
theorem dX6_tune_29 : decode cX6_tune 29 = .ok (.ireturn, 1) := by decide +kernel
theorem dX6_tune_30 : decode cX6_tune 30 = .ok (.aload_n 0, 1) := by decide +kernel
theorem dX6_tune_31 : decode cX6_tune 31 = .ok (.getfield 30, 3) := by decide +kernel
theorem dX6_tune_34 : decode cX6_tune 34 = .ok (.iload_n 1, 1) := by decide +kernel
theorem dX6_tune_35 : decode cX6_tune 35 = .ok (.iaload, 1) := by decide +kernel
theorem dX6_tune_36 : decode cX6_tune 36 = .ok (.istore_n 3, 1) := by decide +kernel
theorem dX6_tune_37 : decode cX6_tune 37 = .ok (.aload_n 0, 1) := by decide +kernel
theorem dX6_tune_38 : decode cX6_tune 38 = .ok (.getfield 30, 3) := by decide +kernel
theorem dX6_tune_41 : decode cX6_tune 41 = .ok (.iload_n 1, 1) := by decide +kernel
theorem dX6_tune_42 : decode cX6_tune 42 = .ok (.iload_n 2, 1) := by decide +kernel
theorem dX6_tune_43 : decode cX6_tune 43 = .ok (.iastore, 1) := by decide +kernel
theorem dX6_tune_44 : decode cX6_tune 44 = .ok (.iload_n 3, 1) := by decide +kernel
theorem dX6_tune_45 : decode cX6_tune 45 = .ok (.ireturn, 1) := by decide +kernel
theorem dX6_wind_0 : decode cX6_wind 0 = .ok (.iload_n 1, 1) := by decide +kernel
theorem dX6_wind_1 : decode cX6_wind 1 = .ok (.invokestatic 133, 3) := by decide +kernel
theorem dX6_wind_4 : decode cX6_wind 4 = .ok (.ifCond .eq 26, 3) := by decide +kernel
theorem dX6_wind_7 : decode cX6_wind 7 = .ok (.aload_n 0, 1) := by decide +kernel
theorem dX6_wind_8 : decode cX6_wind 8 = .ok (.getfield 23, 3) := by decide +kernel
theorem dX6_wind_11 : decode cX6_wind 11 = .ok (.iload_n 2, 1) := by decide +kernel
theorem dX6_wind_12 : decode cX6_wind 12 = .ok (.invokevirtual 136, 3) := by decide +kernel
theorem dX6_wind_15 : decode cX6_wind 15 = .ok (.ifCond .eq 15, 3) := by decide +kernel
theorem dX6_wind_18 : decode cX6_wind 18 = .ok (.iload_n 3, 1) := by decide +kernel
theorem dX6_wind_19 : decode cX6_wind 19 = .ok (.bipush (-9), 2) := by decide +kernel
theorem dX6_wind_21 : decode cX6_wind 21 = .ok (.if_icmp .lt 9, 3) := by decide +kernel
theorem dX6_wind_24 : decode cX6_wind 24 = .ok (.iload_n 3, 1) := by decide +kernel
theorem dX6_wind_25 : decode cX6_wind 25 = .ok (.bipush 9, 2) := by decide +kernel
theorem dX6_wind_27 : decode cX6_wind 27 = .ok (.if_icmp .le 6, 3) := by decide +kernel
theorem dX6_wind_30 : decode cX6_wind 30 = .ok (.ldc 139, 2) := by decide +kernel
theorem dX6_wind_32 : decode cX6_wind 32 = .ok (.ireturn, 1) := by decide +kernel
theorem dX6_wind_33 : decode cX6_wind 33 = .ok (.aload_n 0, 1) := by decide +kernel
theorem dX6_wind_34 : decode cX6_wind 34 = .ok (.getfield 36, 3) := by decide +kernel
theorem dX6_wind_37 : decode cX6_wind 37 = .ok (.iload_n 1, 1) := by decide +kernel
theorem dX6_wind_38 : decode cX6_wind 38 = .ok (.aaload, 1) := by decide +kernel
theorem dX6_wind_39 : decode cX6_wind 39 = .ok (.iload_n 2, 1) := by decide +kernel
theorem dX6_wind_40 : decode cX6_wind 40 = .ok (.iaload, 1) := by decide +kernel
theorem dX6_wind_41 : decode cX6_wind 41 = .ok (.istore 4, 2) := by decide +kernel
theorem dX6_wind_43 : decode cX6_wind 43 = .ok (.aload_n 0, 1) := by decide +kernel
theorem dX6_wind_44 : decode cX6_wind 44 = .ok (.getfield 36, 3) := by decide +kernel
theorem dX6_wind_47 : decode cX6_wind 47 = .ok (.iload_n 1, 1) := by decide +kernel
theorem dX6_wind_48 : decode cX6_wind 48 = .ok (.aaload, 1) := by decide +kernel
theorem dX6_wind_49 : decode cX6_wind 49 = .ok (.iload_n 2, 1) := by decide +kernel
theorem dX6_wind_50 : decode cX6_wind 50 = .ok (.iload_n 3, 1) := by decide +kernel
theorem dX6_wind_51 : decode cX6_wind 51 = .ok (.iastore, 1) := by decide +kernel
theorem dX6_wind_52 : decode cX6_wind 52 = .ok (.iload 4, 2) := by decide +kernel
theorem dX6_wind_54 : decode cX6_wind 54 = .ok (.ireturn, 1) := by decide +kernel
theorem dX6_hasQuarter_0 : decode cX6_hasQuarter 0 = .ok (.iload_n 0, 1) := by decide +kernel
theorem dX6_hasQuarter_1 : decode cX6_hasQuarter 1 = .ok (.ifCond .lt 12, 3) := by decide +kernel
theorem dX6_hasQuarter_4 : decode cX6_hasQuarter 4 = .ok (.iload_n 0, 1) := by decide +kernel
theorem dX6_hasQuarter_5 : decode cX6_hasQuarter 5 = .ok (.iconst 4, 1) := by decide +kernel
theorem dX6_hasQuarter_6 : decode cX6_hasQuarter 6 = .ok (.if_icmp .ge 7, 3) := by decide +kernel
theorem dX6_hasQuarter_9 : decode cX6_hasQuarter 9 = .ok (.iconst 1, 1) := by decide +kernel
theorem dX6_hasQuarter_10 : decode cX6_hasQuarter 10 = .ok (.goto 4, 3) := by decide +kernel
theorem dX6_hasQuarter_13 : decode cX6_hasQuarter 13 = .ok (.iconst 0, 1) := by decide +kernel
theorem dX6_hasQuarter_14 : decode cX6_hasQuarter 14 = .ok (.ireturn, 1) := by decide +kernel
theorem dX6_many_0 : decode cX6_many 0 = .ok (.aload_n 0, 1) := by decide +kernel
theorem dX6_many_1 : decode cX6_many 1 = .ok (.getfield 23, 3) := by decide +kernel
theorem dX6_many_4 : decode cX6_many 4 = .ok (.iload_n 1, 1) := by decide +kernel
theorem dX6_many_5 : decode cX6_many 5 = .ok (.invokevirtual 115, 3) := by decide +kernel
theorem dX6_many_8 : decode cX6_many 8 = .ok (.ifCond .ne 7, 3) := by decide +kernel
theorem dX6_many_11 : decode cX6_many 11 = .ok (.ldc2_w 140, 3) := by decide +kernel
theorem dX6_many_14 : decode cX6_many 14 = .ok (.lreturn, 1) := by decide +kernel
theorem dX6_many_15 : decode cX6_many 15 = .ok (.aload_n 0, 1) := by decide +kernel
theorem dX6_many_16 : decode cX6_many 16 = .ok (.getfield 66, 3) := by decide +kernel
theorem dX6_many_19 : decode cX6_many 19 = .ok (.aload_n 0, 1) := by decide +kernel
theorem dX6_many_20 : decode cX6_many 20 = .ok (.getfield 23, 3) := by decide +kernel
theorem dX6_many_23 : decode cX6_many 23 = .ok (.iload_n 1, 1) := by decide +kernel
theorem dX6_many_24 : decode cX6_many 24 = .ok (.invokevirtual 142, 3) := by decide +kernel
theorem dX6_many_27 : decode cX6_many 27 = .ok (.aload_n 0, 1) := by decide +kernel
theorem dX6_many_28 : decode cX6_many 28 = .ok (.getfield 66, 3) := by decide +kernel
theorem dX6_many_31 : decode cX6_many 31 = .ok (.invokevirtual 146, 3) := by decide +kernel
theorem dX6_many_34 : decode cX6_many 34 = .ok (.lreturn, 1) := by decide +kernel
theorem dX6_one_0 : decode cX6_one 0 = .ok (.aload_n 0, 1) := by decide +kernel
theorem dX6_one_1 : decode cX6_one 1 = .ok (.getfield 23, 3) := by decide +kernel
theorem dX6_one_4 : decode cX6_one 4 = .ok (.iload_n 1, 1) := by decide +kernel
theorem dX6_one_5 : decode cX6_one 5 = .ok (.invokevirtual 115, 3) := by decide +kernel
theorem dX6_one_8 : decode cX6_one 8 = .ok (.ifCond .eq 27, 3) := by decide +kernel
theorem dX6_one_11 : decode cX6_one 11 = .ok (.iload_n 2, 1) := by decide +kernel
theorem dX6_one_12 : decode cX6_one 12 = .ok (.iconst (-1), 1) := by decide +kernel
theorem dX6_one_13 : decode cX6_one 13 = .ok (.if_icmp .eq 24, 3) := by decide +kernel
theorem dX6_one_16 : decode cX6_one 16 = .ok (.iload_n 2, 1) := by decide +kernel
theorem dX6_one_17 : decode cX6_one 17 = .ok (.bipush (-2), 2) := by decide +kernel
theorem dX6_one_19 : decode cX6_one 19 = .ok (.if_icmp .eq 18, 3) := by decide +kernel
theorem dX6_one_22 : decode cX6_one 22 = .ok (.aload_n 0, 1) := by decide +kernel
theorem dX6_one_23 : decode cX6_one 23 = .ok (.getfield 23, 3) := by decide +kernel
theorem dX6_one_26 : decode cX6_one 26 = .ok (.iload_n 1, 1) := by decide +kernel
theorem dX6_one_27 : decode cX6_one 27 = .ok (.iload_n 2, 1) := by decide +kernel
theorem dX6_one_28 : decode cX6_one 28 = .ok (.i2l, 1) := by decide +kernel
theorem dX6_one_29 : decode cX6_one 29 = .ok (.invokevirtual 150, 3) := by decide +kernel
theorem dX6_one_32 : decode cX6_one 32 = .ok (.ifCond .ne 5, 3) := by decide +kernel
theorem dX6_one_35 : decode cX6_one 35 = .ok (.iconst (-1), 1) := by decide +kernel
theorem dX6_one_36 : decode cX6_one 36 = .ok (.ireturn, 1) := by decide +kernel
theorem dX6_one_37 : decode cX6_one 37 = .ok (.aload_n 0, 1) := by decide +kernel
theorem dX6_one_38 : decode cX6_one 38 = .ok (.getfield 66, 3) := by decide +kernel
theorem dX6_one_41 : decode cX6_one 41 = .ok (.aload_n 0, 1) := by decide +kernel
theorem dX6_one_42 : decode cX6_one 42 = .ok (.getfield 23, 3) := by decide +kernel
theorem dX6_one_45 : decode cX6_one 45 = .ok (.iload_n 1, 1) := by decide +kernel
theorem dX6_one_46 : decode cX6_one 46 = .ok (.invokevirtual 142, 3) := by decide +kernel
theorem dX6_one_49 : decode cX6_one 49 = .ok (.aload_n 0, 1) := by decide +kernel
theorem dX6_one_50 : decode cX6_one 50 = .ok (.getfield 66, 3) := by decide +kernel
theorem dX6_one_53 : decode cX6_one 53 = .ok (.invokevirtual 154, 3) := by decide +kernel
theorem dX6_one_56 : decode cX6_one 56 = .ok (.ifCond .ne 6, 3) := by decide +kernel
theorem dX6_one_59 : decode cX6_one 59 = .ok (.bipush (-9), 2) := by decide +kernel
theorem dX6_one_61 : decode cX6_one 61 = .ok (.ireturn, 1) := by decide +kernel
theorem dX6_one_62 : decode cX6_one 62 = .ok (.iload_n 2, 1) := by decide +kernel
theorem dX6_one_63 : decode cX6_one 63 = .ok (.iconst (-1), 1) := by decide +kernel
theorem dX6_one_64 : decode cX6_one 64 = .ok (.if_icmp .ne 11, 3) := by decide +kernel
theorem dX6_one_67 : decode cX6_one 67 = .ok (.aload_n 0, 1) := by decide +kernel
theorem dX6_one_68 : decode cX6_one 68 = .ok (.getfield 66, 3) := by decide +kernel
theorem dX6_one_71 : decode cX6_one 71 = .ok (.getfield 158, 3) := by decide +kernel
theorem dX6_one_74 : decode cX6_one 74 = .ok (.ireturn, 1) := by decide +kernel
theorem dX6_one_75 : decode cX6_one 75 = .ok (.iload_n 2, 1) := by decide +kernel
theorem dX6_one_76 : decode cX6_one 76 = .ok (.bipush (-2), 2) := by decide +kernel
theorem dX6_one_78 : decode cX6_one 78 = .ok (.if_icmp .ne 13, 3) := by decide +kernel
theorem dX6_one_81 : decode cX6_one 81 = .ok (.aload_n 0, 1) := by decide +kernel
theorem dX6_one_82 : decode cX6_one 82 = .ok (.getfield 66, 3) := by decide +kernel
theorem dX6_one_85 : decode cX6_one 85 = .ok (.getfield 161, 3) := by decide +kernel
theorem dX6_one_88 : decode cX6_one 88 = .ok (.goto 12, 3) := by decide +kernel
theorem dX6_one_91 : decode cX6_one 91 = .ok (.aload_n 0, 1) := by decide +kernel
theorem dX6_one_92 : decode cX6_one 92 = .ok (.getfield 66, 3) := by decide +kernel
theorem dX6_one_95 : decode cX6_one 95 = .ok (.getfield 164, 3) := by decide +kernel
theorem dX6_one_98 : decode cX6_one 98 = .ok (.iload_n 2, 1) := by decide +kernel
theorem dX6_one_99 : decode cX6_one 99 = .ok (.iaload, 1) := by decide +kernel
theorem dX6_one_100 : decode cX6_one 100 = .ok (.ireturn, 1) := by decide +kernel
theorem dX6_together_0 : decode cX6_together 0 = .ok (.aload_n 0, 1) := by decide +kernel
theorem dX6_together_1 : decode cX6_together 1 = .ok (.iload_n 1, 1) := by decide +kernel
theorem dX6_together_2 : decode cX6_together 2 = .ok (.invokevirtual 167, 3) := by decide +kernel
theorem dX6_together_5 : decode cX6_together 5 = .ok (.ifCond .eq 12, 3) := by decide +kernel
theorem dX6_together_8 : decode cX6_together 8 = .ok (.iload_n 2, 1) := by decide +kernel
theorem dX6_together_9 : decode cX6_together 9 = .ok (.ifCond .lt 8, 3) := by decide +kernel
theorem dX6_together_12 : decode cX6_together 12 = .ok (.iload_n 2, 1) := by decide +kernel
theorem dX6_together_13 : decode cX6_together 13 = .ok (.iconst 1, 1) := by decide +kernel
theorem dX6_together_14 : decode cX6_together 14 = .ok (.if_icmp .le 5, 3) := by decide +kernel
theorem dX6_together_17 : decode cX6_together 17 = .ok (.iconst (-1), 1) := by decide +kernel
theorem dX6_together_18 : decode cX6_together 18 = .ok (.ireturn, 1) := by decide +kernel
theorem dX6_together_19 : decode cX6_together 19 = .ok (.aload_n 0, 1) := by decide +kernel
theorem dX6_together_20 : decode cX6_together 20 = .ok (.iload_n 1, 1) := by decide +kernel
theorem dX6_together_21 : decode cX6_together 21 = .ok (.invokevirtual 170, 3) := by decide +kernel
theorem dX6_together_24 : decode cX6_together 24 = .ok (.aload_n 0, 1) := by decide +kernel
theorem dX6_together_25 : decode cX6_together 25 = .ok (.getfield 73, 3) := by decide +kernel
theorem dX6_together_28 : decode cX6_together 28 = .ok (.invokevirtual 174, 3) := by decide +kernel
theorem dX6_together_31 : decode cX6_together 31 = .ok (.ifCond .ne 6, 3) := by decide +kernel
theorem dX6_together_34 : decode cX6_together 34 = .ok (.bipush (-9), 2) := by decide +kernel
theorem dX6_together_36 : decode cX6_together 36 = .ok (.ireturn, 1) := by decide +kernel
theorem dX6_together_37 : decode cX6_together 37 = .ok (.iload_n 2, 1) := by decide +kernel
theorem dX6_together_38 : decode cX6_together 38 = .ok (.ifCond .ne 13, 3) := by decide +kernel
theorem dX6_together_41 : decode cX6_together 41 = .ok (.aload_n 0, 1) := by decide +kernel
theorem dX6_together_42 : decode cX6_together 42 = .ok (.getfield 73, 3) := by decide +kernel
theorem dX6_together_45 : decode cX6_together 45 = .ok (.invokevirtual 177, 3) := by decide +kernel
theorem dX6_together_48 : decode cX6_together 48 = .ok (.goto 10, 3) := by decide +kernel
theorem dX6_together_51 : decode cX6_together 51 = .ok (.aload_n 0, 1) := by decide +kernel
theorem dX6_together_52 : decode cX6_together 52 = .ok (.getfield 73, 3) := by decide +kernel
theorem dX6_together_55 : decode cX6_together 55 = .ok (.invokevirtual 181, 3) := by decide +kernel
theorem dX6_together_58 : decode cX6_together 58 = .ok (.ireturn, 1) := by decide +kernel
theorem dX6_share_0 : decode cX6_share 0 = .ok (.iload_n 1, 1) := by decide +kernel
theorem dX6_share_1 : decode cX6_share 1 = .ok (.ifCond .lt 8, 3) := by decide +kernel
theorem dX6_share_4 : decode cX6_share 4 = .ok (.iload_n 1, 1) := by decide +kernel
theorem dX6_share_5 : decode cX6_share 5 = .ok (.iconst 1, 1) := by decide +kernel
theorem dX6_share_6 : decode cX6_share 6 = .ok (.if_icmp .le 5, 3) := by decide +kernel
theorem dX6_share_9 : decode cX6_share 9 = .ok (.iconst (-1), 1) := by decide +kernel
theorem dX6_share_10 : decode cX6_share 10 = .ok (.ireturn, 1) := by decide +kernel
theorem dX6_share_11 : decode cX6_share 11 = .ok (.aload_n 0, 1) := by decide +kernel
theorem dX6_share_12 : decode cX6_share 12 = .ok (.invokevirtual 183, 3) := by decide +kernel
theorem dX6_share_15 : decode cX6_share 15 = .ok (.istore_n 2, 1) := by decide +kernel
theorem dX6_share_16 : decode cX6_share 16 = .ok (.iload_n 1, 1) := by decide +kernel
theorem dX6_share_17 : decode cX6_share 17 = .ok (.ifCond .ne 7, 3) := by decide +kernel
theorem dX6_share_20 : decode cX6_share 20 = .ok (.iload_n 2, 1) := by decide +kernel
theorem dX6_share_21 : decode cX6_share 21 = .ok (.goto 7, 3) := by decide +kernel
theorem dX6_share_24 : decode cX6_share 24 = .ok (.iload_n 2, 1) := by decide +kernel
theorem dX6_share_25 : decode cX6_share 25 = .ok (.invokestatic 186, 3) := by decide +kernel
theorem dX6_share_28 : decode cX6_share 28 = .ok (.ireturn, 1) := by decide +kernel
theorem dX6_more_0 : decode cX6_more 0 = .ok (.iload_n 1, 1) := by decide +kernel
theorem dX6_more_1 : decode cX6_more 1 = .ok (.ifCond .eq 11, 3) := by decide +kernel
theorem dX6_more_4 : decode cX6_more 4 = .ok (.aload_n 0, 1) := by decide +kernel
theorem dX6_more_5 : decode cX6_more 5 = .ok (.iload_n 1, 1) := by decide +kernel
theorem dX6_more_6 : decode cX6_more 6 = .ok (.invokevirtual 167, 3) := by decide +kernel
theorem dX6_more_9 : decode cX6_more 9 = .ok (.ifCond .eq 35, 3) := by decide +kernel
theorem dX6_more_12 : decode cX6_more 12 = .ok (.iload_n 1, 1) := by decide +kernel
theorem dX6_more_13 : decode cX6_more 13 = .ok (.bipush 7, 2) := by decide +kernel
theorem dX6_more_15 : decode cX6_more 15 = .ok (.if_icmp .eq 29, 3) := by decide +kernel
theorem dX6_more_18 : decode cX6_more 18 = .ok (.iload_n 2, 1) := by decide +kernel
theorem dX6_more_19 : decode cX6_more 19 = .ok (.ifCond .lt 25, 3) := by decide +kernel
theorem dX6_more_22 : decode cX6_more 22 = .ok (.iload_n 2, 1) := by decide +kernel
theorem dX6_more_23 : decode cX6_more 23 = .ok (.aload_n 0, 1) := by decide +kernel
theorem dX6_more_24 : decode cX6_more 24 = .ok (.getfield 23, 3) := by decide +kernel
theorem dX6_more_27 : decode cX6_more 27 = .ok (.getfield 192, 3) := by decide +kernel
theorem dX6_more_30 : decode cX6_more 30 = .ok (.iconst 2, 1) := by decide +kernel
theorem dX6_more_31 : decode cX6_more 31 = .ok (.isub, 1) := by decide +kernel
theorem dX6_more_32 : decode cX6_more 32 = .ok (.if_icmp .gt 12, 3) := by decide +kernel
theorem dX6_more_35 : decode cX6_more 35 = .ok (.iload_n 3, 1) := by decide +kernel
theorem dX6_more_36 : decode cX6_more 36 = .ok (.ifCond .lt 8, 3) := by decide +kernel
theorem dX6_more_39 : decode cX6_more 39 = .ok (.iload_n 3, 1) := by decide +kernel
theorem dX6_more_40 : decode cX6_more 40 = .ok (.iconst 1, 1) := by decide +kernel
theorem dX6_more_41 : decode cX6_more 41 = .ok (.if_icmp .le 5, 3) := by decide +kernel
theorem dX6_more_44 : decode cX6_more 44 = .ok (.iconst (-1), 1) := by decide +kernel
theorem dX6_more_45 : decode cX6_more 45 = .ok (.ireturn, 1) := by decide +kernel
theorem dX6_more_46 : decode cX6_more 46 = .ok (.aload_n 0, 1) := by decide +kernel
theorem dX6_more_47 : decode cX6_more 47 = .ok (.iload_n 1, 1) := by decide +kernel
theorem dX6_more_48 : decode cX6_more 48 = .ok (.invokevirtual 170, 3) := by decide +kernel
theorem dX6_more_51 : decode cX6_more 51 = .ok (.iload_n 1, 1) := by decide +kernel
theorem dX6_more_52 : decode cX6_more 52 = .ok (.invokestatic 195, 3) := by decide +kernel
theorem dX6_more_55 : decode cX6_more 55 = .ok (.istore 4, 2) := by decide +kernel
theorem dX6_more_57 : decode cX6_more 57 = .ok (.iconst 0, 1) := by decide +kernel
theorem dX6_more_58 : decode cX6_more 58 = .ok (.istore 5, 2) := by decide +kernel
theorem dX6_more_60 : decode cX6_more 60 = .ok (.bipush (-9), 2) := by decide +kernel
theorem dX6_more_62 : decode cX6_more 62 = .ok (.istore 6, 2) := by decide +kernel
theorem dX6_more_64 : decode cX6_more 64 = .ok (.iconst 0, 1) := by decide +kernel
theorem dX6_more_65 : decode cX6_more 65 = .ok (.istore 7, 2) := by decide +kernel
theorem dX6_more_67 : decode cX6_more 67 = .ok (.iload 7, 2) := by decide +kernel
theorem dX6_more_69 : decode cX6_more 69 = .ok (.aload_n 0, 1) := by decide +kernel
theorem dX6_more_70 : decode cX6_more 70 = .ok (.getfield 23, 3) := by decide +kernel
theorem dX6_more_73 : decode cX6_more 73 = .ok (.getfield 198, 3) := by decide +kernel
theorem dX6_more_76 : decode cX6_more 76 = .ok (.if_icmp .ge 58, 3) := by decide +kernel
theorem dX6_more_79 : decode cX6_more 79 = .ok (.aload_n 0, 1) := by decide +kernel
theorem dX6_more_80 : decode cX6_more 80 = .ok (.getfield 73, 3) := by decide +kernel
theorem dX6_more_83 : decode cX6_more 83 = .ok (.iload 4, 2) := by decide +kernel
theorem dX6_more_85 : decode cX6_more 85 = .ok (.iload_n 2, 1) := by decide +kernel
theorem dX6_more_86 : decode cX6_more 86 = .ok (.iload 7, 2) := by decide +kernel
theorem dX6_more_88 : decode cX6_more 88 = .ok (.invokevirtual 201, 3) := by decide +kernel
theorem dX6_more_91 : decode cX6_more 91 = .ok (.aload_n 0, 1) := by decide +kernel
theorem dX6_more_92 : decode cX6_more 92 = .ok (.getfield 73, 3) := by decide +kernel
theorem dX6_more_95 : decode cX6_more 95 = .ok (.invokevirtual 205, 3) := by decide +kernel
theorem dX6_more_98 : decode cX6_more 98 = .ok (.ifCond .eq 22, 3) := by decide +kernel
theorem dX6_more_101 : decode cX6_more 101 = .ok (.iinc 5 1, 3) := by decide +kernel
theorem dX6_more_104 : decode cX6_more 104 = .ok (.iload 6, 2) := by decide +kernel
theorem dX6_more_106 : decode cX6_more 106 = .ok (.bipush (-9), 2) := by decide +kernel
theorem dX6_more_108 : decode cX6_more 108 = .ok (.if_icmp .ne 8, 3) := by decide +kernel
theorem dX6_more_111 : decode cX6_more 111 = .ok (.iload 7, 2) := by decide +kernel
theorem dX6_more_113 : decode cX6_more 113 = .ok (.goto 5, 3) := by decide +kernel
theorem dX6_more_116 : decode cX6_more 116 = .ok (.iload 6, 2) := by decide +kernel
theorem dX6_more_118 : decode cX6_more 118 = .ok (.istore 6, 2) := by decide +kernel
theorem dX6_more_120 : decode cX6_more 120 = .ok (.aload_n 0, 1) := by decide +kernel
theorem dX6_more_121 : decode cX6_more 121 = .ok (.getfield 73, 3) := by decide +kernel
theorem dX6_more_124 : decode cX6_more 124 = .ok (.iload_n 2, 1) := by decide +kernel
theorem dX6_more_125 : decode cX6_more 125 = .ok (.invokevirtual 208, 3) := by decide +kernel
theorem dX6_more_128 : decode cX6_more 128 = .ok (.iinc 7 1, 3) := by decide +kernel
theorem dX6_more_131 : decode cX6_more 131 = .ok (.goto (-64), 3) := by decide +kernel
theorem dX6_more_134 : decode cX6_more 134 = .ok (.iload_n 3, 1) := by decide +kernel
theorem dX6_more_135 : decode cX6_more 135 = .ok (.ifCond .ne 8, 3) := by decide +kernel
theorem dX6_more_138 : decode cX6_more 138 = .ok (.iload 5, 2) := by decide +kernel
theorem dX6_more_140 : decode cX6_more 140 = .ok (.goto 5, 3) := by decide +kernel
theorem dX6_more_143 : decode cX6_more 143 = .ok (.iload 6, 2) := by decide +kernel
theorem dX6_more_145 : decode cX6_more 145 = .ok (.ireturn, 1) := by decide +kernel
theorem dX6_isSet_0 : decode cX6_isSet 0 = .ok (.iload_n 1, 1) := by decide +kernel
theorem dX6_isSet_1 : decode cX6_isSet 1 = .ok (.iconst 1, 1) := by decide +kernel
theorem dX6_isSet_2 : decode cX6_isSet 2 = .ok (.if_icmp .lt 20, 3) := by decide +kernel
theorem dX6_isSet_5 : decode cX6_isSet 5 = .ok (.iload_n 1, 1) := by decide +kernel
theorem dX6_isSet_6 : decode cX6_isSet 6 = .ok (.iconst 1, 1) := by decide +kernel
theorem dX6_isSet_7 : decode cX6_isSet 7 = .ok (.aload_n 0, 1) := by decide +kernel
theorem dX6_isSet_8 : decode cX6_isSet 8 = .ok (.getfield 23, 3) := by decide +kernel
theorem dX6_isSet_11 : decode cX6_isSet 11 = .ok (.getfield 101, 3) := by decide +kernel
theorem dX6_isSet_14 : decode cX6_isSet 14 = .ok (.ishl, 1) := by decide +kernel
theorem dX6_isSet_15 : decode cX6_isSet 15 = .ok (.if_icmp .ge 7, 3) := by decide +kernel
theorem dX6_isSet_18 : decode cX6_isSet 18 = .ok (.iconst 1, 1) := by decide +kernel
theorem dX6_isSet_19 : decode cX6_isSet 19 = .ok (.goto 4, 3) := by decide +kernel
theorem dX6_isSet_22 : decode cX6_isSet 22 = .ok (.iconst 0, 1) := by decide +kernel
theorem dX6_isSet_23 : decode cX6_isSet 23 = .ok (.ireturn, 1) := by decide +kernel
theorem dX6_placeBeside_0 : decode cX6_placeBeside 0 = .ok (.iload_n 0, 1) := by decide +kernel
theorem dX6_placeBeside_1 : decode cX6_placeBeside 1 = .ok (.iconst 1, 1) := by decide +kernel
theorem dX6_placeBeside_2 : decode cX6_placeBeside 2 = .ok (.iand, 1) := by decide +kernel
theorem dX6_placeBeside_3 : decode cX6_placeBeside 3 = .ok (.ifCond .ne 5, 3) := by decide +kernel
theorem dX6_placeBeside_6 : decode cX6_placeBeside 6 = .ok (.iconst 0, 1) := by decide +kernel
theorem dX6_placeBeside_7 : decode cX6_placeBeside 7 = .ok (.ireturn, 1) := by decide +kernel
theorem dX6_placeBeside_8 : decode cX6_placeBeside 8 = .ok (.iload_n 0, 1) := by decide +kernel
theorem dX6_placeBeside_9 : decode cX6_placeBeside 9 = .ok (.iconst 2, 1) := by decide +kernel
theorem dX6_placeBeside_10 : decode cX6_placeBeside 10 = .ok (.iand, 1) := by decide +kernel
theorem dX6_placeBeside_11 : decode cX6_placeBeside 11 = .ok (.ifCond .ne 7, 3) := by decide +kernel
theorem dX6_placeBeside_14 : decode cX6_placeBeside 14 = .ok (.iconst 1, 1) := by decide +kernel
theorem dX6_placeBeside_15 : decode cX6_placeBeside 15 = .ok (.goto 4, 3) := by decide +kernel
theorem dX6_placeBeside_18 : decode cX6_placeBeside 18 = .ok (.iconst 2, 1) := by decide +kernel
theorem dX6_placeBeside_19 : decode cX6_placeBeside 19 = .ok (.ireturn, 1) := by decide +kernel
theorem dX6_putSet_0 : decode cX6_putSet 0 = .ok (.aload_n 0, 1) := by decide +kernel
theorem dX6_putSet_1 : decode cX6_putSet 1 = .ok (.getfield 73, 3) := by decide +kernel
theorem dX6_putSet_4 : decode cX6_putSet 4 = .ok (.aload_n 0, 1) := by decide +kernel
theorem dX6_putSet_5 : decode cX6_putSet 5 = .ok (.getfield 23, 3) := by decide +kernel
theorem dX6_putSet_8 : decode cX6_putSet 8 = .ok (.aload_n 0, 1) := by decide +kernel
theorem dX6_putSet_9 : decode cX6_putSet 9 = .ok (.getfield 30, 3) := by decide +kernel
theorem dX6_putSet_12 : decode cX6_putSet 12 = .ok (.iconst 0, 1) := by decide +kernel
theorem dX6_putSet_13 : decode cX6_putSet 13 = .ok (.iaload, 1) := by decide +kernel
theorem dX6_putSet_14 : decode cX6_putSet 14 = .ok (.iconst 0, 1) := by decide +kernel
theorem dX6_putSet_15 : decode cX6_putSet 15 = .ok (.invokevirtual 211, 3) := by decide +kernel
theorem dX6_putSet_18 : decode cX6_putSet 18 = .ok (.iconst 0, 1) := by decide +kernel
theorem dX6_putSet_19 : decode cX6_putSet 19 = .ok (.istore_n 2, 1) := by decide +kernel
theorem dX6_putSet_20 : decode cX6_putSet 20 = .ok (.iload_n 2, 1) := by decide +kernel
theorem dX6_putSet_21 : decode cX6_putSet 21 = .ok (.aload_n 0, 1) := by decide +kernel
theorem dX6_putSet_22 : decode cX6_putSet 22 = .ok (.getfield 23, 3) := by decide +kernel
theorem dX6_putSet_25 : decode cX6_putSet 25 = .ok (.getfield 101, 3) := by decide +kernel
theorem dX6_putSet_28 : decode cX6_putSet 28 = .ok (.if_icmp .ge 43, 3) := by decide +kernel
theorem dX6_putSet_31 : decode cX6_putSet 31 = .ok (.iload_n 1, 1) := by decide +kernel
theorem dX6_putSet_32 : decode cX6_putSet 32 = .ok (.iload_n 2, 1) := by decide +kernel
theorem dX6_putSet_33 : decode cX6_putSet 33 = .ok (.ishr, 1) := by decide +kernel
theorem dX6_putSet_34 : decode cX6_putSet 34 = .ok (.iconst 1, 1) := by decide +kernel
theorem dX6_putSet_35 : decode cX6_putSet 35 = .ok (.iand, 1) := by decide +kernel
theorem dX6_putSet_36 : decode cX6_putSet 36 = .ok (.ifCond .eq 29, 3) := by decide +kernel
theorem dX6_putSet_39 : decode cX6_putSet 39 = .ok (.aload_n 0, 1) := by decide +kernel
theorem dX6_putSet_40 : decode cX6_putSet 40 = .ok (.getfield 73, 3) := by decide +kernel
theorem dX6_putSet_43 : decode cX6_putSet 43 = .ok (.iload_n 2, 1) := by decide +kernel
theorem dX6_putSet_44 : decode cX6_putSet 44 = .ok (.aload_n 0, 1) := by decide +kernel
theorem dX6_putSet_45 : decode cX6_putSet 45 = .ok (.getfield 23, 3) := by decide +kernel
theorem dX6_putSet_48 : decode cX6_putSet 48 = .ok (.getfield 118, 3) := by decide +kernel
theorem dX6_putSet_51 : decode cX6_putSet 51 = .ok (.iload_n 2, 1) := by decide +kernel
theorem dX6_putSet_52 : decode cX6_putSet 52 = .ok (.iaload, 1) := by decide +kernel
theorem dX6_putSet_53 : decode cX6_putSet 53 = .ok (.aload_n 0, 1) := by decide +kernel
theorem dX6_putSet_54 : decode cX6_putSet 54 = .ok (.getfield 23, 3) := by decide +kernel
theorem dX6_putSet_57 : decode cX6_putSet 57 = .ok (.getfield 121, 3) := by decide +kernel
theorem dX6_putSet_60 : decode cX6_putSet 60 = .ok (.iload_n 2, 1) := by decide +kernel
theorem dX6_putSet_61 : decode cX6_putSet 61 = .ok (.iaload, 1) := by decide +kernel
theorem dX6_putSet_62 : decode cX6_putSet 62 = .ok (.invokevirtual 201, 3) := by decide +kernel
theorem dX6_putSet_65 : decode cX6_putSet 65 = .ok (.iinc 2 1, 3) := by decide +kernel
theorem dX6_putSet_68 : decode cX6_putSet 68 = .ok (.goto (-48), 3) := by decide +kernel
theorem dX6_putSet_71 : decode cX6_putSet 71 = .ok (.return_, 1) := by decide +kernel
theorem dX6_sharedSet_0 : decode cX6_sharedSet 0 = .ok (.aload_n 0, 1) := by decide +kernel
theorem dX6_sharedSet_1 : decode cX6_sharedSet 1 = .ok (.getfield 23, 3) := by decide +kernel
theorem dX6_sharedSet_4 : decode cX6_sharedSet 4 = .ok (.getfield 101, 3) := by decide +kernel
theorem dX6_sharedSet_7 : decode cX6_sharedSet 7 = .ok (.istore_n 1, 1) := by decide +kernel
theorem dX6_sharedSet_8 : decode cX6_sharedSet 8 = .ok (.iload_n 1, 1) := by decide +kernel
theorem dX6_sharedSet_9 : decode cX6_sharedSet 9 = .ok (.iconst 1, 1) := by decide +kernel
theorem dX6_sharedSet_10 : decode cX6_sharedSet 10 = .ok (.if_icmp .lt 55, 3) := by decide +kernel
theorem dX6_sharedSet_13 : decode cX6_sharedSet 13 = .ok (.iconst 1, 1) := by decide +kernel
theorem dX6_sharedSet_14 : decode cX6_sharedSet 14 = .ok (.istore_n 2, 1) := by decide +kernel
theorem dX6_sharedSet_15 : decode cX6_sharedSet 15 = .ok (.iload_n 2, 1) := by decide +kernel
theorem dX6_sharedSet_16 : decode cX6_sharedSet 16 = .ok (.iconst 1, 1) := by decide +kernel
theorem dX6_sharedSet_17 : decode cX6_sharedSet 17 = .ok (.aload_n 0, 1) := by decide +kernel
theorem dX6_sharedSet_18 : decode cX6_sharedSet 18 = .ok (.getfield 23, 3) := by decide +kernel
theorem dX6_sharedSet_21 : decode cX6_sharedSet 21 = .ok (.getfield 101, 3) := by decide +kernel
theorem dX6_sharedSet_24 : decode cX6_sharedSet 24 = .ok (.ishl, 1) := by decide +kernel
theorem dX6_sharedSet_25 : decode cX6_sharedSet 25 = .ok (.if_icmp .ge 34, 3) := by decide +kernel
theorem dX6_sharedSet_28 : decode cX6_sharedSet 28 = .ok (.iload_n 2, 1) := by decide +kernel
theorem dX6_sharedSet_29 : decode cX6_sharedSet 29 = .ok (.invokestatic 186, 3) := by decide +kernel
theorem dX6_sharedSet_32 : decode cX6_sharedSet 32 = .ok (.iload_n 1, 1) := by decide +kernel
theorem dX6_sharedSet_33 : decode cX6_sharedSet 33 = .ok (.if_icmp .ne 20, 3) := by decide +kernel
theorem dX6_sharedSet_36 : decode cX6_sharedSet 36 = .ok (.aload_n 0, 1) := by decide +kernel
theorem dX6_sharedSet_37 : decode cX6_sharedSet 37 = .ok (.iload_n 2, 1) := by decide +kernel
theorem dX6_sharedSet_38 : decode cX6_sharedSet 38 = .ok (.invokevirtual 170, 3) := by decide +kernel
theorem dX6_sharedSet_41 : decode cX6_sharedSet 41 = .ok (.aload_n 0, 1) := by decide +kernel
theorem dX6_sharedSet_42 : decode cX6_sharedSet 42 = .ok (.getfield 73, 3) := by decide +kernel
theorem dX6_sharedSet_45 : decode cX6_sharedSet 45 = .ok (.invokevirtual 205, 3) := by decide +kernel
theorem dX6_sharedSet_48 : decode cX6_sharedSet 48 = .ok (.ifCond .eq 5, 3) := by decide +kernel
theorem dX6_sharedSet_51 : decode cX6_sharedSet 51 = .ok (.iload_n 2, 1) := by decide +kernel
theorem dX6_sharedSet_52 : decode cX6_sharedSet 52 = .ok (.ireturn, 1) := by decide +kernel
theorem dX6_sharedSet_53 : decode cX6_sharedSet 53 = .ok (.iinc 2 1, 3) := by decide +kernel
theorem dX6_sharedSet_56 : decode cX6_sharedSet 56 = .ok (.goto (-41), 3) := by decide +kernel
theorem dX6_sharedSet_59 : decode cX6_sharedSet 59 = .ok (.iinc 1 (-1), 3) := by decide +kernel
theorem dX6_sharedSet_62 : decode cX6_sharedSet 62 = .ok (.goto (-54), 3) := by decide +kernel
theorem dX6_sharedSet_65 : decode cX6_sharedSet 65 = .ok (.iconst 0, 1) := by decide +kernel
theorem dX6_sharedSet_66 : decode cX6_sharedSet 66 = .ok (.ireturn, 1) := by decide +kernel
theorem dX6_take_0 : decode cX6_take 0 = .ok (.aload_n 0, 1) := by decide +kernel
theorem dX6_take_1 : decode cX6_take 1 = .ok (.iload_n 1, 1) := by decide +kernel
theorem dX6_take_2 : decode cX6_take 2 = .ok (.invokevirtual 167, 3) := by decide +kernel
theorem dX6_take_5 : decode cX6_take 5 = .ok (.ifCond .ne 5, 3) := by decide +kernel
theorem dX6_take_8 : decode cX6_take 8 = .ok (.iconst (-1), 1) := by decide +kernel
theorem dX6_take_9 : decode cX6_take 9 = .ok (.ireturn, 1) := by decide +kernel
theorem dX6_take_10 : decode cX6_take 10 = .ok (.aload_n 0, 1) := by decide +kernel
theorem dX6_take_11 : decode cX6_take 11 = .ok (.iload_n 1, 1) := by decide +kernel
theorem dX6_take_12 : decode cX6_take 12 = .ok (.invokevirtual 170, 3) := by decide +kernel
theorem dX6_take_15 : decode cX6_take 15 = .ok (.aload_n 0, 1) := by decide +kernel
theorem dX6_take_16 : decode cX6_take 16 = .ok (.getfield 73, 3) := by decide +kernel
theorem dX6_take_19 : decode cX6_take 19 = .ok (.invokevirtual 174, 3) := by decide +kernel
theorem dX6_take_22 : decode cX6_take 22 = .ok (.ifCond .ne 6, 3) := by decide +kernel
theorem dX6_take_25 : decode cX6_take 25 = .ok (.bipush (-2), 2) := by decide +kernel
theorem dX6_take_27 : decode cX6_take 27 = .ok (.ireturn, 1) := by decide +kernel
theorem dX6_take_28 : decode cX6_take 28 = .ok (.aload_n 0, 1) := by decide +kernel
theorem dX6_take_29 : decode cX6_take 29 = .ok (.getfield 73, 3) := by decide +kernel
theorem dX6_take_32 : decode cX6_take 32 = .ok (.aload_n 0, 1) := by decide +kernel
theorem dX6_take_33 : decode cX6_take 33 = .ok (.getfield 42, 3) := by decide +kernel
theorem dX6_take_36 : decode cX6_take 36 = .ok (.invokevirtual 214, 3) := by decide +kernel
theorem dX6_take_39 : decode cX6_take 39 = .ok (.iconst 1, 1) := by decide +kernel
theorem dX6_take_40 : decode cX6_take 40 = .ok (.ireturn, 1) := by decide +kernel
theorem dX6_way_0 : decode cX6_way 0 = .ok (.aload_n 0, 1) := by decide +kernel
theorem dX6_way_1 : decode cX6_way 1 = .ok (.getfield 23, 3) := by decide +kernel
theorem dX6_way_4 : decode cX6_way 4 = .ok (.iload_n 1, 1) := by decide +kernel
theorem dX6_way_5 : decode cX6_way 5 = .ok (.invokevirtual 115, 3) := by decide +kernel
theorem dX6_way_8 : decode cX6_way 8 = .ok (.ifCond .eq 16, 3) := by decide +kernel
theorem dX6_way_11 : decode cX6_way 11 = .ok (.aload_n 0, 1) := by decide +kernel
theorem dX6_way_12 : decode cX6_way 12 = .ok (.getfield 23, 3) := by decide +kernel
theorem dX6_way_15 : decode cX6_way 15 = .ok (.iload_n 1, 1) := by decide +kernel
theorem dX6_way_16 : decode cX6_way 16 = .ok (.iload_n 2, 1) := by decide +kernel
theorem dX6_way_17 : decode cX6_way 17 = .ok (.i2l, 1) := by decide +kernel
theorem dX6_way_18 : decode cX6_way 18 = .ok (.invokevirtual 150, 3) := by decide +kernel
theorem dX6_way_21 : decode cX6_way 21 = .ok (.ifCond .ne 6, 3) := by decide +kernel
theorem dX6_way_24 : decode cX6_way 24 = .ok (.ldc 139, 2) := by decide +kernel
theorem dX6_way_26 : decode cX6_way 26 = .ok (.ireturn, 1) := by decide +kernel
theorem dX6_way_27 : decode cX6_way 27 = .ok (.aload_n 0, 1) := by decide +kernel
theorem dX6_way_28 : decode cX6_way 28 = .ok (.getfield 42, 3) := by decide +kernel
theorem dX6_way_31 : decode cX6_way 31 = .ok (.getfield 218, 3) := by decide +kernel
theorem dX6_way_34 : decode cX6_way 34 = .ok (.iload_n 1, 1) := by decide +kernel
theorem dX6_way_35 : decode cX6_way 35 = .ok (.aaload, 1) := by decide +kernel
theorem dX6_way_36 : decode cX6_way 36 = .ok (.iload_n 2, 1) := by decide +kernel
theorem dX6_way_37 : decode cX6_way 37 = .ok (.iaload, 1) := by decide +kernel
theorem dX6_way_38 : decode cX6_way 38 = .ok (.ireturn, 1) := by decide +kernel
theorem dX6_turn_0 : decode cX6_turn 0 = .ok (.aload_n 0, 1) := by decide +kernel
theorem dX6_turn_1 : decode cX6_turn 1 = .ok (.getfield 23, 3) := by decide +kernel
theorem dX6_turn_4 : decode cX6_turn 4 = .ok (.iload_n 1, 1) := by decide +kernel
theorem dX6_turn_5 : decode cX6_turn 5 = .ok (.invokevirtual 115, 3) := by decide +kernel
theorem dX6_turn_8 : decode cX6_turn 8 = .ok (.ifCond .eq 39, 3) := by decide +kernel
theorem dX6_turn_11 : decode cX6_turn 11 = .ok (.aload_n 0, 1) := by decide +kernel
theorem dX6_turn_12 : decode cX6_turn 12 = .ok (.getfield 23, 3) := by decide +kernel
theorem dX6_turn_15 : decode cX6_turn 15 = .ok (.iload_n 1, 1) := by decide +kernel
theorem dX6_turn_16 : decode cX6_turn 16 = .ok (.iload_n 2, 1) := by decide +kernel
theorem dX6_turn_17 : decode cX6_turn 17 = .ok (.i2l, 1) := by decide +kernel
theorem dX6_turn_18 : decode cX6_turn 18 = .ok (.lconst 1, 1) := by decide +kernel
theorem dX6_turn_19 : decode cX6_turn 19 = .ok (.lsub, 1) := by decide +kernel
theorem dX6_turn_20 : decode cX6_turn 20 = .ok (.invokevirtual 150, 3) := by decide +kernel
theorem dX6_turn_23 : decode cX6_turn 23 = .ok (.ifCond .eq 24, 3) := by decide +kernel
theorem dX6_turn_26 : decode cX6_turn 26 = .ok (.aload_n 0, 1) := by decide +kernel
theorem dX6_turn_27 : decode cX6_turn 27 = .ok (.getfield 23, 3) := by decide +kernel
theorem dX6_turn_30 : decode cX6_turn 30 = .ok (.iload_n 2, 1) := by decide +kernel
theorem dX6_turn_31 : decode cX6_turn 31 = .ok (.invokevirtual 220, 3) := by decide +kernel
theorem dX6_turn_34 : decode cX6_turn 34 = .ok (.ifCond .eq 13, 3) := by decide +kernel
theorem dX6_turn_37 : decode cX6_turn 37 = .ok (.iload_n 3, 1) := by decide +kernel
theorem dX6_turn_38 : decode cX6_turn 38 = .ok (.iconst (-1), 1) := by decide +kernel
theorem dX6_turn_39 : decode cX6_turn 39 = .ok (.if_icmp .lt 8, 3) := by decide +kernel
theorem dX6_turn_42 : decode cX6_turn 42 = .ok (.iload_n 3, 1) := by decide +kernel
theorem dX6_turn_43 : decode cX6_turn 43 = .ok (.iconst 1, 1) := by decide +kernel
theorem dX6_turn_44 : decode cX6_turn 44 = .ok (.if_icmp .le 6, 3) := by decide +kernel
theorem dX6_turn_47 : decode cX6_turn 47 = .ok (.ldc 139, 2) := by decide +kernel
theorem dX6_turn_49 : decode cX6_turn 49 = .ok (.ireturn, 1) := by decide +kernel
theorem dX6_turn_50 : decode cX6_turn 50 = .ok (.aload_n 0, 1) := by decide +kernel
theorem dX6_turn_51 : decode cX6_turn 51 = .ok (.getfield 42, 3) := by decide +kernel
theorem dX6_turn_54 : decode cX6_turn 54 = .ok (.getfield 218, 3) := by decide +kernel
theorem dX6_turn_57 : decode cX6_turn 57 = .ok (.iload_n 1, 1) := by decide +kernel
theorem dX6_turn_58 : decode cX6_turn 58 = .ok (.aaload, 1) := by decide +kernel
theorem dX6_turn_59 : decode cX6_turn 59 = .ok (.iload_n 2, 1) := by decide +kernel
theorem dX6_turn_60 : decode cX6_turn 60 = .ok (.iaload, 1) := by decide +kernel
theorem dX6_turn_61 : decode cX6_turn 61 = .ok (.aload_n 0, 1) := by decide +kernel
theorem dX6_turn_62 : decode cX6_turn 62 = .ok (.getfield 42, 3) := by decide +kernel
theorem dX6_turn_65 : decode cX6_turn 65 = .ok (.getfield 218, 3) := by decide +kernel
theorem dX6_turn_68 : decode cX6_turn 68 = .ok (.iload_n 1, 1) := by decide +kernel
theorem dX6_turn_69 : decode cX6_turn 69 = .ok (.aaload, 1) := by decide +kernel
theorem dX6_turn_70 : decode cX6_turn 70 = .ok (.iload_n 2, 1) := by decide +kernel
theorem dX6_turn_71 : decode cX6_turn 71 = .ok (.iconst 1, 1) := by decide +kernel
theorem dX6_turn_72 : decode cX6_turn 72 = .ok (.isub, 1) := by decide +kernel
theorem dX6_turn_73 : decode cX6_turn 73 = .ok (.iaload, 1) := by decide +kernel
theorem dX6_turn_74 : decode cX6_turn 74 = .ok (.isub, 1) := by decide +kernel
theorem dX6_turn_75 : decode cX6_turn 75 = .ok (.istore 4, 2) := by decide +kernel
theorem dX6_turn_77 : decode cX6_turn 77 = .ok (.iload_n 2, 1) := by decide +kernel
theorem dX6_turn_78 : decode cX6_turn 78 = .ok (.istore 5, 2) := by decide +kernel
theorem dX6_turn_80 : decode cX6_turn 80 = .ok (.iload 5, 2) := by decide +kernel
theorem dX6_turn_82 : decode cX6_turn 82 = .ok (.aload_n 0, 1) := by decide +kernel
theorem dX6_turn_83 : decode cX6_turn 83 = .ok (.getfield 23, 3) := by decide +kernel
theorem dX6_turn_86 : decode cX6_turn 86 = .ok (.getfield 192, 3) := by decide +kernel
theorem dX6_turn_89 : decode cX6_turn 89 = .ok (.if_icmp .ge 28, 3) := by decide +kernel
theorem dX6_turn_92 : decode cX6_turn 92 = .ok (.aload_n 0, 1) := by decide +kernel
theorem dX6_turn_93 : decode cX6_turn 93 = .ok (.getfield 42, 3) := by decide +kernel
theorem dX6_turn_96 : decode cX6_turn 96 = .ok (.getfield 218, 3) := by decide +kernel
theorem dX6_turn_99 : decode cX6_turn 99 = .ok (.iload_n 1, 1) := by decide +kernel
theorem dX6_turn_100 : decode cX6_turn 100 = .ok (.aaload, 1) := by decide +kernel
theorem dX6_turn_101 : decode cX6_turn 101 = .ok (.iload 5, 2) := by decide +kernel
theorem dX6_turn_103 : decode cX6_turn 103 = .ok (.dup2, 1) := by decide +kernel
theorem dX6_turn_104 : decode cX6_turn 104 = .ok (.iaload, 1) := by decide +kernel
theorem dX6_turn_105 : decode cX6_turn 105 = .ok (.iload_n 3, 1) := by decide +kernel
theorem dX6_turn_106 : decode cX6_turn 106 = .ok (.iload 4, 2) := by decide +kernel
theorem dX6_turn_108 : decode cX6_turn 108 = .ok (.isub, 1) := by decide +kernel
theorem dX6_turn_109 : decode cX6_turn 109 = .ok (.iadd, 1) := by decide +kernel
theorem dX6_turn_110 : decode cX6_turn 110 = .ok (.iastore, 1) := by decide +kernel
theorem dX6_turn_111 : decode cX6_turn 111 = .ok (.iinc 5 1, 3) := by decide +kernel
theorem dX6_turn_114 : decode cX6_turn 114 = .ok (.goto (-34), 3) := by decide +kernel
theorem dX6_turn_117 : decode cX6_turn 117 = .ok (.iload 4, 2) := by decide +kernel
theorem dX6_turn_119 : decode cX6_turn 119 = .ok (.ireturn, 1) := by decide +kernel
theorem dX6_judge_0 : decode cX6_judge 0 = .ok (.iload_n 1, 1) := by decide +kernel
theorem dX6_judge_1 : decode cX6_judge 1 = .ok (.ifCond .lt 8, 3) := by decide +kernel
theorem dX6_judge_4 : decode cX6_judge 4 = .ok (.iload_n 1, 1) := by decide +kernel
theorem dX6_judge_5 : decode cX6_judge 5 = .ok (.iconst 2, 1) := by decide +kernel
theorem dX6_judge_6 : decode cX6_judge 6 = .ok (.if_icmp .le 5, 3) := by decide +kernel
theorem dX6_judge_9 : decode cX6_judge 9 = .ok (.iconst (-1), 1) := by decide +kernel
theorem dX6_judge_10 : decode cX6_judge 10 = .ok (.ireturn, 1) := by decide +kernel
theorem dX6_judge_11 : decode cX6_judge 11 = .ok (.aload_n 0, 1) := by decide +kernel
theorem dX6_judge_12 : decode cX6_judge 12 = .ok (.getfield 49, 3) := by decide +kernel
theorem dX6_judge_15 : decode cX6_judge 15 = .ok (.aload_n 0, 1) := by decide +kernel
theorem dX6_judge_16 : decode cX6_judge 16 = .ok (.getfield 23, 3) := by decide +kernel
theorem dX6_judge_19 : decode cX6_judge 19 = .ok (.aload_n 0, 1) := by decide +kernel
theorem dX6_judge_20 : decode cX6_judge 20 = .ok (.getfield 42, 3) := by decide +kernel
theorem dX6_judge_23 : decode cX6_judge 23 = .ok (.aload_n 0, 1) := by decide +kernel
theorem dX6_judge_24 : decode cX6_judge 24 = .ok (.getfield 30, 3) := by decide +kernel
theorem dX6_judge_27 : decode cX6_judge 27 = .ok (.iconst 0, 1) := by decide +kernel
theorem dX6_judge_28 : decode cX6_judge 28 = .ok (.iaload, 1) := by decide +kernel
theorem dX6_judge_29 : decode cX6_judge 29 = .ok (.invokevirtual 223, 3) := by decide +kernel
theorem dX6_judge_32 : decode cX6_judge 32 = .ok (.ifCond .eq 6, 3) := by decide +kernel
theorem dX6_judge_35 : decode cX6_judge 35 = .ok (.bipush (-9), 2) := by decide +kernel
theorem dX6_judge_37 : decode cX6_judge 37 = .ok (.ireturn, 1) := by decide +kernel
theorem dX6_judge_38 : decode cX6_judge 38 = .ok (.iload_n 1, 1) := by decide +kernel
theorem dX6_judge_39 : decode cX6_judge 39 = .ok (.ifCond .ne 11, 3) := by decide +kernel
theorem dX6_judge_42 : decode cX6_judge 42 = .ok (.aload_n 0, 1) := by decide +kernel
theorem dX6_judge_43 : decode cX6_judge 43 = .ok (.getfield 49, 3) := by decide +kernel
theorem dX6_judge_46 : decode cX6_judge 46 = .ok (.getfield 227, 3) := by decide +kernel
theorem dX6_judge_49 : decode cX6_judge 49 = .ok (.ireturn, 1) := by decide +kernel
theorem dX6_judge_50 : decode cX6_judge 50 = .ok (.iload_n 1, 1) := by decide +kernel
theorem dX6_judge_51 : decode cX6_judge 51 = .ok (.iconst 1, 1) := by decide +kernel
theorem dX6_judge_52 : decode cX6_judge 52 = .ok (.if_icmp .ne 13, 3) := by decide +kernel
theorem dX6_judge_55 : decode cX6_judge 55 = .ok (.aload_n 0, 1) := by decide +kernel
theorem dX6_judge_56 : decode cX6_judge 56 = .ok (.getfield 49, 3) := by decide +kernel
theorem dX6_judge_59 : decode cX6_judge 59 = .ok (.getfield 230, 3) := by decide +kernel
theorem dX6_judge_62 : decode cX6_judge 62 = .ok (.goto 10, 3) := by decide +kernel
theorem dX6_judge_65 : decode cX6_judge 65 = .ok (.aload_n 0, 1) := by decide +kernel
theorem dX6_judge_66 : decode cX6_judge 66 = .ok (.getfield 49, 3) := by decide +kernel
theorem dX6_judge_69 : decode cX6_judge 69 = .ok (.getfield 233, 3) := by decide +kernel
theorem dX6_judge_72 : decode cX6_judge 72 = .ok (.ireturn, 1) := by decide +kernel
theorem dX6_plan_0 : decode cX6_plan 0 = .ok (.aload_n 0, 1) := by decide +kernel
theorem dX6_plan_1 : decode cX6_plan 1 = .ok (.getfield 23, 3) := by decide +kernel
theorem dX6_plan_4 : decode cX6_plan 4 = .ok (.iload_n 1, 1) := by decide +kernel
theorem dX6_plan_5 : decode cX6_plan 5 = .ok (.invokevirtual 115, 3) := by decide +kernel
theorem dX6_plan_8 : decode cX6_plan 8 = .ok (.ifCond .ne 5, 3) := by decide +kernel
theorem dX6_plan_11 : decode cX6_plan 11 = .ok (.iconst (-1), 1) := by decide +kernel
theorem dX6_plan_12 : decode cX6_plan 12 = .ok (.ireturn, 1) := by decide +kernel
theorem dX6_plan_13 : decode cX6_plan 13 = .ok (.iload_n 2, 1) := by decide +kernel
theorem dX6_plan_14 : decode cX6_plan 14 = .ok (.tableswitch 86 0 3 #[30, 43, 56, 69], 30) := by decide +kernel
theorem dX6_plan_44 : decode cX6_plan 44 = .ok (.aload_n 0, 1) := by decide +kernel
theorem dX6_plan_45 : decode cX6_plan 45 = .ok (.getfield 42, 3) := by decide +kernel
theorem dX6_plan_48 : decode cX6_plan 48 = .ok (.aload_n 0, 1) := by decide +kernel
theorem dX6_plan_49 : decode cX6_plan 49 = .ok (.getfield 23, 3) := by decide +kernel
theorem dX6_plan_52 : decode cX6_plan 52 = .ok (.iload_n 1, 1) := by decide +kernel
theorem dX6_plan_53 : decode cX6_plan 53 = .ok (.invokevirtual 236, 3) := by decide +kernel
theorem dX6_plan_56 : decode cX6_plan 56 = .ok (.ireturn, 1) := by decide +kernel
theorem dX6_plan_57 : decode cX6_plan 57 = .ok (.aload_n 0, 1) := by decide +kernel
theorem dX6_plan_58 : decode cX6_plan 58 = .ok (.getfield 42, 3) := by decide +kernel
theorem dX6_plan_61 : decode cX6_plan 61 = .ok (.aload_n 0, 1) := by decide +kernel
theorem dX6_plan_62 : decode cX6_plan 62 = .ok (.getfield 23, 3) := by decide +kernel
theorem dX6_plan_65 : decode cX6_plan 65 = .ok (.iload_n 1, 1) := by decide +kernel
theorem dX6_plan_66 : decode cX6_plan 66 = .ok (.invokevirtual 239, 3) := by decide +kernel
theorem dX6_plan_69 : decode cX6_plan 69 = .ok (.ireturn, 1) := by decide +kernel
theorem dX6_plan_70 : decode cX6_plan 70 = .ok (.aload_n 0, 1) := by decide +kernel
theorem dX6_plan_71 : decode cX6_plan 71 = .ok (.getfield 42, 3) := by decide +kernel
theorem dX6_plan_74 : decode cX6_plan 74 = .ok (.aload_n 0, 1) := by decide +kernel
theorem dX6_plan_75 : decode cX6_plan 75 = .ok (.getfield 23, 3) := by decide +kernel
theorem dX6_plan_78 : decode cX6_plan 78 = .ok (.iload_n 1, 1) := by decide +kernel
theorem dX6_plan_79 : decode cX6_plan 79 = .ok (.invokevirtual 241, 3) := by decide +kernel
theorem dX6_plan_82 : decode cX6_plan 82 = .ok (.ireturn, 1) := by decide +kernel
theorem dX6_plan_83 : decode cX6_plan 83 = .ok (.aload_n 0, 1) := by decide +kernel
theorem dX6_plan_84 : decode cX6_plan 84 = .ok (.aload_n 0, 1) := by decide +kernel
theorem dX6_plan_85 : decode cX6_plan 85 = .ok (.getfield 42, 3) := by decide +kernel
theorem dX6_plan_88 : decode cX6_plan 88 = .ok (.aload_n 0, 1) := by decide +kernel
theorem dX6_plan_89 : decode cX6_plan 89 = .ok (.getfield 23, 3) := by decide +kernel
theorem dX6_plan_92 : decode cX6_plan 92 = .ok (.iload_n 1, 1) := by decide +kernel
theorem dX6_plan_93 : decode cX6_plan 93 = .ok (.invokevirtual 236, 3) := by decide +kernel
theorem dX6_plan_96 : decode cX6_plan 96 = .ok (.invokevirtual 244, 3) := by decide +kernel
theorem dX6_plan_99 : decode cX6_plan 99 = .ok (.ireturn, 1) := by decide +kernel
theorem dX6_plan_100 : decode cX6_plan 100 = .ok (.iconst (-1), 1) := by decide +kernel
theorem dX6_plan_101 : decode cX6_plan 101 = .ok (.ireturn, 1) := by decide +kernel
theorem dX6_draw_0 : decode cX6_draw 0 = .ok (.aload_n 0, 1) := by decide +kernel
theorem dX6_draw_1 : decode cX6_draw 1 = .ok (.getfield 23, 3) := by decide +kernel
theorem dX6_draw_4 : decode cX6_draw 4 = .ok (.iload_n 1, 1) := by decide +kernel
theorem dX6_draw_5 : decode cX6_draw 5 = .ok (.invokevirtual 115, 3) := by decide +kernel
theorem dX6_draw_8 : decode cX6_draw 8 = .ok (.ifCond .eq 10, 3) := by decide +kernel
theorem dX6_draw_11 : decode cX6_draw 11 = .ok (.iload_n 2, 1) := by decide +kernel
theorem dX6_draw_12 : decode cX6_draw 12 = .ok (.invokestatic 133, 3) := by decide +kernel
theorem dX6_draw_15 : decode cX6_draw 15 = .ok (.ifCond .ne 6, 3) := by decide +kernel
theorem dX6_draw_18 : decode cX6_draw 18 = .ok (.ldc 139, 2) := by decide +kernel
theorem dX6_draw_20 : decode cX6_draw 20 = .ok (.ireturn, 1) := by decide +kernel
theorem dX6_draw_21 : decode cX6_draw 21 = .ok (.aload_n 0, 1) := by decide +kernel
theorem dX6_draw_22 : decode cX6_draw 22 = .ok (.iload_n 1, 1) := by decide +kernel
theorem dX6_draw_23 : decode cX6_draw 23 = .ok (.iload_n 2, 1) := by decide +kernel
theorem dX6_draw_24 : decode cX6_draw 24 = .ok (.invokevirtual 247, 3) := by decide +kernel
theorem dX6_draw_27 : decode cX6_draw 27 = .ok (.ireturn, 1) := by decide +kernel
theorem dX6_smokes_0 : decode cX6_smokes 0 = .ok (.aload_n 0, 1) := by decide +kernel
theorem dX6_smokes_1 : decode cX6_smokes 1 = .ok (.getfield 23, 3) := by decide +kernel
theorem dX6_smokes_4 : decode cX6_smokes 4 = .ok (.iload_n 1, 1) := by decide +kernel
theorem dX6_smokes_5 : decode cX6_smokes 5 = .ok (.invokevirtual 115, 3) := by decide +kernel
theorem dX6_smokes_8 : decode cX6_smokes 8 = .ok (.ifCond .eq 21, 3) := by decide +kernel
theorem dX6_smokes_11 : decode cX6_smokes 11 = .ok (.aload_n 0, 1) := by decide +kernel
theorem dX6_smokes_12 : decode cX6_smokes 12 = .ok (.getfield 23, 3) := by decide +kernel
theorem dX6_smokes_15 : decode cX6_smokes 15 = .ok (.iload_n 2, 1) := by decide +kernel
theorem dX6_smokes_16 : decode cX6_smokes 16 = .ok (.invokevirtual 115, 3) := by decide +kernel
theorem dX6_smokes_19 : decode cX6_smokes 19 = .ok (.ifCond .eq 10, 3) := by decide +kernel
theorem dX6_smokes_22 : decode cX6_smokes 22 = .ok (.iload_n 3, 1) := by decide +kernel
theorem dX6_smokes_23 : decode cX6_smokes 23 = .ok (.invokestatic 133, 3) := by decide +kernel
theorem dX6_smokes_26 : decode cX6_smokes 26 = .ok (.ifCond .ne 5, 3) := by decide +kernel
theorem dX6_smokes_29 : decode cX6_smokes 29 = .ok (.iconst (-1), 1) := by decide +kernel
theorem dX6_smokes_30 : decode cX6_smokes 30 = .ok (.ireturn, 1) := by decide +kernel
theorem dX6_smokes_31 : decode cX6_smokes 31 = .ok (.aload_n 0, 1) := by decide +kernel
theorem dX6_smokes_32 : decode cX6_smokes 32 = .ok (.iload_n 1, 1) := by decide +kernel
theorem dX6_smokes_33 : decode cX6_smokes 33 = .ok (.iload_n 3, 1) := by decide +kernel
theorem dX6_smokes_34 : decode cX6_smokes 34 = .ok (.invokevirtual 247, 3) := by decide +kernel
theorem dX6_smokes_37 : decode cX6_smokes 37 = .ok (.aload_n 0, 1) := by decide +kernel
theorem dX6_smokes_38 : decode cX6_smokes 38 = .ok (.iload_n 1, 1) := by decide +kernel
theorem dX6_smokes_39 : decode cX6_smokes 39 = .ok (.iload_n 2, 1) := by decide +kernel
theorem dX6_smokes_40 : decode cX6_smokes 40 = .ok (.iload_n 3, 1) := by decide +kernel
theorem dX6_smokes_41 : decode cX6_smokes 41 = .ok (.invokevirtual 251, 3) := by decide +kernel
theorem dX6_smokes_44 : decode cX6_smokes 44 = .ok (.if_icmp .ge 7, 3) := by decide +kernel
theorem dX6_smokes_47 : decode cX6_smokes 47 = .ok (.iconst 1, 1) := by decide +kernel
theorem dX6_smokes_48 : decode cX6_smokes 48 = .ok (.goto 4, 3) := by decide +kernel
theorem dX6_smokes_51 : decode cX6_smokes 51 = .ok (.iconst 0, 1) := by decide +kernel
theorem dX6_smokes_52 : decode cX6_smokes 52 = .ok (.ireturn, 1) := by decide +kernel
theorem dX6_mend_0 : decode cX6_mend 0 = .ok (.aload_n 0, 1) := by decide +kernel
theorem dX6_mend_1 : decode cX6_mend 1 = .ok (.getfield 23, 3) := by decide +kernel
theorem dX6_mend_4 : decode cX6_mend 4 = .ok (.iload_n 1, 1) := by decide +kernel
theorem dX6_mend_5 : decode cX6_mend 5 = .ok (.invokevirtual 115, 3) := by decide +kernel
theorem dX6_mend_8 : decode cX6_mend 8 = .ok (.ifCond .ne 5, 3) := by decide +kernel
theorem dX6_mend_11 : decode cX6_mend 11 = .ok (.iconst (-1), 1) := by decide +kernel
theorem dX6_mend_12 : decode cX6_mend 12 = .ok (.ireturn, 1) := by decide +kernel
theorem dX6_mend_13 : decode cX6_mend 13 = .ok (.iconst 0, 1) := by decide +kernel
theorem dX6_mend_14 : decode cX6_mend 14 = .ok (.istore_n 2, 1) := by decide +kernel
theorem dX6_mend_15 : decode cX6_mend 15 = .ok (.iconst 0, 1) := by decide +kernel
theorem dX6_mend_16 : decode cX6_mend 16 = .ok (.istore_n 3, 1) := by decide +kernel
theorem dX6_mend_17 : decode cX6_mend 17 = .ok (.iload_n 3, 1) := by decide +kernel
theorem dX6_mend_18 : decode cX6_mend 18 = .ok (.iconst 4, 1) := by decide +kernel
theorem dX6_mend_19 : decode cX6_mend 19 = .ok (.if_icmp .ge 50, 3) := by decide +kernel
theorem dX6_mend_22 : decode cX6_mend 22 = .ok (.iconst 0, 1) := by decide +kernel
theorem dX6_mend_23 : decode cX6_mend 23 = .ok (.istore 4, 2) := by decide +kernel
theorem dX6_mend_25 : decode cX6_mend 25 = .ok (.iload 4, 2) := by decide +kernel
theorem dX6_mend_27 : decode cX6_mend 27 = .ok (.aload_n 0, 1) := by decide +kernel
theorem dX6_mend_28 : decode cX6_mend 28 = .ok (.getfield 23, 3) := by decide +kernel
theorem dX6_mend_31 : decode cX6_mend 31 = .ok (.getfield 101, 3) := by decide +kernel
theorem dX6_mend_34 : decode cX6_mend 34 = .ok (.if_icmp .ge 29, 3) := by decide +kernel
theorem dX6_mend_37 : decode cX6_mend 37 = .ok (.iload_n 2, 1) := by decide +kernel
theorem dX6_mend_38 : decode cX6_mend 38 = .ok (.aload_n 0, 1) := by decide +kernel
theorem dX6_mend_39 : decode cX6_mend 39 = .ok (.iload_n 1, 1) := by decide +kernel
theorem dX6_mend_40 : decode cX6_mend 40 = .ok (.iload 4, 2) := by decide +kernel
theorem dX6_mend_42 : decode cX6_mend 42 = .ok (.iload_n 3, 1) := by decide +kernel
theorem dX6_mend_43 : decode cX6_mend 43 = .ok (.invokevirtual 251, 3) := by decide +kernel
theorem dX6_mend_46 : decode cX6_mend 46 = .ok (.aload_n 0, 1) := by decide +kernel
theorem dX6_mend_47 : decode cX6_mend 47 = .ok (.iload_n 1, 1) := by decide +kernel
theorem dX6_mend_48 : decode cX6_mend 48 = .ok (.iload_n 3, 1) := by decide +kernel
theorem dX6_mend_49 : decode cX6_mend 49 = .ok (.invokevirtual 247, 3) := by decide +kernel
theorem dX6_mend_52 : decode cX6_mend 52 = .ok (.isub, 1) := by decide +kernel
theorem dX6_mend_53 : decode cX6_mend 53 = .ok (.invokestatic 255, 3) := by decide +kernel
theorem dX6_mend_56 : decode cX6_mend 56 = .ok (.istore_n 2, 1) := by decide +kernel
theorem dX6_mend_57 : decode cX6_mend 57 = .ok (.iinc 4 1, 3) := by decide +kernel
theorem dX6_mend_60 : decode cX6_mend 60 = .ok (.goto (-35), 3) := by decide +kernel
theorem dX6_mend_63 : decode cX6_mend 63 = .ok (.iinc 3 1, 3) := by decide +kernel
theorem dX6_mend_66 : decode cX6_mend 66 = .ok (.goto (-49), 3) := by decide +kernel
theorem dX6_mend_69 : decode cX6_mend 69 = .ok (.iconst 0, 1) := by decide +kernel
theorem dX6_mend_70 : decode cX6_mend 70 = .ok (.istore_n 3, 1) := by decide +kernel
theorem dX6_mend_71 : decode cX6_mend 71 = .ok (.iload_n 3, 1) := by decide +kernel
theorem dX6_mend_72 : decode cX6_mend 72 = .ok (.bipush 40, 2) := by decide +kernel
theorem dX6_mend_74 : decode cX6_mend 74 = .ok (.if_icmp .gt 23, 3) := by decide +kernel
theorem dX6_mend_77 : decode cX6_mend 77 = .ok (.iload_n 3, 1) := by decide +kernel
theorem dX6_mend_78 : decode cX6_mend 78 = .ok (.aload_n 0, 1) := by decide +kernel
theorem dX6_mend_79 : decode cX6_mend 79 = .ok (.getfield 30, 3) := by decide +kernel
theorem dX6_mend_82 : decode cX6_mend 82 = .ok (.iconst 3, 1) := by decide +kernel
theorem dX6_mend_83 : decode cX6_mend 83 = .ok (.iaload, 1) := by decide +kernel
theorem dX6_mend_84 : decode cX6_mend 84 = .ok (.imul, 1) := by decide +kernel
theorem dX6_mend_85 : decode cX6_mend 85 = .ok (.iload_n 2, 1) := by decide +kernel
theorem dX6_mend_86 : decode cX6_mend 86 = .ok (.if_icmp .lt 5, 3) := by decide +kernel
theorem dX6_mend_89 : decode cX6_mend 89 = .ok (.iload_n 3, 1) := by decide +kernel
theorem dX6_mend_90 : decode cX6_mend 90 = .ok (.ireturn, 1) := by decide +kernel
theorem dX6_mend_91 : decode cX6_mend 91 = .ok (.iinc 3 1, 3) := by decide +kernel
theorem dX6_mend_94 : decode cX6_mend 94 = .ok (.goto (-23), 3) := by decide +kernel
theorem dX6_mend_97 : decode cX6_mend 97 = .ok (.bipush (-9), 2) := by decide +kernel
theorem dX6_mend_99 : decode cX6_mend 99 = .ok (.ireturn, 1) := by decide +kernel
theorem dX6_moved_0 : decode cX6_moved 0 = .ok (.iload_n 1, 1) := by decide +kernel
theorem dX6_moved_1 : decode cX6_moved 1 = .ok (.ifCond .lt 19, 3) := by decide +kernel
theorem dX6_moved_4 : decode cX6_moved 4 = .ok (.iload_n 1, 1) := by decide +kernel
theorem dX6_moved_5 : decode cX6_moved 5 = .ok (.sipush 1024, 3) := by decide +kernel
theorem dX6_moved_8 : decode cX6_moved 8 = .ok (.if_icmp .ge 12, 3) := by decide +kernel
theorem dX6_moved_11 : decode cX6_moved 11 = .ok (.iload_n 2, 1) := by decide +kernel
theorem dX6_moved_12 : decode cX6_moved 12 = .ok (.ifCond .lt 8, 3) := by decide +kernel
theorem dX6_moved_15 : decode cX6_moved 15 = .ok (.iload_n 2, 1) := by decide +kernel
theorem dX6_moved_16 : decode cX6_moved 16 = .ok (.iconst 1, 1) := by decide +kernel
theorem dX6_moved_17 : decode cX6_moved 17 = .ok (.if_icmp .le 5, 3) := by decide +kernel
theorem dX6_moved_20 : decode cX6_moved 20 = .ok (.iconst (-1), 1) := by decide +kernel
theorem dX6_moved_21 : decode cX6_moved 21 = .ok (.ireturn, 1) := by decide +kernel
theorem dX6_moved_22 : decode cX6_moved 22 = .ok (.aload_n 0, 1) := by decide +kernel
theorem dX6_moved_23 : decode cX6_moved 23 = .ok (.getfield 49, 3) := by decide +kernel
theorem dX6_moved_26 : decode cX6_moved 26 = .ok (.aload_n 0, 1) := by decide +kernel
theorem dX6_moved_27 : decode cX6_moved 27 = .ok (.getfield 23, 3) := by decide +kernel
theorem dX6_moved_30 : decode cX6_moved 30 = .ok (.aload_n 0, 1) := by decide +kernel
theorem dX6_moved_31 : decode cX6_moved 31 = .ok (.getfield 42, 3) := by decide +kernel
theorem dX6_moved_34 : decode cX6_moved 34 = .ok (.aload_n 0, 1) := by decide +kernel
theorem dX6_moved_35 : decode cX6_moved 35 = .ok (.getfield 30, 3) := by decide +kernel
theorem dX6_moved_38 : decode cX6_moved 38 = .ok (.iconst 0, 1) := by decide +kernel
theorem dX6_moved_39 : decode cX6_moved 39 = .ok (.iaload, 1) := by decide +kernel
theorem dX6_moved_40 : decode cX6_moved 40 = .ok (.invokevirtual 223, 3) := by decide +kernel
theorem dX6_moved_43 : decode cX6_moved 43 = .ok (.ifCond .ne 6, 3) := by decide +kernel
theorem dX6_moved_46 : decode cX6_moved 46 = .ok (.bipush (-2), 2) := by decide +kernel
theorem dX6_moved_48 : decode cX6_moved 48 = .ok (.ireturn, 1) := by decide +kernel
theorem dX6_moved_49 : decode cX6_moved 49 = .ok (.aload_n 0, 1) := by decide +kernel
theorem dX6_moved_50 : decode cX6_moved 50 = .ok (.iload_n 1, 1) := by decide +kernel
theorem dX6_moved_51 : decode cX6_moved 51 = .ok (.invokevirtual 260, 3) := by decide +kernel
theorem dX6_moved_54 : decode cX6_moved 54 = .ok (.istore_n 3, 1) := by decide +kernel
theorem dX6_moved_55 : decode cX6_moved 55 = .ok (.iload_n 3, 1) := by decide +kernel
theorem dX6_moved_56 : decode cX6_moved 56 = .ok (.bipush (-9), 2) := by decide +kernel
theorem dX6_moved_58 : decode cX6_moved 58 = .ok (.if_icmp .ne 6, 3) := by decide +kernel
theorem dX6_moved_61 : decode cX6_moved 61 = .ok (.bipush (-9), 2) := by decide +kernel
theorem dX6_moved_63 : decode cX6_moved 63 = .ok (.ireturn, 1) := by decide +kernel
theorem dX6_moved_64 : decode cX6_moved 64 = .ok (.iload_n 2, 1) := by decide +kernel
theorem dX6_moved_65 : decode cX6_moved 65 = .ok (.ifCond .ne 10, 3) := by decide +kernel
theorem dX6_moved_68 : decode cX6_moved 68 = .ok (.iload_n 3, 1) := by decide +kernel
theorem dX6_moved_69 : decode cX6_moved 69 = .ok (.invokestatic 186, 3) := by decide +kernel
theorem dX6_moved_72 : decode cX6_moved 72 = .ok (.goto 4, 3) := by decide +kernel
theorem dX6_moved_75 : decode cX6_moved 75 = .ok (.iload_n 3, 1) := by decide +kernel
theorem dX6_moved_76 : decode cX6_moved 76 = .ok (.ireturn, 1) := by decide +kernel
theorem dX6_doors_0 : decode cX6_doors 0 = .ok (.aload_n 0, 1) := by decide +kernel
theorem dX6_doors_1 : decode cX6_doors 1 = .ok (.getfield 30, 3) := by decide +kernel
theorem dX6_doors_4 : decode cX6_doors 4 = .ok (.iconst 4, 1) := by decide +kernel
theorem dX6_doors_5 : decode cX6_doors 5 = .ok (.iaload, 1) := by decide +kernel
theorem dX6_doors_6 : decode cX6_doors 6 = .ok (.istore_n 2, 1) := by decide +kernel
theorem dX6_doors_7 : decode cX6_doors 7 = .ok (.iload_n 1, 1) := by decide +kernel
theorem dX6_doors_8 : decode cX6_doors 8 = .ok (.iconst 1, 1) := by decide +kernel
theorem dX6_doors_9 : decode cX6_doors 9 = .ok (.iadd, 1) := by decide +kernel
theorem dX6_doors_10 : decode cX6_doors 10 = .ok (.iconst 2, 1) := by decide +kernel
theorem dX6_doors_11 : decode cX6_doors 11 = .ok (.iload_n 2, 1) := by decide +kernel
theorem dX6_doors_12 : decode cX6_doors 12 = .ok (.iconst 1, 1) := by decide +kernel
theorem dX6_doors_13 : decode cX6_doors 13 = .ok (.iadd, 1) := by decide +kernel
theorem dX6_doors_14 : decode cX6_doors 14 = .ok (.imul, 1) := by decide +kernel
theorem dX6_doors_15 : decode cX6_doors 15 = .ok (.isub, 1) := by decide +kernel
theorem dX6_doors_16 : decode cX6_doors 16 = .ok (.istore_n 3, 1) := by decide +kernel
theorem dX6_doors_17 : decode cX6_doors 17 = .ok (.iconst 2, 1) := by decide +kernel
theorem dX6_doors_18 : decode cX6_doors 18 = .ok (.iload_n 2, 1) := by decide +kernel
theorem dX6_doors_19 : decode cX6_doors 19 = .ok (.imul, 1) := by decide +kernel
theorem dX6_doors_20 : decode cX6_doors 20 = .ok (.iconst 1, 1) := by decide +kernel
theorem dX6_doors_21 : decode cX6_doors 21 = .ok (.iadd, 1) := by decide +kernel
theorem dX6_doors_22 : decode cX6_doors 22 = .ok (.istore 4, 2) := by decide +kernel
theorem dX6_doors_24 : decode cX6_doors 24 = .ok (.iload_n 3, 1) := by decide +kernel
theorem dX6_doors_25 : decode cX6_doors 25 = .ok (.ifCond .le 8, 3) := by decide +kernel
theorem dX6_doors_28 : decode cX6_doors 28 = .ok (.iload 4, 2) := by decide +kernel
theorem dX6_doors_30 : decode cX6_doors 30 = .ok (.ifCond .gt 7, 3) := by decide +kernel
theorem dX6_doors_33 : decode cX6_doors 33 = .ok (.iconst 0, 1) := by decide +kernel
theorem dX6_doors_34 : decode cX6_doors 34 = .ok (.goto 12, 3) := by decide +kernel
theorem dX6_doors_37 : decode cX6_doors 37 = .ok (.iload_n 3, 1) := by decide +kernel
theorem dX6_doors_38 : decode cX6_doors 38 = .ok (.iload 4, 2) := by decide +kernel
theorem dX6_doors_40 : decode cX6_doors 40 = .ok (.iadd, 1) := by decide +kernel
theorem dX6_doors_41 : decode cX6_doors 41 = .ok (.iconst 1, 1) := by decide +kernel
theorem dX6_doors_42 : decode cX6_doors 42 = .ok (.isub, 1) := by decide +kernel
theorem dX6_doors_43 : decode cX6_doors 43 = .ok (.iload 4, 2) := by decide +kernel
theorem dX6_doors_45 : decode cX6_doors 45 = .ok (.idiv, 1) := by decide +kernel
theorem dX6_doors_46 : decode cX6_doors 46 = .ok (.ireturn, 1) := by decide +kernel
theorem dX6_strength_0 : decode cX6_strength 0 = .ok (.aload_n 0, 1) := by decide +kernel
theorem dX6_strength_1 : decode cX6_strength 1 = .ok (.getfield 23, 3) := by decide +kernel
theorem dX6_strength_4 : decode cX6_strength 4 = .ok (.getfield 192, 3) := by decide +kernel
theorem dX6_strength_7 : decode cX6_strength 7 = .ok (.iconst 1, 1) := by decide +kernel
theorem dX6_strength_8 : decode cX6_strength 8 = .ok (.isub, 1) := by decide +kernel
theorem dX6_strength_9 : decode cX6_strength 9 = .ok (.istore_n 3, 1) := by decide +kernel
theorem dX6_strength_10 : decode cX6_strength 10 = .ok (.aload_n 0, 1) := by decide +kernel
theorem dX6_strength_11 : decode cX6_strength 11 = .ok (.getfield 42, 3) := by decide +kernel
theorem dX6_strength_14 : decode cX6_strength 14 = .ok (.getfield 218, 3) := by decide +kernel
theorem dX6_strength_17 : decode cX6_strength 17 = .ok (.iload_n 1, 1) := by decide +kernel
theorem dX6_strength_18 : decode cX6_strength 18 = .ok (.aaload, 1) := by decide +kernel
theorem dX6_strength_19 : decode cX6_strength 19 = .ok (.iload_n 3, 1) := by decide +kernel
theorem dX6_strength_20 : decode cX6_strength 20 = .ok (.iaload, 1) := by decide +kernel
theorem dX6_strength_21 : decode cX6_strength 21 = .ok (.istore 4, 2) := by decide +kernel
theorem dX6_strength_23 : decode cX6_strength 23 = .ok (.aload_n 0, 1) := by decide +kernel
theorem dX6_strength_24 : decode cX6_strength 24 = .ok (.getfield 23, 3) := by decide +kernel
theorem dX6_strength_27 : decode cX6_strength 27 = .ok (.iload 4, 2) := by decide +kernel
theorem dX6_strength_29 : decode cX6_strength 29 = .ok (.invokevirtual 136, 3) := by decide +kernel
theorem dX6_strength_32 : decode cX6_strength 32 = .ok (.ifCond .eq 15, 3) := by decide +kernel
theorem dX6_strength_35 : decode cX6_strength 35 = .ok (.aload_n 0, 1) := by decide +kernel
theorem dX6_strength_36 : decode cX6_strength 36 = .ok (.getfield 36, 3) := by decide +kernel
theorem dX6_strength_39 : decode cX6_strength 39 = .ok (.iload_n 2, 1) := by decide +kernel
theorem dX6_strength_40 : decode cX6_strength 40 = .ok (.aaload, 1) := by decide +kernel
theorem dX6_strength_41 : decode cX6_strength 41 = .ok (.iload 4, 2) := by decide +kernel
theorem dX6_strength_43 : decode cX6_strength 43 = .ok (.iaload, 1) := by decide +kernel
theorem dX6_strength_44 : decode cX6_strength 44 = .ok (.goto 4, 3) := by decide +kernel
theorem dX6_strength_47 : decode cX6_strength 47 = .ok (.iconst 0, 1) := by decide +kernel
theorem dX6_strength_48 : decode cX6_strength 48 = .ok (.istore 5, 2) := by decide +kernel
theorem dX6_strength_50 : decode cX6_strength 50 = .ok (.aload_n 0, 1) := by decide +kernel
theorem dX6_strength_51 : decode cX6_strength 51 = .ok (.getfield 30, 3) := by decide +kernel
theorem dX6_strength_54 : decode cX6_strength 54 = .ok (.iconst 3, 1) := by decide +kernel
theorem dX6_strength_55 : decode cX6_strength 55 = .ok (.iaload, 1) := by decide +kernel
theorem dX6_strength_56 : decode cX6_strength 56 = .ok (.aload_n 0, 1) := by decide +kernel
theorem dX6_strength_57 : decode cX6_strength 57 = .ok (.getfield 23, 3) := by decide +kernel
theorem dX6_strength_60 : decode cX6_strength 60 = .ok (.iload_n 1, 1) := by decide +kernel
theorem dX6_strength_61 : decode cX6_strength 61 = .ok (.invokevirtual 263, 3) := by decide +kernel
theorem dX6_strength_64 : decode cX6_strength 64 = .ok (.imul, 1) := by decide +kernel
theorem dX6_strength_65 : decode cX6_strength 65 = .ok (.aload_n 0, 1) := by decide +kernel
theorem dX6_strength_66 : decode cX6_strength 66 = .ok (.getfield 30, 3) := by decide +kernel
theorem dX6_strength_69 : decode cX6_strength 69 = .ok (.iconst 1, 1) := by decide +kernel
theorem dX6_strength_70 : decode cX6_strength 70 = .ok (.iaload, 1) := by decide +kernel
theorem dX6_strength_71 : decode cX6_strength 71 = .ok (.aload_n 0, 1) := by decide +kernel
theorem dX6_strength_72 : decode cX6_strength 72 = .ok (.getfield 42, 3) := by decide +kernel
theorem dX6_strength_75 : decode cX6_strength 75 = .ok (.aload_n 0, 1) := by decide +kernel
theorem dX6_strength_76 : decode cX6_strength 76 = .ok (.getfield 23, 3) := by decide +kernel
theorem dX6_strength_79 : decode cX6_strength 79 = .ok (.iload_n 1, 1) := by decide +kernel
theorem dX6_strength_80 : decode cX6_strength 80 = .ok (.invokevirtual 236, 3) := by decide +kernel
theorem dX6_strength_83 : decode cX6_strength 83 = .ok (.imul, 1) := by decide +kernel
theorem dX6_strength_84 : decode cX6_strength 84 = .ok (.isub, 1) := by decide +kernel
theorem dX6_strength_85 : decode cX6_strength 85 = .ok (.aload_n 0, 1) := by decide +kernel
theorem dX6_strength_86 : decode cX6_strength 86 = .ok (.getfield 30, 3) := by decide +kernel
theorem dX6_strength_89 : decode cX6_strength 89 = .ok (.iconst 2, 1) := by decide +kernel
theorem dX6_strength_90 : decode cX6_strength 90 = .ok (.iaload, 1) := by decide +kernel
theorem dX6_strength_91 : decode cX6_strength 91 = .ok (.aload_n 0, 1) := by decide +kernel
theorem dX6_strength_92 : decode cX6_strength 92 = .ok (.getfield 42, 3) := by decide +kernel
theorem dX6_strength_95 : decode cX6_strength 95 = .ok (.aload_n 0, 1) := by decide +kernel
theorem dX6_strength_96 : decode cX6_strength 96 = .ok (.getfield 23, 3) := by decide +kernel
theorem dX6_strength_99 : decode cX6_strength 99 = .ok (.iload_n 1, 1) := by decide +kernel
theorem dX6_strength_100 : decode cX6_strength 100 = .ok (.invokevirtual 241, 3) := by decide +kernel
theorem dX6_strength_103 : decode cX6_strength 103 = .ok (.imul, 1) := by decide +kernel
theorem dX6_strength_104 : decode cX6_strength 104 = .ok (.isub, 1) := by decide +kernel
theorem dX6_strength_105 : decode cX6_strength 105 = .ok (.iload 5, 2) := by decide +kernel
theorem dX6_strength_107 : decode cX6_strength 107 = .ok (.iadd, 1) := by decide +kernel
theorem dX6_strength_108 : decode cX6_strength 108 = .ok (.ireturn, 1) := by decide +kernel
theorem dX6_wanted_0 : decode cX6_wanted 0 = .ok (.aload_n 0, 1) := by decide +kernel
theorem dX6_wanted_1 : decode cX6_wanted 1 = .ok (.getfield 23, 3) := by decide +kernel
theorem dX6_wanted_4 : decode cX6_wanted 4 = .ok (.getfield 124, 3) := by decide +kernel
theorem dX6_wanted_7 : decode cX6_wanted 7 = .ok (.iload_n 1, 1) := by decide +kernel
theorem dX6_wanted_8 : decode cX6_wanted 8 = .ok (.iaload, 1) := by decide +kernel
theorem dX6_wanted_9 : decode cX6_wanted 9 = .ok (.istore 4, 2) := by decide +kernel
theorem dX6_wanted_11 : decode cX6_wanted 11 = .ok (.iload_n 2, 1) := by decide +kernel
theorem dX6_wanted_12 : decode cX6_wanted 12 = .ok (.iload_n 1, 1) := by decide +kernel
theorem dX6_wanted_13 : decode cX6_wanted 13 = .ok (.if_icmp .ne 8, 3) := by decide +kernel
theorem dX6_wanted_16 : decode cX6_wanted 16 = .ok (.iload 4, 2) := by decide +kernel
theorem dX6_wanted_18 : decode cX6_wanted 18 = .ok (.goto 21, 3) := by decide +kernel
theorem dX6_wanted_21 : decode cX6_wanted 21 = .ok (.iload 4, 2) := by decide +kernel
theorem dX6_wanted_23 : decode cX6_wanted 23 = .ok (.aload_n 0, 1) := by decide +kernel
theorem dX6_wanted_24 : decode cX6_wanted 24 = .ok (.iload_n 2, 1) := by decide +kernel
theorem dX6_wanted_25 : decode cX6_wanted 25 = .ok (.iload_n 3, 1) := by decide +kernel
theorem dX6_wanted_26 : decode cX6_wanted 26 = .ok (.invokevirtual 247, 3) := by decide +kernel
theorem dX6_wanted_29 : decode cX6_wanted 29 = .ok (.aload_n 0, 1) := by decide +kernel
theorem dX6_wanted_30 : decode cX6_wanted 30 = .ok (.getfield 30, 3) := by decide +kernel
theorem dX6_wanted_33 : decode cX6_wanted 33 = .ok (.iconst 5, 1) := by decide +kernel
theorem dX6_wanted_34 : decode cX6_wanted 34 = .ok (.iaload, 1) := by decide +kernel
theorem dX6_wanted_35 : decode cX6_wanted 35 = .ok (.isub, 1) := by decide +kernel
theorem dX6_wanted_36 : decode cX6_wanted 36 = .ok (.invokestatic 255, 3) := by decide +kernel
theorem dX6_wanted_39 : decode cX6_wanted 39 = .ok (.ireturn, 1) := by decide +kernel
theorem dX6_fewestMoved_0 : decode cX6_fewestMoved 0 = .ok (.iconst 0, 1) := by decide +kernel
theorem dX6_fewestMoved_1 : decode cX6_fewestMoved 1 = .ok (.istore_n 2, 1) := by decide +kernel
theorem dX6_fewestMoved_2 : decode cX6_fewestMoved 2 = .ok (.iload_n 2, 1) := by decide +kernel
theorem dX6_fewestMoved_3 : decode cX6_fewestMoved 3 = .ok (.aload_n 0, 1) := by decide +kernel
theorem dX6_fewestMoved_4 : decode cX6_fewestMoved 4 = .ok (.getfield 23, 3) := by decide +kernel
theorem dX6_fewestMoved_7 : decode cX6_fewestMoved 7 = .ok (.getfield 101, 3) := by decide +kernel
theorem dX6_fewestMoved_10 : decode cX6_fewestMoved 10 = .ok (.if_icmp .gt 56, 3) := by decide +kernel
theorem dX6_fewestMoved_13 : decode cX6_fewestMoved 13 = .ok (.iconst 0, 1) := by decide +kernel
theorem dX6_fewestMoved_14 : decode cX6_fewestMoved 14 = .ok (.istore_n 3, 1) := by decide +kernel
theorem dX6_fewestMoved_15 : decode cX6_fewestMoved 15 = .ok (.iload_n 3, 1) := by decide +kernel
theorem dX6_fewestMoved_16 : decode cX6_fewestMoved 16 = .ok (.iconst 1, 1) := by decide +kernel
theorem dX6_fewestMoved_17 : decode cX6_fewestMoved 17 = .ok (.aload_n 0, 1) := by decide +kernel
theorem dX6_fewestMoved_18 : decode cX6_fewestMoved 18 = .ok (.getfield 23, 3) := by decide +kernel
theorem dX6_fewestMoved_21 : decode cX6_fewestMoved 21 = .ok (.getfield 101, 3) := by decide +kernel
theorem dX6_fewestMoved_24 : decode cX6_fewestMoved 24 = .ok (.ishl, 1) := by decide +kernel
theorem dX6_fewestMoved_25 : decode cX6_fewestMoved 25 = .ok (.if_icmp .ge 35, 3) := by decide +kernel
theorem dX6_fewestMoved_28 : decode cX6_fewestMoved 28 = .ok (.iload_n 3, 1) := by decide +kernel
theorem dX6_fewestMoved_29 : decode cX6_fewestMoved 29 = .ok (.invokestatic 186, 3) := by decide +kernel
theorem dX6_fewestMoved_32 : decode cX6_fewestMoved 32 = .ok (.iload_n 2, 1) := by decide +kernel
theorem dX6_fewestMoved_33 : decode cX6_fewestMoved 33 = .ok (.if_icmp .ne 21, 3) := by decide +kernel
theorem dX6_fewestMoved_36 : decode cX6_fewestMoved 36 = .ok (.aload_n 0, 1) := by decide +kernel
theorem dX6_fewestMoved_37 : decode cX6_fewestMoved 37 = .ok (.iload_n 3, 1) := by decide +kernel
theorem dX6_fewestMoved_38 : decode cX6_fewestMoved 38 = .ok (.iload_n 1, 1) := by decide +kernel
theorem dX6_fewestMoved_39 : decode cX6_fewestMoved 39 = .ok (.invokevirtual 266, 3) := by decide +kernel
theorem dX6_fewestMoved_42 : decode cX6_fewestMoved 42 = .ok (.aload_n 0, 1) := by decide +kernel
theorem dX6_fewestMoved_43 : decode cX6_fewestMoved 43 = .ok (.getfield 73, 3) := by decide +kernel
theorem dX6_fewestMoved_46 : decode cX6_fewestMoved 46 = .ok (.invokevirtual 205, 3) := by decide +kernel
theorem dX6_fewestMoved_49 : decode cX6_fewestMoved 49 = .ok (.ifCond .eq 5, 3) := by decide +kernel
theorem dX6_fewestMoved_52 : decode cX6_fewestMoved 52 = .ok (.iload_n 3, 1) := by decide +kernel
theorem dX6_fewestMoved_53 : decode cX6_fewestMoved 53 = .ok (.ireturn, 1) := by decide +kernel
theorem dX6_fewestMoved_54 : decode cX6_fewestMoved 54 = .ok (.iinc 3 1, 3) := by decide +kernel
theorem dX6_fewestMoved_57 : decode cX6_fewestMoved 57 = .ok (.goto (-42), 3) := by decide +kernel
theorem dX6_fewestMoved_60 : decode cX6_fewestMoved 60 = .ok (.iinc 2 1, 3) := by decide +kernel
theorem dX6_fewestMoved_63 : decode cX6_fewestMoved 63 = .ok (.goto (-61), 3) := by decide +kernel
theorem dX6_fewestMoved_66 : decode cX6_fewestMoved 66 = .ok (.bipush (-9), 2) := by decide +kernel
theorem dX6_fewestMoved_68 : decode cX6_fewestMoved 68 = .ok (.ireturn, 1) := by decide +kernel
theorem dX6_putAllMoving_0 : decode cX6_putAllMoving 0 = .ok (.aload_n 0, 1) := by decide +kernel
theorem dX6_putAllMoving_1 : decode cX6_putAllMoving 1 = .ok (.getfield 73, 3) := by decide +kernel
theorem dX6_putAllMoving_4 : decode cX6_putAllMoving 4 = .ok (.aload_n 0, 1) := by decide +kernel
theorem dX6_putAllMoving_5 : decode cX6_putAllMoving 5 = .ok (.getfield 23, 3) := by decide +kernel
theorem dX6_putAllMoving_8 : decode cX6_putAllMoving 8 = .ok (.aload_n 0, 1) := by decide +kernel
theorem dX6_putAllMoving_9 : decode cX6_putAllMoving 9 = .ok (.getfield 30, 3) := by decide +kernel
theorem dX6_putAllMoving_12 : decode cX6_putAllMoving 12 = .ok (.iconst 0, 1) := by decide +kernel
theorem dX6_putAllMoving_13 : decode cX6_putAllMoving 13 = .ok (.iaload, 1) := by decide +kernel
theorem dX6_putAllMoving_14 : decode cX6_putAllMoving 14 = .ok (.iload_n 2, 1) := by decide +kernel
theorem dX6_putAllMoving_15 : decode cX6_putAllMoving 15 = .ok (.invokevirtual 211, 3) := by decide +kernel
theorem dX6_putAllMoving_18 : decode cX6_putAllMoving 18 = .ok (.iconst 0, 1) := by decide +kernel
theorem dX6_putAllMoving_19 : decode cX6_putAllMoving 19 = .ok (.istore_n 3, 1) := by decide +kernel
theorem dX6_putAllMoving_20 : decode cX6_putAllMoving 20 = .ok (.iload_n 3, 1) := by decide +kernel
theorem dX6_putAllMoving_21 : decode cX6_putAllMoving 21 = .ok (.aload_n 0, 1) := by decide +kernel
theorem dX6_putAllMoving_22 : decode cX6_putAllMoving 22 = .ok (.getfield 23, 3) := by decide +kernel
theorem dX6_putAllMoving_25 : decode cX6_putAllMoving 25 = .ok (.getfield 101, 3) := by decide +kernel
theorem dX6_putAllMoving_28 : decode cX6_putAllMoving 28 = .ok (.if_icmp .ge 55, 3) := by decide +kernel
theorem dX6_putAllMoving_31 : decode cX6_putAllMoving 31 = .ok (.aload_n 0, 1) := by decide +kernel
theorem dX6_putAllMoving_32 : decode cX6_putAllMoving 32 = .ok (.getfield 73, 3) := by decide +kernel
theorem dX6_putAllMoving_35 : decode cX6_putAllMoving 35 = .ok (.iload_n 3, 1) := by decide +kernel
theorem dX6_putAllMoving_36 : decode cX6_putAllMoving 36 = .ok (.aload_n 0, 1) := by decide +kernel
theorem dX6_putAllMoving_37 : decode cX6_putAllMoving 37 = .ok (.getfield 23, 3) := by decide +kernel
theorem dX6_putAllMoving_40 : decode cX6_putAllMoving 40 = .ok (.getfield 118, 3) := by decide +kernel
theorem dX6_putAllMoving_43 : decode cX6_putAllMoving 43 = .ok (.iload_n 3, 1) := by decide +kernel
theorem dX6_putAllMoving_44 : decode cX6_putAllMoving 44 = .ok (.iaload, 1) := by decide +kernel
theorem dX6_putAllMoving_45 : decode cX6_putAllMoving 45 = .ok (.aload_n 0, 1) := by decide +kernel
theorem dX6_putAllMoving_46 : decode cX6_putAllMoving 46 = .ok (.getfield 23, 3) := by decide +kernel
theorem dX6_putAllMoving_49 : decode cX6_putAllMoving 49 = .ok (.getfield 121, 3) := by decide +kernel
theorem dX6_putAllMoving_52 : decode cX6_putAllMoving 52 = .ok (.iload_n 3, 1) := by decide +kernel
theorem dX6_putAllMoving_53 : decode cX6_putAllMoving 53 = .ok (.iaload, 1) := by decide +kernel
theorem dX6_putAllMoving_54 : decode cX6_putAllMoving 54 = .ok (.invokevirtual 201, 3) := by decide +kernel
theorem dX6_putAllMoving_57 : decode cX6_putAllMoving 57 = .ok (.iload_n 1, 1) := by decide +kernel
theorem dX6_putAllMoving_58 : decode cX6_putAllMoving 58 = .ok (.iload_n 3, 1) := by decide +kernel
theorem dX6_putAllMoving_59 : decode cX6_putAllMoving 59 = .ok (.ishr, 1) := by decide +kernel
theorem dX6_putAllMoving_60 : decode cX6_putAllMoving 60 = .ok (.iconst 1, 1) := by decide +kernel
theorem dX6_putAllMoving_61 : decode cX6_putAllMoving 61 = .ok (.iand, 1) := by decide +kernel
theorem dX6_putAllMoving_62 : decode cX6_putAllMoving 62 = .ok (.ifCond .ne 15, 3) := by decide +kernel
theorem dX6_putAllMoving_65 : decode cX6_putAllMoving 65 = .ok (.aload_n 0, 1) := by decide +kernel
theorem dX6_putAllMoving_66 : decode cX6_putAllMoving 66 = .ok (.getfield 73, 3) := by decide +kernel
theorem dX6_putAllMoving_69 : decode cX6_putAllMoving 69 = .ok (.iload_n 3, 1) := by decide +kernel
theorem dX6_putAllMoving_70 : decode cX6_putAllMoving 70 = .ok (.aload_n 0, 1) := by decide +kernel
theorem dX6_putAllMoving_71 : decode cX6_putAllMoving 71 = .ok (.getfield 42, 3) := by decide +kernel
theorem dX6_putAllMoving_74 : decode cX6_putAllMoving 74 = .ok (.invokevirtual 270, 3) := by decide +kernel
theorem dX6_putAllMoving_77 : decode cX6_putAllMoving 77 = .ok (.iinc 3 1, 3) := by decide +kernel
theorem dX6_putAllMoving_80 : decode cX6_putAllMoving 80 = .ok (.goto (-60), 3) := by decide +kernel
theorem dX6_putAllMoving_83 : decode cX6_putAllMoving 83 = .ok (.return_, 1) := by decide +kernel
theorem dX6_mark_0 : decode cX6_mark 0 = .ok (.aload_n 0, 1) := by decide +kernel
theorem dX6_mark_1 : decode cX6_mark 1 = .ok (.getfield 23, 3) := by decide +kernel
theorem dX6_mark_4 : decode cX6_mark 4 = .ok (.iload_n 1, 1) := by decide +kernel
theorem dX6_mark_5 : decode cX6_mark 5 = .ok (.iload_n 2, 1) := by decide +kernel
theorem dX6_mark_6 : decode cX6_mark 6 = .ok (.invokevirtual 104, 3) := by decide +kernel
theorem dX6_mark_9 : decode cX6_mark 9 = .ok (.ifCond .ne 5, 3) := by decide +kernel
theorem dX6_mark_12 : decode cX6_mark 12 = .ok (.iconst (-1), 1) := by decide +kernel
theorem dX6_mark_13 : decode cX6_mark 13 = .ok (.ireturn, 1) := by decide +kernel
theorem dX6_mark_14 : decode cX6_mark 14 = .ok (.aload_n 0, 1) := by decide +kernel
theorem dX6_mark_15 : decode cX6_mark 15 = .ok (.getfield 42, 3) := by decide +kernel
theorem dX6_mark_18 : decode cX6_mark 18 = .ok (.getfield 92, 3) := by decide +kernel
theorem dX6_mark_21 : decode cX6_mark 21 = .ok (.bipush 6, 2) := by decide +kernel
theorem dX6_mark_23 : decode cX6_mark 23 = .ok (.if_icmp .lt 6, 3) := by decide +kernel
theorem dX6_mark_26 : decode cX6_mark 26 = .ok (.bipush (-3), 2) := by decide +kernel
theorem dX6_mark_28 : decode cX6_mark 28 = .ok (.ireturn, 1) := by decide +kernel
theorem dX6_mark_29 : decode cX6_mark 29 = .ok (.aload_n 0, 1) := by decide +kernel
theorem dX6_mark_30 : decode cX6_mark 30 = .ok (.getfield 42, 3) := by decide +kernel
theorem dX6_mark_33 : decode cX6_mark 33 = .ok (.getfield 274, 3) := by decide +kernel
theorem dX6_mark_36 : decode cX6_mark 36 = .ok (.aload_n 0, 1) := by decide +kernel
theorem dX6_mark_37 : decode cX6_mark 37 = .ok (.getfield 42, 3) := by decide +kernel
theorem dX6_mark_40 : decode cX6_mark 40 = .ok (.getfield 92, 3) := by decide +kernel
theorem dX6_mark_43 : decode cX6_mark 43 = .ok (.iload_n 1, 1) := by decide +kernel
theorem dX6_mark_44 : decode cX6_mark 44 = .ok (.iastore, 1) := by decide +kernel
theorem dX6_mark_45 : decode cX6_mark 45 = .ok (.aload_n 0, 1) := by decide +kernel
theorem dX6_mark_46 : decode cX6_mark 46 = .ok (.getfield 42, 3) := by decide +kernel
theorem dX6_mark_49 : decode cX6_mark 49 = .ok (.getfield 277, 3) := by decide +kernel
theorem dX6_mark_52 : decode cX6_mark 52 = .ok (.aload_n 0, 1) := by decide +kernel
theorem dX6_mark_53 : decode cX6_mark 53 = .ok (.getfield 42, 3) := by decide +kernel
theorem dX6_mark_56 : decode cX6_mark 56 = .ok (.getfield 92, 3) := by decide +kernel
theorem dX6_mark_59 : decode cX6_mark 59 = .ok (.iload_n 2, 1) := by decide +kernel
theorem dX6_mark_60 : decode cX6_mark 60 = .ok (.iastore, 1) := by decide +kernel
theorem dX6_mark_61 : decode cX6_mark 61 = .ok (.aload_n 0, 1) := by decide +kernel
theorem dX6_mark_62 : decode cX6_mark 62 = .ok (.getfield 42, 3) := by decide +kernel
theorem dX6_mark_65 : decode cX6_mark 65 = .ok (.dup, 1) := by decide +kernel
theorem dX6_mark_66 : decode cX6_mark 66 = .ok (.getfield 92, 3) := by decide +kernel
theorem dX6_mark_69 : decode cX6_mark 69 = .ok (.iconst 1, 1) := by decide +kernel
theorem dX6_mark_70 : decode cX6_mark 70 = .ok (.iadd, 1) := by decide +kernel
theorem dX6_mark_71 : decode cX6_mark 71 = .ok (.putfield 92, 3) := by decide +kernel
theorem dX6_mark_74 : decode cX6_mark 74 = .ok (.aload_n 0, 1) := by decide +kernel
theorem dX6_mark_75 : decode cX6_mark 75 = .ok (.getfield 42, 3) := by decide +kernel
theorem dX6_mark_78 : decode cX6_mark 78 = .ok (.getfield 92, 3) := by decide +kernel
theorem dX6_mark_81 : decode cX6_mark 81 = .ok (.ireturn, 1) := by decide +kernel
theorem dX6_guess_0 : decode cX6_guess 0 = .ok (.aload_n 0, 1) := by decide +kernel
theorem dX6_guess_1 : decode cX6_guess 1 = .ok (.getfield 23, 3) := by decide +kernel
theorem dX6_guess_4 : decode cX6_guess 4 = .ok (.iload_n 1, 1) := by decide +kernel
theorem dX6_guess_5 : decode cX6_guess 5 = .ok (.invokevirtual 115, 3) := by decide +kernel
theorem dX6_guess_8 : decode cX6_guess 8 = .ok (.ifCond .ne 7, 3) := by decide +kernel
theorem dX6_guess_11 : decode cX6_guess 11 = .ok (.ldc2_w 140, 3) := by decide +kernel
theorem dX6_guess_14 : decode cX6_guess 14 = .ok (.lreturn, 1) := by decide +kernel
theorem dX6_guess_15 : decode cX6_guess 15 = .ok (.aload_n 0, 1) := by decide +kernel
theorem dX6_guess_16 : decode cX6_guess 16 = .ok (.getfield 66, 3) := by decide +kernel
theorem dX6_guess_19 : decode cX6_guess 19 = .ok (.aload_n 0, 1) := by decide +kernel
theorem dX6_guess_20 : decode cX6_guess 20 = .ok (.getfield 23, 3) := by decide +kernel
theorem dX6_guess_23 : decode cX6_guess 23 = .ok (.iload_n 1, 1) := by decide +kernel
theorem dX6_guess_24 : decode cX6_guess 24 = .ok (.invokevirtual 142, 3) := by decide +kernel
theorem dX6_guess_27 : decode cX6_guess 27 = .ok (.aload_n 0, 1) := by decide +kernel
theorem dX6_guess_28 : decode cX6_guess 28 = .ok (.getfield 66, 3) := by decide +kernel
theorem dX6_guess_31 : decode cX6_guess 31 = .ok (.aload_n 0, 1) := by decide +kernel
theorem dX6_guess_32 : decode cX6_guess 32 = .ok (.getfield 42, 3) := by decide +kernel
theorem dX6_guess_35 : decode cX6_guess 35 = .ok (.invokevirtual 280, 3) := by decide +kernel
theorem dX6_guess_38 : decode cX6_guess 38 = .ok (.aload_n 0, 1) := by decide +kernel
theorem dX6_guess_39 : decode cX6_guess 39 = .ok (.getfield 66, 3) := by decide +kernel
theorem dX6_guess_42 : decode cX6_guess 42 = .ok (.invokevirtual 146, 3) := by decide +kernel
theorem dX6_guess_45 : decode cX6_guess 45 = .ok (.lreturn, 1) := by decide +kernel
theorem dX6_rate_0 : decode cX6_rate 0 = .ok (.aload_n 0, 1) := by decide +kernel
theorem dX6_rate_1 : decode cX6_rate 1 = .ok (.getfield 23, 3) := by decide +kernel
theorem dX6_rate_4 : decode cX6_rate 4 = .ok (.iload_n 2, 1) := by decide +kernel
theorem dX6_rate_5 : decode cX6_rate 5 = .ok (.invokevirtual 115, 3) := by decide +kernel
theorem dX6_rate_8 : decode cX6_rate 8 = .ok (.ifCond .ne 6, 3) := by decide +kernel
theorem dX6_rate_11 : decode cX6_rate 11 = .ok (.ldc 139, 2) := by decide +kernel
theorem dX6_rate_13 : decode cX6_rate 13 = .ok (.ireturn, 1) := by decide +kernel
theorem dX6_rate_14 : decode cX6_rate 14 = .ok (.iload_n 1, 1) := by decide +kernel
theorem dX6_rate_15 : decode cX6_rate 15 = .ok (.tableswitch 73 0 5 #[37, 43, 49, 55, 61, 67], 37) := by decide +kernel
theorem dX6_rate_52 : decode cX6_rate 52 = .ok (.aload_n 0, 1) := by decide +kernel
theorem dX6_rate_53 : decode cX6_rate 53 = .ok (.iload_n 2, 1) := by decide +kernel
theorem dX6_rate_54 : decode cX6_rate 54 = .ok (.invokevirtual 283, 3) := by decide +kernel
theorem dX6_rate_57 : decode cX6_rate 57 = .ok (.ireturn, 1) := by decide +kernel
theorem dX6_rate_58 : decode cX6_rate 58 = .ok (.aload_n 0, 1) := by decide +kernel
theorem dX6_rate_59 : decode cX6_rate 59 = .ok (.iload_n 2, 1) := by decide +kernel
theorem dX6_rate_60 : decode cX6_rate 60 = .ok (.invokevirtual 286, 3) := by decide +kernel
theorem dX6_rate_63 : decode cX6_rate 63 = .ok (.ireturn, 1) := by decide +kernel
theorem dX6_rate_64 : decode cX6_rate 64 = .ok (.aload_n 0, 1) := by decide +kernel
theorem dX6_rate_65 : decode cX6_rate 65 = .ok (.iload_n 2, 1) := by decide +kernel
theorem dX6_rate_66 : decode cX6_rate 66 = .ok (.invokevirtual 289, 3) := by decide +kernel
theorem dX6_rate_69 : decode cX6_rate 69 = .ok (.ireturn, 1) := by decide +kernel
theorem dX6_rate_70 : decode cX6_rate 70 = .ok (.aload_n 0, 1) := by decide +kernel
theorem dX6_rate_71 : decode cX6_rate 71 = .ok (.iload_n 2, 1) := by decide +kernel
theorem dX6_rate_72 : decode cX6_rate 72 = .ok (.invokevirtual 292, 3) := by decide +kernel
theorem dX6_rate_75 : decode cX6_rate 75 = .ok (.ireturn, 1) := by decide +kernel
theorem dX6_rate_76 : decode cX6_rate 76 = .ok (.aload_n 0, 1) := by decide +kernel
theorem dX6_rate_77 : decode cX6_rate 77 = .ok (.iload_n 2, 1) := by decide +kernel
theorem dX6_rate_78 : decode cX6_rate 78 = .ok (.invokevirtual 295, 3) := by decide +kernel
theorem dX6_rate_81 : decode cX6_rate 81 = .ok (.ireturn, 1) := by decide +kernel
theorem dX6_rate_82 : decode cX6_rate 82 = .ok (.aload_n 0, 1) := by decide +kernel
theorem dX6_rate_83 : decode cX6_rate 83 = .ok (.iload_n 2, 1) := by decide +kernel
theorem dX6_rate_84 : decode cX6_rate 84 = .ok (.invokevirtual 298, 3) := by decide +kernel
theorem dX6_rate_87 : decode cX6_rate 87 = .ok (.ireturn, 1) := by decide +kernel
theorem dX6_rate_88 : decode cX6_rate 88 = .ok (.ldc 139, 2) := by decide +kernel
theorem dX6_rate_90 : decode cX6_rate 90 = .ok (.ireturn, 1) := by decide +kernel
theorem dX6_keep_0 : decode cX6_keep 0 = .ok (.iload_n 1, 1) := by decide +kernel
theorem dX6_keep_1 : decode cX6_keep 1 = .ok (.ifCond .lt 8, 3) := by decide +kernel
theorem dX6_keep_4 : decode cX6_keep 4 = .ok (.iload_n 1, 1) := by decide +kernel
theorem dX6_keep_5 : decode cX6_keep 5 = .ok (.iconst 2, 1) := by decide +kernel
theorem dX6_keep_6 : decode cX6_keep 6 = .ok (.if_icmp .lt 5, 3) := by decide +kernel
theorem dX6_keep_9 : decode cX6_keep 9 = .ok (.iconst (-1), 1) := by decide +kernel
theorem dX6_keep_10 : decode cX6_keep 10 = .ok (.ireturn, 1) := by decide +kernel
theorem dX6_keep_11 : decode cX6_keep 11 = .ok (.aload_n 0, 1) := by decide +kernel
theorem dX6_keep_12 : decode cX6_keep 12 = .ok (.iload_n 1, 1) := by decide +kernel
theorem dX6_keep_13 : decode cX6_keep 13 = .ok (.invokevirtual 301, 3) := by decide +kernel
theorem dX6_keep_16 : decode cX6_keep 16 = .ok (.aload_n 0, 1) := by decide +kernel
theorem dX6_keep_17 : decode cX6_keep 17 = .ok (.getfield 42, 3) := by decide +kernel
theorem dX6_keep_20 : decode cX6_keep 20 = .ok (.invokevirtual 305, 3) := by decide +kernel
theorem dX6_keep_23 : decode cX6_keep 23 = .ok (.aload_n 0, 1) := by decide +kernel
theorem dX6_keep_24 : decode cX6_keep 24 = .ok (.getfield 59, 3) := by decide +kernel
theorem dX6_keep_27 : decode cX6_keep 27 = .ok (.iload_n 1, 1) := by decide +kernel
theorem dX6_keep_28 : decode cX6_keep 28 = .ok (.iconst 1, 1) := by decide +kernel
theorem dX6_keep_29 : decode cX6_keep 29 = .ok (.bastore, 1) := by decide +kernel
theorem dX6_keep_30 : decode cX6_keep 30 = .ok (.aload_n 0, 1) := by decide +kernel
theorem dX6_keep_31 : decode cX6_keep 31 = .ok (.getfield 42, 3) := by decide +kernel
theorem dX6_keep_34 : decode cX6_keep 34 = .ok (.getfield 92, 3) := by decide +kernel
theorem dX6_keep_37 : decode cX6_keep 37 = .ok (.ireturn, 1) := by decide +kernel
theorem dX6_back_0 : decode cX6_back 0 = .ok (.iload_n 1, 1) := by decide +kernel
theorem dX6_back_1 : decode cX6_back 1 = .ok (.ifCond .lt 8, 3) := by decide +kernel
theorem dX6_back_4 : decode cX6_back 4 = .ok (.iload_n 1, 1) := by decide +kernel
theorem dX6_back_5 : decode cX6_back 5 = .ok (.iconst 2, 1) := by decide +kernel
theorem dX6_back_6 : decode cX6_back 6 = .ok (.if_icmp .lt 5, 3) := by decide +kernel
theorem dX6_back_9 : decode cX6_back 9 = .ok (.iconst (-1), 1) := by decide +kernel
theorem dX6_back_10 : decode cX6_back 10 = .ok (.ireturn, 1) := by decide +kernel
theorem dX6_back_11 : decode cX6_back 11 = .ok (.aload_n 0, 1) := by decide +kernel
theorem dX6_back_12 : decode cX6_back 12 = .ok (.getfield 59, 3) := by decide +kernel
theorem dX6_back_15 : decode cX6_back 15 = .ok (.iload_n 1, 1) := by decide +kernel
theorem dX6_back_16 : decode cX6_back 16 = .ok (.baload, 1) := by decide +kernel
theorem dX6_back_17 : decode cX6_back 17 = .ok (.ifCond .ne 6, 3) := by decide +kernel
theorem dX6_back_20 : decode cX6_back 20 = .ok (.bipush (-2), 2) := by decide +kernel
theorem dX6_back_22 : decode cX6_back 22 = .ok (.ireturn, 1) := by decide +kernel
theorem dX6_back_23 : decode cX6_back 23 = .ok (.aload_n 0, 1) := by decide +kernel
theorem dX6_back_24 : decode cX6_back 24 = .ok (.getfield 42, 3) := by decide +kernel
theorem dX6_back_27 : decode cX6_back 27 = .ok (.aload_n 0, 1) := by decide +kernel
theorem dX6_back_28 : decode cX6_back 28 = .ok (.iload_n 1, 1) := by decide +kernel
theorem dX6_back_29 : decode cX6_back 29 = .ok (.invokevirtual 301, 3) := by decide +kernel
theorem dX6_back_32 : decode cX6_back 32 = .ok (.invokevirtual 305, 3) := by decide +kernel
theorem dX6_back_35 : decode cX6_back 35 = .ok (.aload_n 0, 1) := by decide +kernel
theorem dX6_back_36 : decode cX6_back 36 = .ok (.getfield 42, 3) := by decide +kernel
theorem dX6_back_39 : decode cX6_back 39 = .ok (.getfield 92, 3) := by decide +kernel
theorem dX6_back_42 : decode cX6_back 42 = .ok (.ireturn, 1) := by decide +kernel
theorem dX6_count_0 : decode cX6_count 0 = .ok (.iload_n 1, 1) := by decide +kernel
theorem dX6_count_1 : decode cX6_count 1 = .ok (.tableswitch 84 0 5 #[39, 47, 55, 63, 71, 76], 39) := by decide +kernel
theorem dX6_count_40 : decode cX6_count 40 = .ok (.aload_n 0, 1) := by decide +kernel
theorem dX6_count_41 : decode cX6_count 41 = .ok (.getfield 23, 3) := by decide +kernel
theorem dX6_count_44 : decode cX6_count 44 = .ok (.getfield 198, 3) := by decide +kernel
theorem dX6_count_47 : decode cX6_count 47 = .ok (.ireturn, 1) := by decide +kernel
theorem dX6_count_48 : decode cX6_count 48 = .ok (.aload_n 0, 1) := by decide +kernel
theorem dX6_count_49 : decode cX6_count 49 = .ok (.getfield 23, 3) := by decide +kernel
theorem dX6_count_52 : decode cX6_count 52 = .ok (.getfield 192, 3) := by decide +kernel
theorem dX6_count_55 : decode cX6_count 55 = .ok (.ireturn, 1) := by decide +kernel
theorem dX6_count_56 : decode cX6_count 56 = .ok (.aload_n 0, 1) := by decide +kernel
theorem dX6_count_57 : decode cX6_count 57 = .ok (.getfield 23, 3) := by decide +kernel
theorem dX6_count_60 : decode cX6_count 60 = .ok (.getfield 101, 3) := by decide +kernel
theorem dX6_count_63 : decode cX6_count 63 = .ok (.ireturn, 1) := by decide +kernel
theorem dX6_count_64 : decode cX6_count 64 = .ok (.aload_n 0, 1) := by decide +kernel
theorem dX6_count_65 : decode cX6_count 65 = .ok (.getfield 42, 3) := by decide +kernel
theorem dX6_count_68 : decode cX6_count 68 = .ok (.getfield 92, 3) := by decide +kernel
theorem dX6_count_71 : decode cX6_count 71 = .ok (.ireturn, 1) := by decide +kernel
theorem dX6_count_72 : decode cX6_count 72 = .ok (.aload_n 0, 1) := by decide +kernel
theorem dX6_count_73 : decode cX6_count 73 = .ok (.getfield 77, 3) := by decide +kernel
theorem dX6_count_76 : decode cX6_count 76 = .ok (.ireturn, 1) := by decide +kernel
theorem dX6_count_77 : decode cX6_count 77 = .ok (.aload_n 0, 1) := by decide +kernel
theorem dX6_count_78 : decode cX6_count 78 = .ok (.getfield 23, 3) := by decide +kernel
theorem dX6_count_81 : decode cX6_count 81 = .ok (.invokevirtual 307, 3) := by decide +kernel
theorem dX6_count_84 : decode cX6_count 84 = .ok (.ireturn, 1) := by decide +kernel
theorem dX6_count_85 : decode cX6_count 85 = .ok (.iconst (-1), 1) := by decide +kernel
theorem dX6_count_86 : decode cX6_count 86 = .ok (.ireturn, 1) := by decide +kernel
theorem dX6_trace_0 : decode cX6_trace 0 = .ok (.aload_n 0, 1) := by decide +kernel
theorem dX6_trace_1 : decode cX6_trace 1 = .ok (.getfield 310, 3) := by decide +kernel
theorem dX6_trace_4 : decode cX6_trace 4 = .ok (.lreturn, 1) := by decide +kernel
theorem dX6_imageOf_0 : decode cX6_imageOf 0 = .ok (.iload_n 1, 1) := by decide +kernel
theorem dX6_imageOf_1 : decode cX6_imageOf 1 = .ok (.ifCond .ne 10, 3) := by decide +kernel
theorem dX6_imageOf_4 : decode cX6_imageOf 4 = .ok (.aload_n 0, 1) := by decide +kernel
theorem dX6_imageOf_5 : decode cX6_imageOf 5 = .ok (.getfield 53, 3) := by decide +kernel
theorem dX6_imageOf_8 : decode cX6_imageOf 8 = .ok (.goto 7, 3) := by decide +kernel
theorem dX6_imageOf_11 : decode cX6_imageOf 11 = .ok (.aload_n 0, 1) := by decide +kernel
theorem dX6_imageOf_12 : decode cX6_imageOf 12 = .ok (.getfield 56, 3) := by decide +kernel
theorem dX6_imageOf_15 : decode cX6_imageOf 15 = .ok (.areturn, 1) := by decide +kernel
theorem dX6_rateFlue_0 : decode cX6_rateFlue 0 = .ok (.aload_n 0, 1) := by decide +kernel
theorem dX6_rateFlue_1 : decode cX6_rateFlue 1 = .ok (.dup, 1) := by decide +kernel
theorem dX6_rateFlue_2 : decode cX6_rateFlue 2 = .ok (.getfield 310, 3) := by decide +kernel
theorem dX6_rateFlue_5 : decode cX6_rateFlue 5 = .ok (.lconst 1, 1) := by decide +kernel
theorem dX6_rateFlue_6 : decode cX6_rateFlue 6 = .ok (.ladd, 1) := by decide +kernel
theorem dX6_rateFlue_7 : decode cX6_rateFlue 7 = .ok (.putfield 310, 3) := by decide +kernel
theorem dX6_rateFlue_10 : decode cX6_rateFlue 10 = .ok (.aload_n 0, 1) := by decide +kernel
theorem dX6_rateFlue_11 : decode cX6_rateFlue 11 = .ok (.getfield 23, 3) := by decide +kernel
theorem dX6_rateFlue_14 : decode cX6_rateFlue 14 = .ok (.iload_n 1, 1) := by decide +kernel
theorem dX6_rateFlue_15 : decode cX6_rateFlue 15 = .ok (.invokevirtual 263, 3) := by decide +kernel
theorem dX6_rateFlue_18 : decode cX6_rateFlue 18 = .ok (.ireturn, 1) := by decide +kernel
theorem dX6_rateStraight_0 : decode cX6_rateStraight 0 = .ok (.aload_n 0, 1) := by decide +kernel
theorem dX6_rateStraight_1 : decode cX6_rateStraight 1 = .ok (.dup, 1) := by decide +kernel
theorem dX6_rateStraight_2 : decode cX6_rateStraight 2 = .ok (.getfield 310, 3) := by decide +kernel
theorem dX6_rateStraight_5 : decode cX6_rateStraight 5 = .ok (.ldc2_w 314, 3) := by decide +kernel
theorem dX6_rateStraight_8 : decode cX6_rateStraight 8 = .ok (.ladd, 1) := by decide +kernel
theorem dX6_rateStraight_9 : decode cX6_rateStraight 9 = .ok (.putfield 310, 3) := by decide +kernel
theorem dX6_rateStraight_12 : decode cX6_rateStraight 12 = .ok (.aload_n 0, 1) := by decide +kernel
theorem dX6_rateStraight_13 : decode cX6_rateStraight 13 = .ok (.iload_n 1, 1) := by decide +kernel
theorem dX6_rateStraight_14 : decode cX6_rateStraight 14 = .ok (.invokevirtual 283, 3) := by decide +kernel
theorem dX6_rateStraight_17 : decode cX6_rateStraight 17 = .ok (.aload_n 0, 1) := by decide +kernel
theorem dX6_rateStraight_18 : decode cX6_rateStraight 18 = .ok (.getfield 42, 3) := by decide +kernel
theorem dX6_rateStraight_21 : decode cX6_rateStraight 21 = .ok (.aload_n 0, 1) := by decide +kernel
theorem dX6_rateStraight_22 : decode cX6_rateStraight 22 = .ok (.getfield 23, 3) := by decide +kernel
theorem dX6_rateStraight_25 : decode cX6_rateStraight 25 = .ok (.iload_n 1, 1) := by decide +kernel
theorem dX6_rateStraight_26 : decode cX6_rateStraight 26 = .ok (.invokevirtual 239, 3) := by decide +kernel
theorem dX6_rateStraight_29 : decode cX6_rateStraight 29 = .ok (.isub, 1) := by decide +kernel
theorem dX6_rateStraight_30 : decode cX6_rateStraight 30 = .ok (.ireturn, 1) := by decide +kernel
theorem dX6_rateLean_0 : decode cX6_rateLean 0 = .ok (.aload_n 0, 1) := by decide +kernel
theorem dX6_rateLean_1 : decode cX6_rateLean 1 = .ok (.dup, 1) := by decide +kernel
theorem dX6_rateLean_2 : decode cX6_rateLean 2 = .ok (.getfield 310, 3) := by decide +kernel
theorem dX6_rateLean_5 : decode cX6_rateLean 5 = .ok (.ldc2_w 316, 3) := by decide +kernel
theorem dX6_rateLean_8 : decode cX6_rateLean 8 = .ok (.ladd, 1) := by decide +kernel
theorem dX6_rateLean_9 : decode cX6_rateLean 9 = .ok (.putfield 310, 3) := by decide +kernel
theorem dX6_rateLean_12 : decode cX6_rateLean 12 = .ok (.aload_n 0, 1) := by decide +kernel
theorem dX6_rateLean_13 : decode cX6_rateLean 13 = .ok (.iload_n 1, 1) := by decide +kernel
theorem dX6_rateLean_14 : decode cX6_rateLean 14 = .ok (.invokevirtual 283, 3) := by decide +kernel
theorem dX6_rateLean_17 : decode cX6_rateLean 17 = .ok (.aload_n 0, 1) := by decide +kernel
theorem dX6_rateLean_18 : decode cX6_rateLean 18 = .ok (.getfield 42, 3) := by decide +kernel
theorem dX6_rateLean_21 : decode cX6_rateLean 21 = .ok (.aload_n 0, 1) := by decide +kernel
theorem dX6_rateLean_22 : decode cX6_rateLean 22 = .ok (.getfield 23, 3) := by decide +kernel
theorem dX6_rateLean_25 : decode cX6_rateLean 25 = .ok (.iload_n 1, 1) := by decide +kernel
theorem dX6_rateLean_26 : decode cX6_rateLean 26 = .ok (.invokevirtual 236, 3) := by decide +kernel
theorem dX6_rateLean_29 : decode cX6_rateLean 29 = .ok (.iadd, 1) := by decide +kernel
theorem dX6_rateLean_30 : decode cX6_rateLean 30 = .ok (.ireturn, 1) := by decide +kernel
theorem dX6_rateGather_0 : decode cX6_rateGather 0 = .ok (.aload_n 0, 1) := by decide +kernel
theorem dX6_rateGather_1 : decode cX6_rateGather 1 = .ok (.dup, 1) := by decide +kernel
theorem dX6_rateGather_2 : decode cX6_rateGather 2 = .ok (.getfield 310, 3) := by decide +kernel
theorem dX6_rateGather_5 : decode cX6_rateGather 5 = .ok (.ldc2_w 318, 3) := by decide +kernel
theorem dX6_rateGather_8 : decode cX6_rateGather 8 = .ok (.ladd, 1) := by decide +kernel
theorem dX6_rateGather_9 : decode cX6_rateGather 9 = .ok (.putfield 310, 3) := by decide +kernel
theorem dX6_rateGather_12 : decode cX6_rateGather 12 = .ok (.aload_n 0, 1) := by decide +kernel
theorem dX6_rateGather_13 : decode cX6_rateGather 13 = .ok (.iload_n 1, 1) := by decide +kernel
theorem dX6_rateGather_14 : decode cX6_rateGather 14 = .ok (.invokevirtual 289, 3) := by decide +kernel
theorem dX6_rateGather_17 : decode cX6_rateGather 17 = .ok (.iconst 2, 1) := by decide +kernel
theorem dX6_rateGather_18 : decode cX6_rateGather 18 = .ok (.imul, 1) := by decide +kernel
theorem dX6_rateGather_19 : decode cX6_rateGather 19 = .ok (.ireturn, 1) := by decide +kernel
theorem dX6_rateShared_0 : decode cX6_rateShared 0 = .ok (.aload_n 0, 1) := by decide +kernel
theorem dX6_rateShared_1 : decode cX6_rateShared 1 = .ok (.dup, 1) := by decide +kernel
theorem dX6_rateShared_2 : decode cX6_rateShared 2 = .ok (.getfield 310, 3) := by decide +kernel
theorem dX6_rateShared_5 : decode cX6_rateShared 5 = .ok (.ldc2_w 320, 3) := by decide +kernel
theorem dX6_rateShared_8 : decode cX6_rateShared 8 = .ok (.ladd, 1) := by decide +kernel
theorem dX6_rateShared_9 : decode cX6_rateShared 9 = .ok (.putfield 310, 3) := by decide +kernel
theorem dX6_rateShared_12 : decode cX6_rateShared 12 = .ok (.aload_n 0, 1) := by decide +kernel
theorem dX6_rateShared_13 : decode cX6_rateShared 13 = .ok (.iload_n 1, 1) := by decide +kernel
theorem dX6_rateShared_14 : decode cX6_rateShared 14 = .ok (.invokevirtual 286, 3) := by decide +kernel
theorem dX6_rateShared_17 : decode cX6_rateShared 17 = .ok (.aload_n 0, 1) := by decide +kernel
theorem dX6_rateShared_18 : decode cX6_rateShared 18 = .ok (.getfield 23, 3) := by decide +kernel
theorem dX6_rateShared_21 : decode cX6_rateShared 21 = .ok (.getfield 101, 3) := by decide +kernel
theorem dX6_rateShared_24 : decode cX6_rateShared 24 = .ok (.iadd, 1) := by decide +kernel
theorem dX6_rateShared_25 : decode cX6_rateShared 25 = .ok (.ireturn, 1) := by decide +kernel
theorem dX6_rateOld_0 : decode cX6_rateOld 0 = .ok (.aload_n 0, 1) := by decide +kernel
theorem dX6_rateOld_1 : decode cX6_rateOld 1 = .ok (.dup, 1) := by decide +kernel
theorem dX6_rateOld_2 : decode cX6_rateOld 2 = .ok (.getfield 310, 3) := by decide +kernel
theorem dX6_rateOld_5 : decode cX6_rateOld 5 = .ok (.ldc2_w 322, 3) := by decide +kernel
theorem dX6_rateOld_8 : decode cX6_rateOld 8 = .ok (.ladd, 1) := by decide +kernel
theorem dX6_rateOld_9 : decode cX6_rateOld 9 = .ok (.putfield 310, 3) := by decide +kernel
theorem dX6_rateOld_12 : decode cX6_rateOld 12 = .ok (.aload_n 0, 1) := by decide +kernel
theorem dX6_rateOld_13 : decode cX6_rateOld 13 = .ok (.iload_n 1, 1) := by decide +kernel
theorem dX6_rateOld_14 : decode cX6_rateOld 14 = .ok (.invokevirtual 283, 3) := by decide +kernel
theorem dX6_rateOld_17 : decode cX6_rateOld 17 = .ok (.aload_n 0, 1) := by decide +kernel
theorem dX6_rateOld_18 : decode cX6_rateOld 18 = .ok (.getfield 23, 3) := by decide +kernel
theorem dX6_rateOld_21 : decode cX6_rateOld 21 = .ok (.getfield 124, 3) := by decide +kernel
theorem dX6_rateOld_24 : decode cX6_rateOld 24 = .ok (.iload_n 1, 1) := by decide +kernel
theorem dX6_rateOld_25 : decode cX6_rateOld 25 = .ok (.iaload, 1) := by decide +kernel
theorem dX6_rateOld_26 : decode cX6_rateOld 26 = .ok (.isub, 1) := by decide +kernel
theorem dX6_rateOld_27 : decode cX6_rateOld 27 = .ok (.ireturn, 1) := by decide +kernel
theorem dJ6_bitCount_0f7a4_0 : decode cJ6_bitCount_0f7a4 0 = .ok (.iload_n 0, 1) := by decide +kernel
theorem dJ6_bitCount_0f7a4_1 : decode cJ6_bitCount_0f7a4 1 = .ok (.iload_n 0, 1) := by decide +kernel
theorem dJ6_bitCount_0f7a4_2 : decode cJ6_bitCount_0f7a4 2 = .ok (.iconst 1, 1) := by decide +kernel
theorem dJ6_bitCount_0f7a4_3 : decode cJ6_bitCount_0f7a4 3 = .ok (.iushr, 1) := by decide +kernel
theorem dJ6_bitCount_0f7a4_4 : decode cJ6_bitCount_0f7a4 4 = .ok (.ldc_w 265, 3) := by decide +kernel
theorem dJ6_bitCount_0f7a4_7 : decode cJ6_bitCount_0f7a4 7 = .ok (.iand, 1) := by decide +kernel
theorem dJ6_bitCount_0f7a4_8 : decode cJ6_bitCount_0f7a4 8 = .ok (.isub, 1) := by decide +kernel
theorem dJ6_bitCount_0f7a4_9 : decode cJ6_bitCount_0f7a4 9 = .ok (.istore_n 0, 1) := by decide +kernel
theorem dJ6_bitCount_0f7a4_10 : decode cJ6_bitCount_0f7a4 10 = .ok (.iload_n 0, 1) := by decide +kernel
theorem dJ6_bitCount_0f7a4_11 : decode cJ6_bitCount_0f7a4 11 = .ok (.ldc_w 266, 3) := by decide +kernel
theorem dJ6_bitCount_0f7a4_14 : decode cJ6_bitCount_0f7a4 14 = .ok (.iand, 1) := by decide +kernel
theorem dJ6_bitCount_0f7a4_15 : decode cJ6_bitCount_0f7a4 15 = .ok (.iload_n 0, 1) := by decide +kernel
theorem dJ6_bitCount_0f7a4_16 : decode cJ6_bitCount_0f7a4 16 = .ok (.iconst 2, 1) := by decide +kernel
theorem dJ6_bitCount_0f7a4_17 : decode cJ6_bitCount_0f7a4 17 = .ok (.iushr, 1) := by decide +kernel
theorem dJ6_bitCount_0f7a4_18 : decode cJ6_bitCount_0f7a4 18 = .ok (.ldc_w 266, 3) := by decide +kernel
theorem dJ6_bitCount_0f7a4_21 : decode cJ6_bitCount_0f7a4 21 = .ok (.iand, 1) := by decide +kernel
theorem dJ6_bitCount_0f7a4_22 : decode cJ6_bitCount_0f7a4 22 = .ok (.iadd, 1) := by decide +kernel
theorem dJ6_bitCount_0f7a4_23 : decode cJ6_bitCount_0f7a4 23 = .ok (.istore_n 0, 1) := by decide +kernel
theorem dJ6_bitCount_0f7a4_24 : decode cJ6_bitCount_0f7a4 24 = .ok (.iload_n 0, 1) := by decide +kernel
theorem dJ6_bitCount_0f7a4_25 : decode cJ6_bitCount_0f7a4 25 = .ok (.iload_n 0, 1) := by decide +kernel
theorem dJ6_bitCount_0f7a4_26 : decode cJ6_bitCount_0f7a4 26 = .ok (.iconst 4, 1) := by decide +kernel
theorem dJ6_bitCount_0f7a4_27 : decode cJ6_bitCount_0f7a4 27 = .ok (.iushr, 1) := by decide +kernel
theorem dJ6_bitCount_0f7a4_28 : decode cJ6_bitCount_0f7a4 28 = .ok (.iadd, 1) := by decide +kernel
theorem dJ6_bitCount_0f7a4_29 : decode cJ6_bitCount_0f7a4 29 = .ok (.ldc_w 267, 3) := by decide +kernel
theorem dJ6_bitCount_0f7a4_32 : decode cJ6_bitCount_0f7a4 32 = .ok (.iand, 1) := by decide +kernel
theorem dJ6_bitCount_0f7a4_33 : decode cJ6_bitCount_0f7a4 33 = .ok (.istore_n 0, 1) := by decide +kernel
theorem dJ6_bitCount_0f7a4_34 : decode cJ6_bitCount_0f7a4 34 = .ok (.iload_n 0, 1) := by decide +kernel
theorem dJ6_bitCount_0f7a4_35 : decode cJ6_bitCount_0f7a4 35 = .ok (.iload_n 0, 1) := by decide +kernel
theorem dJ6_bitCount_0f7a4_36 : decode cJ6_bitCount_0f7a4 36 = .ok (.bipush 8, 2) := by decide +kernel
theorem dJ6_bitCount_0f7a4_38 : decode cJ6_bitCount_0f7a4 38 = .ok (.iushr, 1) := by decide +kernel
theorem dJ6_bitCount_0f7a4_39 : decode cJ6_bitCount_0f7a4 39 = .ok (.iadd, 1) := by decide +kernel
theorem dJ6_bitCount_0f7a4_40 : decode cJ6_bitCount_0f7a4 40 = .ok (.istore_n 0, 1) := by decide +kernel
theorem dJ6_bitCount_0f7a4_41 : decode cJ6_bitCount_0f7a4 41 = .ok (.iload_n 0, 1) := by decide +kernel
theorem dJ6_bitCount_0f7a4_42 : decode cJ6_bitCount_0f7a4 42 = .ok (.iload_n 0, 1) := by decide +kernel
theorem dJ6_bitCount_0f7a4_43 : decode cJ6_bitCount_0f7a4 43 = .ok (.bipush 16, 2) := by decide +kernel
theorem dJ6_bitCount_0f7a4_45 : decode cJ6_bitCount_0f7a4 45 = .ok (.iushr, 1) := by decide +kernel
theorem dJ6_bitCount_0f7a4_46 : decode cJ6_bitCount_0f7a4 46 = .ok (.iadd, 1) := by decide +kernel
theorem dJ6_bitCount_0f7a4_47 : decode cJ6_bitCount_0f7a4 47 = .ok (.istore_n 0, 1) := by decide +kernel
theorem dJ6_bitCount_0f7a4_48 : decode cJ6_bitCount_0f7a4 48 = .ok (.iload_n 0, 1) := by decide +kernel
theorem dJ6_bitCount_0f7a4_49 : decode cJ6_bitCount_0f7a4 49 = .ok (.bipush 63, 2) := by decide +kernel
theorem dJ6_bitCount_0f7a4_51 : decode cJ6_bitCount_0f7a4 51 = .ok (.iand, 1) := by decide +kernel
theorem dJ6_bitCount_0f7a4_52 : decode cJ6_bitCount_0f7a4 52 = .ok (.ireturn, 1) := by decide +kernel
theorem dJ9_abs_0f7a4_0 : decode cJ9_abs_0f7a4 0 = .ok (.iload_n 0, 1) := by decide +kernel
theorem dJ9_abs_0f7a4_1 : decode cJ9_abs_0f7a4 1 = .ok (.ifCond .ge 8, 3) := by decide +kernel
theorem dJ9_abs_0f7a4_4 : decode cJ9_abs_0f7a4 4 = .ok (.iload_n 0, 1) := by decide +kernel
theorem dJ9_abs_0f7a4_5 : decode cJ9_abs_0f7a4 5 = .ok (.ineg, 1) := by decide +kernel
theorem dJ9_abs_0f7a4_6 : decode cJ9_abs_0f7a4 6 = .ok (.goto 4, 3) := by decide +kernel
theorem dJ9_abs_0f7a4_9 : decode cJ9_abs_0f7a4 9 = .ok (.iload_n 0, 1) := by decide +kernel
theorem dJ9_abs_0f7a4_10 : decode cJ9_abs_0f7a4 10 = .ok (.ireturn, 1) := by decide +kernel
theorem dJ9_max_7cf53_0 : decode cJ9_max_7cf53 0 = .ok (.iload_n 0, 1) := by decide +kernel
theorem dJ9_max_7cf53_1 : decode cJ9_max_7cf53 1 = .ok (.iload_n 1, 1) := by decide +kernel
theorem dJ9_max_7cf53_2 : decode cJ9_max_7cf53 2 = .ok (.if_icmp .lt 7, 3) := by decide +kernel
theorem dJ9_max_7cf53_5 : decode cJ9_max_7cf53 5 = .ok (.iload_n 0, 1) := by decide +kernel
theorem dJ9_max_7cf53_6 : decode cJ9_max_7cf53 6 = .ok (.goto 4, 3) := by decide +kernel
theorem dJ9_max_7cf53_9 : decode cJ9_max_7cf53 9 = .ok (.iload_n 1, 1) := by decide +kernel
theorem dJ9_max_7cf53_10 : decode cJ9_max_7cf53 10 = .ok (.ireturn, 1) := by decide +kernel
theorem dJ9_min_7cf53_0 : decode cJ9_min_7cf53 0 = .ok (.iload_n 0, 1) := by decide +kernel
theorem dJ9_min_7cf53_1 : decode cJ9_min_7cf53 1 = .ok (.iload_n 1, 1) := by decide +kernel
theorem dJ9_min_7cf53_2 : decode cJ9_min_7cf53 2 = .ok (.if_icmp .gt 7, 3) := by decide +kernel
theorem dJ9_min_7cf53_5 : decode cJ9_min_7cf53 5 = .ok (.iload_n 0, 1) := by decide +kernel
theorem dJ9_min_7cf53_6 : decode cJ9_min_7cf53 6 = .ok (.goto 4, 3) := by decide +kernel
theorem dJ9_min_7cf53_9 : decode cJ9_min_7cf53 9 = .ok (.iload_n 1, 1) := by decide +kernel
theorem dJ9_min_7cf53_10 : decode cJ9_min_7cf53 10 = .ok (.ireturn, 1) := by decide +kernel
theorem dJ0_length_8abf5_0 : decode cJ0_length_8abf5 0 = .ok (.aload_n 0, 1) := by decide +kernel
theorem dJ0_length_8abf5_1 : decode cJ0_length_8abf5 1 = .ok (.getfield 9, 3) := by decide +kernel
theorem dJ0_length_8abf5_4 : decode cJ0_length_8abf5 4 = .ok (.arraylength, 1) := by decide +kernel
theorem dJ0_length_8abf5_5 : decode cJ0_length_8abf5 5 = .ok (.aload_n 0, 1) := by decide +kernel
theorem dJ0_length_8abf5_6 : decode cJ0_length_8abf5 6 = .ok (.invokevirtual 335, 3) := by decide +kernel
theorem dJ0_length_8abf5_9 : decode cJ0_length_8abf5 9 = .ok (.ishr, 1) := by decide +kernel
theorem dJ0_length_8abf5_10 : decode cJ0_length_8abf5 10 = .ok (.ireturn, 1) := by decide +kernel
theorem dJ0_charAt_5068e_0 : decode cJ0_charAt_5068e 0 = .ok (.aload_n 0, 1) := by decide +kernel
theorem dJ0_charAt_5068e_1 : decode cJ0_charAt_5068e 1 = .ok (.invokevirtual 492, 3) := by decide +kernel
theorem dJ0_charAt_5068e_4 : decode cJ0_charAt_5068e 4 = .ok (.ifCond .eq 12, 3) := by decide +kernel
theorem dJ0_charAt_5068e_7 : decode cJ0_charAt_5068e 7 = .ok (.aload_n 0, 1) := by decide +kernel
theorem dJ0_charAt_5068e_8 : decode cJ0_charAt_5068e 8 = .ok (.getfield 9, 3) := by decide +kernel
theorem dJ0_charAt_5068e_11 : decode cJ0_charAt_5068e 11 = .ok (.iload_n 1, 1) := by decide +kernel
theorem dJ0_charAt_5068e_12 : decode cJ0_charAt_5068e 12 = .ok (.invokestatic 495, 3) := by decide +kernel
theorem dJ0_charAt_5068e_15 : decode cJ0_charAt_5068e 15 = .ok (.ireturn, 1) := by decide +kernel
theorem dJ0_charAt_5068e_16 : decode cJ0_charAt_5068e 16 = .ok (.aload_n 0, 1) := by decide +kernel
theorem dJ0_charAt_5068e_17 : decode cJ0_charAt_5068e 17 = .ok (.getfield 9, 3) := by decide +kernel
theorem dJ0_charAt_5068e_20 : decode cJ0_charAt_5068e 20 = .ok (.iload_n 1, 1) := by decide +kernel
theorem dJ0_charAt_5068e_21 : decode cJ0_charAt_5068e 21 = .ok (.invokestatic 498, 3) := by decide +kernel
theorem dJ0_charAt_5068e_24 : decode cJ0_charAt_5068e 24 = .ok (.ireturn, 1) := by decide +kernel
theorem dJ0_coder_7d493_0 : decode cJ0_coder_7d493 0 = .ok (.getstatic 38, 3) := by decide +kernel
theorem dJ0_coder_7d493_3 : decode cJ0_coder_7d493 3 = .ok (.ifCond .eq 10, 3) := by decide +kernel
theorem dJ0_coder_7d493_6 : decode cJ0_coder_7d493 6 = .ok (.aload_n 0, 1) := by decide +kernel
theorem dJ0_coder_7d493_7 : decode cJ0_coder_7d493 7 = .ok (.getfield 15, 3) := by decide +kernel
theorem dJ0_coder_7d493_10 : decode cJ0_coder_7d493 10 = .ok (.goto 4, 3) := by decide +kernel
theorem dJ0_coder_7d493_13 : decode cJ0_coder_7d493 13 = .ok (.iconst 1, 1) := by decide +kernel
theorem dJ0_coder_7d493_14 : decode cJ0_coder_7d493 14 = .ok (.ireturn, 1) := by decide +kernel
theorem dJ0_isLatin1_aae02_0 : decode cJ0_isLatin1_aae02 0 = .ok (.getstatic 38, 3) := by decide +kernel
theorem dJ0_isLatin1_aae02_3 : decode cJ0_isLatin1_aae02 3 = .ok (.ifCond .eq 14, 3) := by decide +kernel
theorem dJ0_isLatin1_aae02_6 : decode cJ0_isLatin1_aae02 6 = .ok (.aload_n 0, 1) := by decide +kernel
theorem dJ0_isLatin1_aae02_7 : decode cJ0_isLatin1_aae02 7 = .ok (.getfield 15, 3) := by decide +kernel
theorem dJ0_isLatin1_aae02_10 : decode cJ0_isLatin1_aae02 10 = .ok (.ifCond .ne 7, 3) := by decide +kernel
theorem dJ0_isLatin1_aae02_13 : decode cJ0_isLatin1_aae02 13 = .ok (.iconst 1, 1) := by decide +kernel
theorem dJ0_isLatin1_aae02_14 : decode cJ0_isLatin1_aae02 14 = .ok (.goto 4, 3) := by decide +kernel
theorem dJ0_isLatin1_aae02_17 : decode cJ0_isLatin1_aae02 17 = .ok (.iconst 0, 1) := by decide +kernel
theorem dJ0_isLatin1_aae02_18 : decode cJ0_isLatin1_aae02 18 = .ok (.ireturn, 1) := by decide +kernel
theorem dJ0_checkIndex_df160_0 : decode cJ0_checkIndex_df160 0 = .ok (.iload_n 0, 1) := by decide +kernel
theorem dJ0_checkIndex_df160_1 : decode cJ0_checkIndex_df160 1 = .ok (.iload_n 1, 1) := by decide +kernel
theorem dJ0_checkIndex_df160_2 : decode cJ0_checkIndex_df160 2 = .ok (.getstatic 1053, 3) := by decide +kernel
theorem dJ0_checkIndex_df160_5 : decode cJ0_checkIndex_df160 5 = .ok (.invokestatic 1059, 3) := by decide +kernel
theorem dJ0_checkIndex_df160_8 : decode cJ0_checkIndex_df160 8 = .ok (.pop, 1) := by decide +kernel
theorem dJ0_checkIndex_df160_9 : decode cJ0_checkIndex_df160 9 = .ok (.return_, 1) := by decide +kernel
theorem dJ1_charAt_3b067_0 : decode cJ1_charAt_3b067 0 = .ok (.iload_n 1, 1) := by decide +kernel
theorem dJ1_charAt_3b067_1 : decode cJ1_charAt_3b067 1 = .ok (.aload_n 0, 1) := by decide +kernel
theorem dJ1_charAt_3b067_2 : decode cJ1_charAt_3b067 2 = .ok (.arraylength, 1) := by decide +kernel
theorem dJ1_charAt_3b067_3 : decode cJ1_charAt_3b067 3 = .ok (.invokestatic 9, 3) := by decide +kernel
theorem dJ1_charAt_3b067_6 : decode cJ1_charAt_3b067 6 = .ok (.aload_n 0, 1) := by decide +kernel
theorem dJ1_charAt_3b067_7 : decode cJ1_charAt_3b067 7 = .ok (.iload_n 1, 1) := by decide +kernel
theorem dJ1_charAt_3b067_8 : decode cJ1_charAt_3b067 8 = .ok (.baload, 1) := by decide +kernel
theorem dJ1_charAt_3b067_9 : decode cJ1_charAt_3b067 9 = .ok (.sipush 255, 3) := by decide +kernel
theorem dJ1_charAt_3b067_12 : decode cJ1_charAt_3b067 12 = .ok (.iand, 1) := by decide +kernel
theorem dJ1_charAt_3b067_13 : decode cJ1_charAt_3b067 13 = .ok (.i2c, 1) := by decide +kernel
theorem dJ1_charAt_3b067_14 : decode cJ1_charAt_3b067 14 = .ok (.ireturn, 1) := by decide +kernel
theorem dJ2_getChar_3b067_0 : decode cJ2_getChar_3b067 0 = .ok (.getstatic 44, 3) := by decide +kernel
theorem dJ2_getChar_3b067_3 : decode cJ2_getChar_3b067 3 = .ok (.ifCond .ne 25, 3) := by decide +kernel
theorem dJ2_getChar_3b067_6 : decode cJ2_getChar_3b067 6 = .ok (.iload_n 1, 1) := by decide +kernel
theorem dJ2_getChar_3b067_7 : decode cJ2_getChar_3b067 7 = .ok (.ifCond .lt 11, 3) := by decide +kernel
theorem dJ2_getChar_3b067_10 : decode cJ2_getChar_3b067 10 = .ok (.iload_n 1, 1) := by decide +kernel
theorem dJ2_getChar_3b067_11 : decode cJ2_getChar_3b067 11 = .ok (.aload_n 0, 1) := by decide +kernel
theorem dJ2_getChar_3b067_12 : decode cJ2_getChar_3b067 12 = .ok (.invokestatic 48, 3) := by decide +kernel
theorem dJ2_getChar_3b067_15 : decode cJ2_getChar_3b067 15 = .ok (.if_icmp .lt 13, 3) := by decide +kernel
theorem dJ2_getChar_3b067_18 : decode cJ2_getChar_3b067 18 = .ok (.new 52, 3) := by decide +kernel
theorem dJ2_getChar_3b067_21 : decode cJ2_getChar_3b067 21 = .ok (.dup, 1) := by decide +kernel
theorem dJ2_getChar_3b067_22 : decode cJ2_getChar_3b067 22 = .ok (.ldc 54, 2) := by decide +kernel
theorem dJ2_getChar_3b067_24 : decode cJ2_getChar_3b067 24 = .ok (.invokespecial 56, 3) := by decide +kernel
theorem dJ2_getChar_3b067_27 : decode cJ2_getChar_3b067 27 = .ok (.athrow, 1) := by decide +kernel
theorem dJ2_getChar_3b067_28 : decode cJ2_getChar_3b067 28 = .ok (.iload_n 1, 1) := by decide +kernel
theorem dJ2_getChar_3b067_29 : decode cJ2_getChar_3b067 29 = .ok (.iconst 1, 1) := by decide +kernel
theorem dJ2_getChar_3b067_30 : decode cJ2_getChar_3b067 30 = .ok (.ishl, 1) := by decide +kernel
theorem dJ2_getChar_3b067_31 : decode cJ2_getChar_3b067 31 = .ok (.istore_n 1, 1) := by decide +kernel
theorem dJ2_getChar_3b067_32 : decode cJ2_getChar_3b067 32 = .ok (.aload_n 0, 1) := by decide +kernel
theorem dJ2_getChar_3b067_33 : decode cJ2_getChar_3b067 33 = .ok (.iload_n 1, 1) := by decide +kernel
theorem dJ2_getChar_3b067_34 : decode cJ2_getChar_3b067 34 = .ok (.iinc 1 1, 3) := by decide +kernel
theorem dJ2_getChar_3b067_37 : decode cJ2_getChar_3b067 37 = .ok (.baload, 1) := by decide +kernel
theorem dJ2_getChar_3b067_38 : decode cJ2_getChar_3b067 38 = .ok (.sipush 255, 3) := by decide +kernel
theorem dJ2_getChar_3b067_41 : decode cJ2_getChar_3b067 41 = .ok (.iand, 1) := by decide +kernel
theorem dJ2_getChar_3b067_42 : decode cJ2_getChar_3b067 42 = .ok (.getstatic 59, 3) := by decide +kernel
theorem dJ2_getChar_3b067_45 : decode cJ2_getChar_3b067 45 = .ok (.ishl, 1) := by decide +kernel
theorem dJ2_getChar_3b067_46 : decode cJ2_getChar_3b067 46 = .ok (.aload_n 0, 1) := by decide +kernel
theorem dJ2_getChar_3b067_47 : decode cJ2_getChar_3b067 47 = .ok (.iload_n 1, 1) := by decide +kernel
theorem dJ2_getChar_3b067_48 : decode cJ2_getChar_3b067 48 = .ok (.baload, 1) := by decide +kernel
theorem dJ2_getChar_3b067_49 : decode cJ2_getChar_3b067 49 = .ok (.sipush 255, 3) := by decide +kernel
theorem dJ2_getChar_3b067_52 : decode cJ2_getChar_3b067 52 = .ok (.iand, 1) := by decide +kernel
theorem dJ2_getChar_3b067_53 : decode cJ2_getChar_3b067 53 = .ok (.getstatic 63, 3) := by decide +kernel
theorem dJ2_getChar_3b067_56 : decode cJ2_getChar_3b067 56 = .ok (.ishl, 1) := by decide +kernel
theorem dJ2_getChar_3b067_57 : decode cJ2_getChar_3b067 57 = .ok (.ior, 1) := by decide +kernel
theorem dJ2_getChar_3b067_58 : decode cJ2_getChar_3b067 58 = .ok (.i2c, 1) := by decide +kernel
theorem dJ2_getChar_3b067_59 : decode cJ2_getChar_3b067 59 = .ok (.ireturn, 1) := by decide +kernel
theorem dJ2_length_9d52b_0 : decode cJ2_length_9d52b 0 = .ok (.aload_n 0, 1) := by decide +kernel
theorem dJ2_length_9d52b_1 : decode cJ2_length_9d52b 1 = .ok (.arraylength, 1) := by decide +kernel
theorem dJ2_length_9d52b_2 : decode cJ2_length_9d52b 2 = .ok (.iconst 1, 1) := by decide +kernel
theorem dJ2_length_9d52b_3 : decode cJ2_length_9d52b 3 = .ok (.ishr, 1) := by decide +kernel
theorem dJ2_length_9d52b_4 : decode cJ2_length_9d52b 4 = .ok (.ireturn, 1) := by decide +kernel
theorem dJ2_charAt_3b067_0 : decode cJ2_charAt_3b067 0 = .ok (.iload_n 1, 1) := by decide +kernel
theorem dJ2_charAt_3b067_1 : decode cJ2_charAt_3b067 1 = .ok (.aload_n 0, 1) := by decide +kernel
theorem dJ2_charAt_3b067_2 : decode cJ2_charAt_3b067 2 = .ok (.invokestatic 67, 3) := by decide +kernel
theorem dJ2_charAt_3b067_5 : decode cJ2_charAt_3b067 5 = .ok (.aload_n 0, 1) := by decide +kernel
theorem dJ2_charAt_3b067_6 : decode cJ2_charAt_3b067 6 = .ok (.iload_n 1, 1) := by decide +kernel
theorem dJ2_charAt_3b067_7 : decode cJ2_charAt_3b067 7 = .ok (.invokestatic 71, 3) := by decide +kernel
theorem dJ2_charAt_3b067_10 : decode cJ2_charAt_3b067 10 = .ok (.ireturn, 1) := by decide +kernel
theorem dJ2_checkIndex_2214a_0 : decode cJ2_checkIndex_2214a 0 = .ok (.iload_n 0, 1) := by decide +kernel
theorem dJ2_checkIndex_2214a_1 : decode cJ2_checkIndex_2214a 1 = .ok (.aload_n 1, 1) := by decide +kernel
theorem dJ2_checkIndex_2214a_2 : decode cJ2_checkIndex_2214a 2 = .ok (.invokestatic 48, 3) := by decide +kernel
theorem dJ2_checkIndex_2214a_5 : decode cJ2_checkIndex_2214a 5 = .ok (.invokestatic 414, 3) := by decide +kernel
theorem dJ2_checkIndex_2214a_8 : decode cJ2_checkIndex_2214a 8 = .ok (.return_, 1) := by decide +kernel
theorem dJ7_fill_d0a16_0 : decode cJ7_fill_d0a16 0 = .ok (.iconst 0, 1) := by decide +kernel
theorem dJ7_fill_d0a16_1 : decode cJ7_fill_d0a16 1 = .ok (.istore_n 3, 1) := by decide +kernel
theorem dJ7_fill_d0a16_2 : decode cJ7_fill_d0a16 2 = .ok (.aload_n 0, 1) := by decide +kernel
theorem dJ7_fill_d0a16_3 : decode cJ7_fill_d0a16 3 = .ok (.arraylength, 1) := by decide +kernel
theorem dJ7_fill_d0a16_4 : decode cJ7_fill_d0a16 4 = .ok (.istore 4, 2) := by decide +kernel
theorem dJ7_fill_d0a16_6 : decode cJ7_fill_d0a16 6 = .ok (.iload_n 3, 1) := by decide +kernel
theorem dJ7_fill_d0a16_7 : decode cJ7_fill_d0a16 7 = .ok (.iload 4, 2) := by decide +kernel
theorem dJ7_fill_d0a16_9 : decode cJ7_fill_d0a16 9 = .ok (.if_icmp .ge 13, 3) := by decide +kernel
theorem dJ7_fill_d0a16_12 : decode cJ7_fill_d0a16 12 = .ok (.aload_n 0, 1) := by decide +kernel
theorem dJ7_fill_d0a16_13 : decode cJ7_fill_d0a16 13 = .ok (.iload_n 3, 1) := by decide +kernel
theorem dJ7_fill_d0a16_14 : decode cJ7_fill_d0a16 14 = .ok (.lload_n 1, 1) := by decide +kernel
theorem dJ7_fill_d0a16_15 : decode cJ7_fill_d0a16 15 = .ok (.lastore, 1) := by decide +kernel
theorem dJ7_fill_d0a16_16 : decode cJ7_fill_d0a16 16 = .ok (.iinc 3 1, 3) := by decide +kernel
theorem dJ7_fill_d0a16_19 : decode cJ7_fill_d0a16 19 = .ok (.goto (-13), 3) := by decide +kernel
theorem dJ7_fill_d0a16_22 : decode cJ7_fill_d0a16 22 = .ok (.return_, 1) := by decide +kernel
theorem dJ7_fill_53178_0 : decode cJ7_fill_53178 0 = .ok (.iconst 0, 1) := by decide +kernel
theorem dJ7_fill_53178_1 : decode cJ7_fill_53178 1 = .ok (.istore_n 2, 1) := by decide +kernel
theorem dJ7_fill_53178_2 : decode cJ7_fill_53178 2 = .ok (.aload_n 0, 1) := by decide +kernel
theorem dJ7_fill_53178_3 : decode cJ7_fill_53178 3 = .ok (.arraylength, 1) := by decide +kernel
theorem dJ7_fill_53178_4 : decode cJ7_fill_53178 4 = .ok (.istore_n 3, 1) := by decide +kernel
theorem dJ7_fill_53178_5 : decode cJ7_fill_53178 5 = .ok (.iload_n 2, 1) := by decide +kernel
theorem dJ7_fill_53178_6 : decode cJ7_fill_53178 6 = .ok (.iload_n 3, 1) := by decide +kernel
theorem dJ7_fill_53178_7 : decode cJ7_fill_53178 7 = .ok (.if_icmp .ge 13, 3) := by decide +kernel
theorem dJ7_fill_53178_10 : decode cJ7_fill_53178 10 = .ok (.aload_n 0, 1) := by decide +kernel
theorem dJ7_fill_53178_11 : decode cJ7_fill_53178 11 = .ok (.iload_n 2, 1) := by decide +kernel
theorem dJ7_fill_53178_12 : decode cJ7_fill_53178 12 = .ok (.iload_n 1, 1) := by decide +kernel
theorem dJ7_fill_53178_13 : decode cJ7_fill_53178 13 = .ok (.iastore, 1) := by decide +kernel
theorem dJ7_fill_53178_14 : decode cJ7_fill_53178 14 = .ok (.iinc 2 1, 3) := by decide +kernel
theorem dJ7_fill_53178_17 : decode cJ7_fill_53178 17 = .ok (.goto (-12), 3) := by decide +kernel
theorem dJ7_fill_53178_20 : decode cJ7_fill_53178 20 = .ok (.return_, 1) := by decide +kernel
theorem dJ3_checkIndex_8e157_0 : decode cJ3_checkIndex_8e157 0 = .ok (.iload_n 0, 1) := by decide +kernel
theorem dJ3_checkIndex_8e157_1 : decode cJ3_checkIndex_8e157 1 = .ok (.ifCond .lt 8, 3) := by decide +kernel
theorem dJ3_checkIndex_8e157_4 : decode cJ3_checkIndex_8e157 4 = .ok (.iload_n 0, 1) := by decide +kernel
theorem dJ3_checkIndex_8e157_5 : decode cJ3_checkIndex_8e157 5 = .ok (.iload_n 1, 1) := by decide +kernel
theorem dJ3_checkIndex_8e157_6 : decode cJ3_checkIndex_8e157 6 = .ok (.if_icmp .lt 10, 3) := by decide +kernel
theorem dJ3_checkIndex_8e157_9 : decode cJ3_checkIndex_8e157 9 = .ok (.aload_n 2, 1) := by decide +kernel
theorem dJ3_checkIndex_8e157_10 : decode cJ3_checkIndex_8e157 10 = .ok (.iload_n 0, 1) := by decide +kernel
theorem dJ3_checkIndex_8e157_11 : decode cJ3_checkIndex_8e157 11 = .ok (.iload_n 1, 1) := by decide +kernel
theorem dJ3_checkIndex_8e157_12 : decode cJ3_checkIndex_8e157 12 = .ok (.invokestatic 95, 3) := by decide +kernel
theorem dJ3_checkIndex_8e157_15 : decode cJ3_checkIndex_8e157 15 = .ok (.athrow, 1) := by decide +kernel
theorem dJ3_checkIndex_8e157_16 : decode cJ3_checkIndex_8e157 16 = .ok (.iload_n 0, 1) := by decide +kernel
theorem dJ3_checkIndex_8e157_17 : decode cJ3_checkIndex_8e157 17 = .ok (.ireturn, 1) := by decide +kernel
