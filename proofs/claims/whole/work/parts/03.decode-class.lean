theorem dX0_init_0 : decode cX0_init 0 = .ok (.aload_n 0, 1) := by decide +kernel
theorem dX0_init_1 : decode cX0_init 1 = .ok (.invokespecial 3, 3) := by decide +kernel
theorem dX0_init_4 : decode cX0_init 4 = .ok (.aload_n 0, 1) := by decide +kernel
theorem dX0_init_5 : decode cX0_init 5 = .ok (.sipush 400, 3) := by decide +kernel
theorem dX0_init_8 : decode cX0_init 8 = .ok (.newarray .int, 2) := by decide +kernel
theorem dX0_init_10 : decode cX0_init 10 = .ok (.putfield 11, 3) := by decide +kernel
theorem dX0_init_13 : decode cX0_init 13 = .ok (.aload_n 0, 1) := by decide +kernel
theorem dX0_init_14 : decode cX0_init 14 = .ok (.sipush 400, 3) := by decide +kernel
theorem dX0_init_17 : decode cX0_init 17 = .ok (.newarray .int, 2) := by decide +kernel
theorem dX0_init_19 : decode cX0_init 19 = .ok (.putfield 15, 3) := by decide +kernel
theorem dX0_init_22 : decode cX0_init 22 = .ok (.aload_n 0, 1) := by decide +kernel
theorem dX0_init_23 : decode cX0_init 23 = .ok (.sipush 400, 3) := by decide +kernel
theorem dX0_init_26 : decode cX0_init 26 = .ok (.newarray .int, 2) := by decide +kernel
theorem dX0_init_28 : decode cX0_init 28 = .ok (.putfield 18, 3) := by decide +kernel
theorem dX0_init_31 : decode cX0_init 31 = .ok (.aload_n 0, 1) := by decide +kernel
theorem dX0_init_32 : decode cX0_init 32 = .ok (.bipush 14, 2) := by decide +kernel
theorem dX0_init_34 : decode cX0_init 34 = .ok (.newarray .int, 2) := by decide +kernel
theorem dX0_init_36 : decode cX0_init 36 = .ok (.putfield 21, 3) := by decide +kernel
theorem dX0_init_39 : decode cX0_init 39 = .ok (.aload_n 0, 1) := by decide +kernel
theorem dX0_init_40 : decode cX0_init 40 = .ok (.getfield 21, 3) := by decide +kernel
theorem dX0_init_43 : decode cX0_init 43 = .ok (.iconst (-1), 1) := by decide +kernel
theorem dX0_init_44 : decode cX0_init 44 = .ok (.invokestatic 24, 3) := by decide +kernel
theorem dX0_init_47 : decode cX0_init 47 = .ok (.return_, 1) := by decide +kernel
theorem dX0_write_0 : decode cX0_write 0 = .ok (.iconst 0, 1) := by decide +kernel
theorem dX0_write_1 : decode cX0_write 1 = .ok (.istore 4, 2) := by decide +kernel
theorem dX0_write_3 : decode cX0_write 3 = .ok (.iload 4, 2) := by decide +kernel
theorem dX0_write_5 : decode cX0_write 5 = .ok (.iload_n 2, 1) := by decide +kernel
theorem dX0_write_6 : decode cX0_write 6 = .ok (.if_icmp .ge 88, 3) := by decide +kernel
theorem dX0_write_9 : decode cX0_write 9 = .ok (.aload_n 0, 1) := by decide +kernel
theorem dX0_write_10 : decode cX0_write 10 = .ok (.getfield 30, 3) := by decide +kernel
theorem dX0_write_13 : decode cX0_write 13 = .ok (.sipush 400, 3) := by decide +kernel
theorem dX0_write_16 : decode cX0_write 16 = .ok (.if_icmp .ge 78, 3) := by decide +kernel
theorem dX0_write_19 : decode cX0_write 19 = .ok (.aload_n 1, 1) := by decide +kernel
theorem dX0_write_20 : decode cX0_write 20 = .ok (.iload 4, 2) := by decide +kernel
theorem dX0_write_22 : decode cX0_write 22 = .ok (.iaload, 1) := by decide +kernel
theorem dX0_write_23 : decode cX0_write 23 = .ok (.aload_n 0, 1) := by decide +kernel
theorem dX0_write_24 : decode cX0_write 24 = .ok (.getfield 21, 3) := by decide +kernel
theorem dX0_write_27 : decode cX0_write 27 = .ok (.iload 4, 2) := by decide +kernel
theorem dX0_write_29 : decode cX0_write 29 = .ok (.iaload, 1) := by decide +kernel
theorem dX0_write_30 : decode cX0_write 30 = .ok (.if_icmp .eq 58, 3) := by decide +kernel
theorem dX0_write_33 : decode cX0_write 33 = .ok (.aload_n 0, 1) := by decide +kernel
theorem dX0_write_34 : decode cX0_write 34 = .ok (.getfield 11, 3) := by decide +kernel
theorem dX0_write_37 : decode cX0_write 37 = .ok (.aload_n 0, 1) := by decide +kernel
theorem dX0_write_38 : decode cX0_write 38 = .ok (.getfield 30, 3) := by decide +kernel
theorem dX0_write_41 : decode cX0_write 41 = .ok (.iload 4, 2) := by decide +kernel
theorem dX0_write_43 : decode cX0_write 43 = .ok (.iastore, 1) := by decide +kernel
theorem dX0_write_44 : decode cX0_write 44 = .ok (.aload_n 0, 1) := by decide +kernel
theorem dX0_write_45 : decode cX0_write 45 = .ok (.getfield 15, 3) := by decide +kernel
theorem dX0_write_48 : decode cX0_write 48 = .ok (.aload_n 0, 1) := by decide +kernel
theorem dX0_write_49 : decode cX0_write 49 = .ok (.getfield 30, 3) := by decide +kernel
theorem dX0_write_52 : decode cX0_write 52 = .ok (.aload_n 1, 1) := by decide +kernel
theorem dX0_write_53 : decode cX0_write 53 = .ok (.iload 4, 2) := by decide +kernel
theorem dX0_write_55 : decode cX0_write 55 = .ok (.iaload, 1) := by decide +kernel
theorem dX0_write_56 : decode cX0_write 56 = .ok (.iastore, 1) := by decide +kernel
theorem dX0_write_57 : decode cX0_write 57 = .ok (.aload_n 0, 1) := by decide +kernel
theorem dX0_write_58 : decode cX0_write 58 = .ok (.getfield 18, 3) := by decide +kernel
theorem dX0_write_61 : decode cX0_write 61 = .ok (.aload_n 0, 1) := by decide +kernel
theorem dX0_write_62 : decode cX0_write 62 = .ok (.getfield 30, 3) := by decide +kernel
theorem dX0_write_65 : decode cX0_write 65 = .ok (.iload_n 3, 1) := by decide +kernel
theorem dX0_write_66 : decode cX0_write 66 = .ok (.iastore, 1) := by decide +kernel
theorem dX0_write_67 : decode cX0_write 67 = .ok (.aload_n 0, 1) := by decide +kernel
theorem dX0_write_68 : decode cX0_write 68 = .ok (.getfield 21, 3) := by decide +kernel
theorem dX0_write_71 : decode cX0_write 71 = .ok (.iload 4, 2) := by decide +kernel
theorem dX0_write_73 : decode cX0_write 73 = .ok (.aload_n 1, 1) := by decide +kernel
theorem dX0_write_74 : decode cX0_write 74 = .ok (.iload 4, 2) := by decide +kernel
theorem dX0_write_76 : decode cX0_write 76 = .ok (.iaload, 1) := by decide +kernel
theorem dX0_write_77 : decode cX0_write 77 = .ok (.iastore, 1) := by decide +kernel
theorem dX0_write_78 : decode cX0_write 78 = .ok (.aload_n 0, 1) := by decide +kernel
theorem dX0_write_79 : decode cX0_write 79 = .ok (.dup, 1) := by decide +kernel
theorem dX0_write_80 : decode cX0_write 80 = .ok (.getfield 30, 3) := by decide +kernel
theorem dX0_write_83 : decode cX0_write 83 = .ok (.iconst 1, 1) := by decide +kernel
theorem dX0_write_84 : decode cX0_write 84 = .ok (.iadd, 1) := by decide +kernel
theorem dX0_write_85 : decode cX0_write 85 = .ok (.putfield 30, 3) := by decide +kernel
theorem dX0_write_88 : decode cX0_write 88 = .ok (.iinc 4 1, 3) := by decide +kernel
theorem dX0_write_91 : decode cX0_write 91 = .ok (.goto (-88), 3) := by decide +kernel
theorem dX0_write_94 : decode cX0_write 94 = .ok (.return_, 1) := by decide +kernel
theorem dX0_seatAt_0 : decode cX0_seatAt 0 = .ok (.iconst (-1), 1) := by decide +kernel
theorem dX0_seatAt_1 : decode cX0_seatAt 1 = .ok (.istore_n 3, 1) := by decide +kernel
theorem dX0_seatAt_2 : decode cX0_seatAt 2 = .ok (.iconst 0, 1) := by decide +kernel
theorem dX0_seatAt_3 : decode cX0_seatAt 3 = .ok (.istore 4, 2) := by decide +kernel
theorem dX0_seatAt_5 : decode cX0_seatAt 5 = .ok (.iload 4, 2) := by decide +kernel
theorem dX0_seatAt_7 : decode cX0_seatAt 7 = .ok (.aload_n 0, 1) := by decide +kernel
theorem dX0_seatAt_8 : decode cX0_seatAt 8 = .ok (.getfield 30, 3) := by decide +kernel
theorem dX0_seatAt_11 : decode cX0_seatAt 11 = .ok (.if_icmp .ge 39, 3) := by decide +kernel
theorem dX0_seatAt_14 : decode cX0_seatAt 14 = .ok (.aload_n 0, 1) := by decide +kernel
theorem dX0_seatAt_15 : decode cX0_seatAt 15 = .ok (.getfield 11, 3) := by decide +kernel
theorem dX0_seatAt_18 : decode cX0_seatAt 18 = .ok (.iload 4, 2) := by decide +kernel
theorem dX0_seatAt_20 : decode cX0_seatAt 20 = .ok (.iaload, 1) := by decide +kernel
theorem dX0_seatAt_21 : decode cX0_seatAt 21 = .ok (.iload_n 1, 1) := by decide +kernel
theorem dX0_seatAt_22 : decode cX0_seatAt 22 = .ok (.if_icmp .ne 22, 3) := by decide +kernel
theorem dX0_seatAt_25 : decode cX0_seatAt 25 = .ok (.aload_n 0, 1) := by decide +kernel
theorem dX0_seatAt_26 : decode cX0_seatAt 26 = .ok (.getfield 18, 3) := by decide +kernel
theorem dX0_seatAt_29 : decode cX0_seatAt 29 = .ok (.iload 4, 2) := by decide +kernel
theorem dX0_seatAt_31 : decode cX0_seatAt 31 = .ok (.iaload, 1) := by decide +kernel
theorem dX0_seatAt_32 : decode cX0_seatAt 32 = .ok (.iload_n 2, 1) := by decide +kernel
theorem dX0_seatAt_33 : decode cX0_seatAt 33 = .ok (.if_icmp .gt 11, 3) := by decide +kernel
theorem dX0_seatAt_36 : decode cX0_seatAt 36 = .ok (.aload_n 0, 1) := by decide +kernel
theorem dX0_seatAt_37 : decode cX0_seatAt 37 = .ok (.getfield 15, 3) := by decide +kernel
theorem dX0_seatAt_40 : decode cX0_seatAt 40 = .ok (.iload 4, 2) := by decide +kernel
theorem dX0_seatAt_42 : decode cX0_seatAt 42 = .ok (.iaload, 1) := by decide +kernel
theorem dX0_seatAt_43 : decode cX0_seatAt 43 = .ok (.istore_n 3, 1) := by decide +kernel
theorem dX0_seatAt_44 : decode cX0_seatAt 44 = .ok (.iinc 4 1, 3) := by decide +kernel
theorem dX0_seatAt_47 : decode cX0_seatAt 47 = .ok (.goto (-42), 3) := by decide +kernel
theorem dX0_seatAt_50 : decode cX0_seatAt 50 = .ok (.iload_n 3, 1) := by decide +kernel
theorem dX0_seatAt_51 : decode cX0_seatAt 51 = .ok (.ireturn, 1) := by decide +kernel
theorem dX1_init_0 : decode cX1_init 0 = .ok (.aload_n 0, 1) := by decide +kernel
theorem dX1_init_1 : decode cX1_init 1 = .ok (.invokespecial 3, 3) := by decide +kernel
theorem dX1_init_4 : decode cX1_init 4 = .ok (.aload_n 0, 1) := by decide +kernel
theorem dX1_init_5 : decode cX1_init 5 = .ok (.bipush 14, 2) := by decide +kernel
theorem dX1_init_7 : decode cX1_init 7 = .ok (.newarray .int, 2) := by decide +kernel
theorem dX1_init_9 : decode cX1_init 9 = .ok (.putfield 9, 3) := by decide +kernel
theorem dX1_init_12 : decode cX1_init 12 = .ok (.aload_n 0, 1) := by decide +kernel
theorem dX1_init_13 : decode cX1_init 13 = .ok (.bipush 14, 2) := by decide +kernel
theorem dX1_init_15 : decode cX1_init 15 = .ok (.newarray .int, 2) := by decide +kernel
theorem dX1_init_17 : decode cX1_init 17 = .ok (.putfield 15, 3) := by decide +kernel
theorem dX1_init_20 : decode cX1_init 20 = .ok (.aload_n 0, 1) := by decide +kernel
theorem dX1_init_21 : decode cX1_init 21 = .ok (.bipush 14, 2) := by decide +kernel
theorem dX1_init_23 : decode cX1_init 23 = .ok (.newarray .int, 2) := by decide +kernel
theorem dX1_init_25 : decode cX1_init 25 = .ok (.putfield 18, 3) := by decide +kernel
theorem dX1_init_28 : decode cX1_init 28 = .ok (.aload_n 0, 1) := by decide +kernel
theorem dX1_init_29 : decode cX1_init 29 = .ok (.bipush 14, 2) := by decide +kernel
theorem dX1_init_31 : decode cX1_init 31 = .ok (.newarray .int, 2) := by decide +kernel
theorem dX1_init_33 : decode cX1_init 33 = .ok (.putfield 21, 3) := by decide +kernel
theorem dX1_init_36 : decode cX1_init 36 = .ok (.aload_n 0, 1) := by decide +kernel
theorem dX1_init_37 : decode cX1_init 37 = .ok (.bipush 14, 2) := by decide +kernel
theorem dX1_init_39 : decode cX1_init 39 = .ok (.newarray .int, 2) := by decide +kernel
theorem dX1_init_41 : decode cX1_init 41 = .ok (.putfield 24, 3) := by decide +kernel
theorem dX1_init_44 : decode cX1_init 44 = .ok (.aload_n 0, 1) := by decide +kernel
theorem dX1_init_45 : decode cX1_init 45 = .ok (.bipush 42, 2) := by decide +kernel
theorem dX1_init_47 : decode cX1_init 47 = .ok (.newarray .int, 2) := by decide +kernel
theorem dX1_init_49 : decode cX1_init 49 = .ok (.putfield 27, 3) := by decide +kernel
theorem dX1_init_52 : decode cX1_init 52 = .ok (.aload_n 0, 1) := by decide +kernel
theorem dX1_init_53 : decode cX1_init 53 = .ok (.bipush 14, 2) := by decide +kernel
theorem dX1_init_55 : decode cX1_init 55 = .ok (.newarray .int, 2) := by decide +kernel
theorem dX1_init_57 : decode cX1_init 57 = .ok (.putfield 30, 3) := by decide +kernel
theorem dX1_init_60 : decode cX1_init 60 = .ok (.aload_n 0, 1) := by decide +kernel
theorem dX1_init_61 : decode cX1_init 61 = .ok (.bipush 14, 2) := by decide +kernel
theorem dX1_init_63 : decode cX1_init 63 = .ok (.newarray .int, 2) := by decide +kernel
theorem dX1_init_65 : decode cX1_init 65 = .ok (.putfield 33, 3) := by decide +kernel
theorem dX1_init_68 : decode cX1_init 68 = .ok (.aload_n 0, 1) := by decide +kernel
theorem dX1_init_69 : decode cX1_init 69 = .ok (.iconst 3, 1) := by decide +kernel
theorem dX1_init_70 : decode cX1_init 70 = .ok (.newarray .int, 2) := by decide +kernel
theorem dX1_init_72 : decode cX1_init 72 = .ok (.putfield 36, 3) := by decide +kernel
theorem dX1_init_75 : decode cX1_init 75 = .ok (.aload_n 0, 1) := by decide +kernel
theorem dX1_init_76 : decode cX1_init 76 = .ok (.sipush 196, 3) := by decide +kernel
theorem dX1_init_79 : decode cX1_init 79 = .ok (.newarray .int, 2) := by decide +kernel
theorem dX1_init_81 : decode cX1_init 81 = .ok (.putfield 39, 3) := by decide +kernel
theorem dX1_init_84 : decode cX1_init 84 = .ok (.aload_n 0, 1) := by decide +kernel
theorem dX1_init_85 : decode cX1_init 85 = .ok (.bipush 14, 2) := by decide +kernel
theorem dX1_init_87 : decode cX1_init 87 = .ok (.newarray .int, 2) := by decide +kernel
theorem dX1_init_89 : decode cX1_init 89 = .ok (.putfield 42, 3) := by decide +kernel
theorem dX1_init_92 : decode cX1_init 92 = .ok (.aload_n 0, 1) := by decide +kernel
theorem dX1_init_93 : decode cX1_init 93 = .ok (.bipush 14, 2) := by decide +kernel
theorem dX1_init_95 : decode cX1_init 95 = .ok (.newarray .int, 2) := by decide +kernel
theorem dX1_init_97 : decode cX1_init 97 = .ok (.putfield 45, 3) := by decide +kernel
theorem dX1_init_100 : decode cX1_init 100 = .ok (.aload_n 0, 1) := by decide +kernel
theorem dX1_init_101 : decode cX1_init 101 = .ok (.iconst 2, 1) := by decide +kernel
theorem dX1_init_102 : decode cX1_init 102 = .ok (.putfield 48, 3) := by decide +kernel
theorem dX1_init_105 : decode cX1_init 105 = .ok (.aload_n 0, 1) := by decide +kernel
theorem dX1_init_106 : decode cX1_init 106 = .ok (.iconst 3, 1) := by decide +kernel
theorem dX1_init_107 : decode cX1_init 107 = .ok (.newarray .int, 2) := by decide +kernel
theorem dX1_init_109 : decode cX1_init 109 = .ok (.putfield 52, 3) := by decide +kernel
theorem dX1_init_112 : decode cX1_init 112 = .ok (.aload_n 0, 1) := by decide +kernel
theorem dX1_init_113 : decode cX1_init 113 = .ok (.getfield 27, 3) := by decide +kernel
theorem dX1_init_116 : decode cX1_init 116 = .ok (.iconst (-1), 1) := by decide +kernel
theorem dX1_init_117 : decode cX1_init 117 = .ok (.invokestatic 55, 3) := by decide +kernel
theorem dX1_init_120 : decode cX1_init 120 = .ok (.aload_n 0, 1) := by decide +kernel
theorem dX1_init_121 : decode cX1_init 121 = .ok (.getfield 42, 3) := by decide +kernel
theorem dX1_init_124 : decode cX1_init 124 = .ok (.iconst (-1), 1) := by decide +kernel
theorem dX1_init_125 : decode cX1_init 125 = .ok (.invokestatic 55, 3) := by decide +kernel
theorem dX1_init_128 : decode cX1_init 128 = .ok (.aload_n 0, 1) := by decide +kernel
theorem dX1_init_129 : decode cX1_init 129 = .ok (.getfield 45, 3) := by decide +kernel
theorem dX1_init_132 : decode cX1_init 132 = .ok (.iconst (-1), 1) := by decide +kernel
theorem dX1_init_133 : decode cX1_init 133 = .ok (.invokestatic 55, 3) := by decide +kernel
theorem dX1_init_136 : decode cX1_init 136 = .ok (.aload_n 0, 1) := by decide +kernel
theorem dX1_init_137 : decode cX1_init 137 = .ok (.getfield 52, 3) := by decide +kernel
theorem dX1_init_140 : decode cX1_init 140 = .ok (.bipush 14, 2) := by decide +kernel
theorem dX1_init_142 : decode cX1_init 142 = .ok (.invokestatic 55, 3) := by decide +kernel
theorem dX1_init_145 : decode cX1_init 145 = .ok (.return_, 1) := by decide +kernel
theorem dX1_has_0 : decode cX1_has 0 = .ok (.iload_n 1, 1) := by decide +kernel
theorem dX1_has_1 : decode cX1_has 1 = .ok (.ifCond .lt 15, 3) := by decide +kernel
theorem dX1_has_4 : decode cX1_has 4 = .ok (.iload_n 1, 1) := by decide +kernel
theorem dX1_has_5 : decode cX1_has 5 = .ok (.aload_n 0, 1) := by decide +kernel
theorem dX1_has_6 : decode cX1_has 6 = .ok (.getfield 61, 3) := by decide +kernel
theorem dX1_has_9 : decode cX1_has 9 = .ok (.if_icmp .ge 7, 3) := by decide +kernel
theorem dX1_has_12 : decode cX1_has 12 = .ok (.iconst 1, 1) := by decide +kernel
theorem dX1_has_13 : decode cX1_has 13 = .ok (.goto 4, 3) := by decide +kernel
theorem dX1_has_16 : decode cX1_has 16 = .ok (.iconst 0, 1) := by decide +kernel
theorem dX1_has_17 : decode cX1_has 17 = .ok (.ireturn, 1) := by decide +kernel
theorem dX1_areTwo_0 : decode cX1_areTwo 0 = .ok (.aload_n 0, 1) := by decide +kernel
theorem dX1_areTwo_1 : decode cX1_areTwo 1 = .ok (.iload_n 1, 1) := by decide +kernel
theorem dX1_areTwo_2 : decode cX1_areTwo 2 = .ok (.invokevirtual 64, 3) := by decide +kernel
theorem dX1_areTwo_5 : decode cX1_areTwo 5 = .ok (.ifCond .eq 20, 3) := by decide +kernel
theorem dX1_areTwo_8 : decode cX1_areTwo 8 = .ok (.aload_n 0, 1) := by decide +kernel
theorem dX1_areTwo_9 : decode cX1_areTwo 9 = .ok (.iload_n 2, 1) := by decide +kernel
theorem dX1_areTwo_10 : decode cX1_areTwo 10 = .ok (.invokevirtual 64, 3) := by decide +kernel
theorem dX1_areTwo_13 : decode cX1_areTwo 13 = .ok (.ifCond .eq 12, 3) := by decide +kernel
theorem dX1_areTwo_16 : decode cX1_areTwo 16 = .ok (.iload_n 1, 1) := by decide +kernel
theorem dX1_areTwo_17 : decode cX1_areTwo 17 = .ok (.iload_n 2, 1) := by decide +kernel
theorem dX1_areTwo_18 : decode cX1_areTwo 18 = .ok (.if_icmp .eq 7, 3) := by decide +kernel
theorem dX1_areTwo_21 : decode cX1_areTwo 21 = .ok (.iconst 1, 1) := by decide +kernel
theorem dX1_areTwo_22 : decode cX1_areTwo 22 = .ok (.goto 4, 3) := by decide +kernel
theorem dX1_areTwo_25 : decode cX1_areTwo 25 = .ok (.iconst 0, 1) := by decide +kernel
theorem dX1_areTwo_26 : decode cX1_areTwo 26 = .ok (.ireturn, 1) := by decide +kernel
theorem dX1_admit_0 : decode cX1_admit 0 = .ok (.aload_n 0, 1) := by decide +kernel
theorem dX1_admit_1 : decode cX1_admit 1 = .ok (.getfield 61, 3) := by decide +kernel
theorem dX1_admit_4 : decode cX1_admit 4 = .ok (.bipush 14, 2) := by decide +kernel
theorem dX1_admit_6 : decode cX1_admit 6 = .ok (.if_icmp .lt 5, 3) := by decide +kernel
theorem dX1_admit_9 : decode cX1_admit 9 = .ok (.iconst (-1), 1) := by decide +kernel
theorem dX1_admit_10 : decode cX1_admit 10 = .ok (.ireturn, 1) := by decide +kernel
theorem dX1_admit_11 : decode cX1_admit 11 = .ok (.aload_n 0, 1) := by decide +kernel
theorem dX1_admit_12 : decode cX1_admit 12 = .ok (.getfield 9, 3) := by decide +kernel
theorem dX1_admit_15 : decode cX1_admit 15 = .ok (.aload_n 0, 1) := by decide +kernel
theorem dX1_admit_16 : decode cX1_admit 16 = .ok (.getfield 61, 3) := by decide +kernel
theorem dX1_admit_19 : decode cX1_admit 19 = .ok (.iload_n 1, 1) := by decide +kernel
theorem dX1_admit_20 : decode cX1_admit 20 = .ok (.iastore, 1) := by decide +kernel
theorem dX1_admit_21 : decode cX1_admit 21 = .ok (.aload_n 0, 1) := by decide +kernel
theorem dX1_admit_22 : decode cX1_admit 22 = .ok (.getfield 15, 3) := by decide +kernel
theorem dX1_admit_25 : decode cX1_admit 25 = .ok (.aload_n 0, 1) := by decide +kernel
theorem dX1_admit_26 : decode cX1_admit 26 = .ok (.getfield 61, 3) := by decide +kernel
theorem dX1_admit_29 : decode cX1_admit 29 = .ok (.iload_n 2, 1) := by decide +kernel
theorem dX1_admit_30 : decode cX1_admit 30 = .ok (.iastore, 1) := by decide +kernel
theorem dX1_admit_31 : decode cX1_admit 31 = .ok (.aload_n 0, 1) := by decide +kernel
theorem dX1_admit_32 : decode cX1_admit 32 = .ok (.getfield 18, 3) := by decide +kernel
theorem dX1_admit_35 : decode cX1_admit 35 = .ok (.aload_n 0, 1) := by decide +kernel
theorem dX1_admit_36 : decode cX1_admit 36 = .ok (.getfield 61, 3) := by decide +kernel
theorem dX1_admit_39 : decode cX1_admit 39 = .ok (.iload_n 3, 1) := by decide +kernel
theorem dX1_admit_40 : decode cX1_admit 40 = .ok (.iastore, 1) := by decide +kernel
theorem dX1_admit_41 : decode cX1_admit 41 = .ok (.aload_n 0, 1) := by decide +kernel
theorem dX1_admit_42 : decode cX1_admit 42 = .ok (.getfield 21, 3) := by decide +kernel
theorem dX1_admit_45 : decode cX1_admit 45 = .ok (.aload_n 0, 1) := by decide +kernel
theorem dX1_admit_46 : decode cX1_admit 46 = .ok (.getfield 61, 3) := by decide +kernel
theorem dX1_admit_49 : decode cX1_admit 49 = .ok (.iload 4, 2) := by decide +kernel
theorem dX1_admit_51 : decode cX1_admit 51 = .ok (.iastore, 1) := by decide +kernel
theorem dX1_admit_52 : decode cX1_admit 52 = .ok (.aload_n 0, 1) := by decide +kernel
theorem dX1_admit_53 : decode cX1_admit 53 = .ok (.dup, 1) := by decide +kernel
theorem dX1_admit_54 : decode cX1_admit 54 = .ok (.getfield 61, 3) := by decide +kernel
theorem dX1_admit_57 : decode cX1_admit 57 = .ok (.iconst 1, 1) := by decide +kernel
theorem dX1_admit_58 : decode cX1_admit 58 = .ok (.iadd, 1) := by decide +kernel
theorem dX1_admit_59 : decode cX1_admit 59 = .ok (.putfield 61, 3) := by decide +kernel
theorem dX1_admit_62 : decode cX1_admit 62 = .ok (.aload_n 0, 1) := by decide +kernel
theorem dX1_admit_63 : decode cX1_admit 63 = .ok (.getfield 61, 3) := by decide +kernel
theorem dX1_admit_66 : decode cX1_admit 66 = .ok (.iconst 1, 1) := by decide +kernel
theorem dX1_admit_67 : decode cX1_admit 67 = .ok (.isub, 1) := by decide +kernel
theorem dX1_admit_68 : decode cX1_admit 68 = .ok (.ireturn, 1) := by decide +kernel
theorem dX1_cameBy_0 : decode cX1_cameBy 0 = .ok (.iconst 0, 1) := by decide +kernel
theorem dX1_cameBy_1 : decode cX1_cameBy 1 = .ok (.istore_n 2, 1) := by decide +kernel
theorem dX1_cameBy_2 : decode cX1_cameBy 2 = .ok (.iconst 0, 1) := by decide +kernel
theorem dX1_cameBy_3 : decode cX1_cameBy 3 = .ok (.istore_n 3, 1) := by decide +kernel
theorem dX1_cameBy_4 : decode cX1_cameBy 4 = .ok (.iload_n 3, 1) := by decide +kernel
theorem dX1_cameBy_5 : decode cX1_cameBy 5 = .ok (.aload_n 0, 1) := by decide +kernel
theorem dX1_cameBy_6 : decode cX1_cameBy 6 = .ok (.getfield 61, 3) := by decide +kernel
theorem dX1_cameBy_9 : decode cX1_cameBy 9 = .ok (.if_icmp .ge 22, 3) := by decide +kernel
theorem dX1_cameBy_12 : decode cX1_cameBy 12 = .ok (.aload_n 0, 1) := by decide +kernel
theorem dX1_cameBy_13 : decode cX1_cameBy 13 = .ok (.getfield 21, 3) := by decide +kernel
theorem dX1_cameBy_16 : decode cX1_cameBy 16 = .ok (.iload_n 3, 1) := by decide +kernel
theorem dX1_cameBy_17 : decode cX1_cameBy 17 = .ok (.iaload, 1) := by decide +kernel
theorem dX1_cameBy_18 : decode cX1_cameBy 18 = .ok (.iload_n 1, 1) := by decide +kernel
theorem dX1_cameBy_19 : decode cX1_cameBy 19 = .ok (.if_icmp .gt 6, 3) := by decide +kernel
theorem dX1_cameBy_22 : decode cX1_cameBy 22 = .ok (.iinc 2 1, 3) := by decide +kernel
theorem dX1_cameBy_25 : decode cX1_cameBy 25 = .ok (.iinc 3 1, 3) := by decide +kernel
theorem dX1_cameBy_28 : decode cX1_cameBy 28 = .ok (.goto (-24), 3) := by decide +kernel
theorem dX1_cameBy_31 : decode cX1_cameBy 31 = .ok (.iload_n 2, 1) := by decide +kernel
theorem dX1_cameBy_32 : decode cX1_cameBy 32 = .ok (.ireturn, 1) := by decide +kernel
theorem dX1_naming_0 : decode cX1_naming 0 = .ok (.iconst 0, 1) := by decide +kernel
theorem dX1_naming_1 : decode cX1_naming 1 = .ok (.istore_n 2, 1) := by decide +kernel
theorem dX1_naming_2 : decode cX1_naming 2 = .ok (.iconst 0, 1) := by decide +kernel
theorem dX1_naming_3 : decode cX1_naming 3 = .ok (.istore_n 3, 1) := by decide +kernel
theorem dX1_naming_4 : decode cX1_naming 4 = .ok (.iload_n 3, 1) := by decide +kernel
theorem dX1_naming_5 : decode cX1_naming 5 = .ok (.aload_n 0, 1) := by decide +kernel
theorem dX1_naming_6 : decode cX1_naming 6 = .ok (.getfield 61, 3) := by decide +kernel
theorem dX1_naming_9 : decode cX1_naming 9 = .ok (.iconst 3, 1) := by decide +kernel
theorem dX1_naming_10 : decode cX1_naming 10 = .ok (.imul, 1) := by decide +kernel
theorem dX1_naming_11 : decode cX1_naming 11 = .ok (.if_icmp .ge 22, 3) := by decide +kernel
theorem dX1_naming_14 : decode cX1_naming 14 = .ok (.aload_n 0, 1) := by decide +kernel
theorem dX1_naming_15 : decode cX1_naming 15 = .ok (.getfield 27, 3) := by decide +kernel
theorem dX1_naming_18 : decode cX1_naming 18 = .ok (.iload_n 3, 1) := by decide +kernel
theorem dX1_naming_19 : decode cX1_naming 19 = .ok (.iaload, 1) := by decide +kernel
theorem dX1_naming_20 : decode cX1_naming 20 = .ok (.iload_n 1, 1) := by decide +kernel
theorem dX1_naming_21 : decode cX1_naming 21 = .ok (.if_icmp .ne 6, 3) := by decide +kernel
theorem dX1_naming_24 : decode cX1_naming 24 = .ok (.iinc 2 1, 3) := by decide +kernel
theorem dX1_naming_27 : decode cX1_naming 27 = .ok (.iinc 3 1, 3) := by decide +kernel
theorem dX1_naming_30 : decode cX1_naming 30 = .ok (.goto (-26), 3) := by decide +kernel
theorem dX1_naming_33 : decode cX1_naming 33 = .ok (.iload_n 2, 1) := by decide +kernel
theorem dX1_naming_34 : decode cX1_naming 34 = .ok (.ireturn, 1) := by decide +kernel
theorem dX1_toldWishes_0 : decode cX1_toldWishes 0 = .ok (.iconst 0, 1) := by decide +kernel
theorem dX1_toldWishes_1 : decode cX1_toldWishes 1 = .ok (.istore_n 2, 1) := by decide +kernel
theorem dX1_toldWishes_2 : decode cX1_toldWishes 2 = .ok (.iconst 0, 1) := by decide +kernel
theorem dX1_toldWishes_3 : decode cX1_toldWishes 3 = .ok (.istore_n 3, 1) := by decide +kernel
theorem dX1_toldWishes_4 : decode cX1_toldWishes 4 = .ok (.iload_n 3, 1) := by decide +kernel
theorem dX1_toldWishes_5 : decode cX1_toldWishes 5 = .ok (.iconst 3, 1) := by decide +kernel
theorem dX1_toldWishes_6 : decode cX1_toldWishes 6 = .ok (.if_icmp .ge 26, 3) := by decide +kernel
theorem dX1_toldWishes_9 : decode cX1_toldWishes 9 = .ok (.aload_n 0, 1) := by decide +kernel
theorem dX1_toldWishes_10 : decode cX1_toldWishes 10 = .ok (.getfield 27, 3) := by decide +kernel
theorem dX1_toldWishes_13 : decode cX1_toldWishes 13 = .ok (.iload_n 1, 1) := by decide +kernel
theorem dX1_toldWishes_14 : decode cX1_toldWishes 14 = .ok (.iconst 3, 1) := by decide +kernel
theorem dX1_toldWishes_15 : decode cX1_toldWishes 15 = .ok (.imul, 1) := by decide +kernel
theorem dX1_toldWishes_16 : decode cX1_toldWishes 16 = .ok (.iload_n 3, 1) := by decide +kernel
theorem dX1_toldWishes_17 : decode cX1_toldWishes 17 = .ok (.iadd, 1) := by decide +kernel
theorem dX1_toldWishes_18 : decode cX1_toldWishes 18 = .ok (.iaload, 1) := by decide +kernel
theorem dX1_toldWishes_19 : decode cX1_toldWishes 19 = .ok (.iconst (-1), 1) := by decide +kernel
theorem dX1_toldWishes_20 : decode cX1_toldWishes 20 = .ok (.if_icmp .eq 6, 3) := by decide +kernel
theorem dX1_toldWishes_23 : decode cX1_toldWishes 23 = .ok (.iinc 2 1, 3) := by decide +kernel
theorem dX1_toldWishes_26 : decode cX1_toldWishes 26 = .ok (.iinc 3 1, 3) := by decide +kernel
theorem dX1_toldWishes_29 : decode cX1_toldWishes 29 = .ok (.goto (-25), 3) := by decide +kernel
theorem dX1_toldWishes_32 : decode cX1_toldWishes 32 = .ok (.iload_n 2, 1) := by decide +kernel
theorem dX1_toldWishes_33 : decode cX1_toldWishes 33 = .ok (.ireturn, 1) := by decide +kernel
theorem dX1_wishedOnes_0 : decode cX1_wishedOnes 0 = .ok (.iconst 0, 1) := by decide +kernel
theorem dX1_wishedOnes_1 : decode cX1_wishedOnes 1 = .ok (.istore_n 2, 1) := by decide +kernel
theorem dX1_wishedOnes_2 : decode cX1_wishedOnes 2 = .ok (.iconst 0, 1) := by decide +kernel
theorem dX1_wishedOnes_3 : decode cX1_wishedOnes 3 = .ok (.istore_n 3, 1) := by decide +kernel
theorem dX1_wishedOnes_4 : decode cX1_wishedOnes 4 = .ok (.iload_n 3, 1) := by decide +kernel
theorem dX1_wishedOnes_5 : decode cX1_wishedOnes 5 = .ok (.iconst 3, 1) := by decide +kernel
theorem dX1_wishedOnes_6 : decode cX1_wishedOnes 6 = .ok (.if_icmp .ge 34, 3) := by decide +kernel
theorem dX1_wishedOnes_9 : decode cX1_wishedOnes 9 = .ok (.aload_n 0, 1) := by decide +kernel
theorem dX1_wishedOnes_10 : decode cX1_wishedOnes 10 = .ok (.getfield 27, 3) := by decide +kernel
theorem dX1_wishedOnes_13 : decode cX1_wishedOnes 13 = .ok (.iload_n 1, 1) := by decide +kernel
theorem dX1_wishedOnes_14 : decode cX1_wishedOnes 14 = .ok (.iconst 3, 1) := by decide +kernel
theorem dX1_wishedOnes_15 : decode cX1_wishedOnes 15 = .ok (.imul, 1) := by decide +kernel
theorem dX1_wishedOnes_16 : decode cX1_wishedOnes 16 = .ok (.iload_n 3, 1) := by decide +kernel
theorem dX1_wishedOnes_17 : decode cX1_wishedOnes 17 = .ok (.iadd, 1) := by decide +kernel
theorem dX1_wishedOnes_18 : decode cX1_wishedOnes 18 = .ok (.iaload, 1) := by decide +kernel
theorem dX1_wishedOnes_19 : decode cX1_wishedOnes 19 = .ok (.istore 4, 2) := by decide +kernel
theorem dX1_wishedOnes_21 : decode cX1_wishedOnes 21 = .ok (.iload 4, 2) := by decide +kernel
theorem dX1_wishedOnes_23 : decode cX1_wishedOnes 23 = .ok (.iconst (-1), 1) := by decide +kernel
theorem dX1_wishedOnes_24 : decode cX1_wishedOnes 24 = .ok (.if_icmp .eq 10, 3) := by decide +kernel
theorem dX1_wishedOnes_27 : decode cX1_wishedOnes 27 = .ok (.iload_n 2, 1) := by decide +kernel
theorem dX1_wishedOnes_28 : decode cX1_wishedOnes 28 = .ok (.iconst 1, 1) := by decide +kernel
theorem dX1_wishedOnes_29 : decode cX1_wishedOnes 29 = .ok (.iload 4, 2) := by decide +kernel
theorem dX1_wishedOnes_31 : decode cX1_wishedOnes 31 = .ok (.ishl, 1) := by decide +kernel
theorem dX1_wishedOnes_32 : decode cX1_wishedOnes 32 = .ok (.ior, 1) := by decide +kernel
theorem dX1_wishedOnes_33 : decode cX1_wishedOnes 33 = .ok (.istore_n 2, 1) := by decide +kernel
theorem dX1_wishedOnes_34 : decode cX1_wishedOnes 34 = .ok (.iinc 3 1, 3) := by decide +kernel
theorem dX1_wishedOnes_37 : decode cX1_wishedOnes 37 = .ok (.goto (-33), 3) := by decide +kernel
theorem dX1_wishedOnes_40 : decode cX1_wishedOnes 40 = .ok (.iload_n 2, 1) := by decide +kernel
theorem dX1_wishedOnes_41 : decode cX1_wishedOnes 41 = .ok (.ireturn, 1) := by decide +kernel
theorem dX1_bestWish_0 : decode cX1_bestWish 0 = .ok (.iconst 0, 1) := by decide +kernel
theorem dX1_bestWish_1 : decode cX1_bestWish 1 = .ok (.istore_n 3, 1) := by decide +kernel
theorem dX1_bestWish_2 : decode cX1_bestWish 2 = .ok (.iload_n 3, 1) := by decide +kernel
theorem dX1_bestWish_3 : decode cX1_bestWish 3 = .ok (.iconst 3, 1) := by decide +kernel
theorem dX1_bestWish_4 : decode cX1_bestWish 4 = .ok (.if_icmp .ge 38, 3) := by decide +kernel
theorem dX1_bestWish_7 : decode cX1_bestWish 7 = .ok (.aload_n 0, 1) := by decide +kernel
theorem dX1_bestWish_8 : decode cX1_bestWish 8 = .ok (.getfield 27, 3) := by decide +kernel
theorem dX1_bestWish_11 : decode cX1_bestWish 11 = .ok (.iload_n 1, 1) := by decide +kernel
theorem dX1_bestWish_12 : decode cX1_bestWish 12 = .ok (.iconst 3, 1) := by decide +kernel
theorem dX1_bestWish_13 : decode cX1_bestWish 13 = .ok (.imul, 1) := by decide +kernel
theorem dX1_bestWish_14 : decode cX1_bestWish 14 = .ok (.iload_n 3, 1) := by decide +kernel
theorem dX1_bestWish_15 : decode cX1_bestWish 15 = .ok (.iadd, 1) := by decide +kernel
theorem dX1_bestWish_16 : decode cX1_bestWish 16 = .ok (.iaload, 1) := by decide +kernel
theorem dX1_bestWish_17 : decode cX1_bestWish 17 = .ok (.istore 4, 2) := by decide +kernel
theorem dX1_bestWish_19 : decode cX1_bestWish 19 = .ok (.iload 4, 2) := by decide +kernel
theorem dX1_bestWish_21 : decode cX1_bestWish 21 = .ok (.iconst (-1), 1) := by decide +kernel
theorem dX1_bestWish_22 : decode cX1_bestWish 22 = .ok (.if_icmp .eq 14, 3) := by decide +kernel
theorem dX1_bestWish_25 : decode cX1_bestWish 25 = .ok (.iload_n 2, 1) := by decide +kernel
theorem dX1_bestWish_26 : decode cX1_bestWish 26 = .ok (.iload 4, 2) := by decide +kernel
theorem dX1_bestWish_28 : decode cX1_bestWish 28 = .ok (.ishr, 1) := by decide +kernel
theorem dX1_bestWish_29 : decode cX1_bestWish 29 = .ok (.iconst 1, 1) := by decide +kernel
theorem dX1_bestWish_30 : decode cX1_bestWish 30 = .ok (.iand, 1) := by decide +kernel
theorem dX1_bestWish_31 : decode cX1_bestWish 31 = .ok (.ifCond .eq 5, 3) := by decide +kernel
theorem dX1_bestWish_34 : decode cX1_bestWish 34 = .ok (.iload_n 3, 1) := by decide +kernel
theorem dX1_bestWish_35 : decode cX1_bestWish 35 = .ok (.ireturn, 1) := by decide +kernel
theorem dX1_bestWish_36 : decode cX1_bestWish 36 = .ok (.iinc 3 1, 3) := by decide +kernel
theorem dX1_bestWish_39 : decode cX1_bestWish 39 = .ok (.goto (-37), 3) := by decide +kernel
theorem dX1_bestWish_42 : decode cX1_bestWish 42 = .ok (.iconst 3, 1) := by decide +kernel
theorem dX1_bestWish_43 : decode cX1_bestWish 43 = .ok (.ireturn, 1) := by decide +kernel
theorem dX1_reach_0 : decode cX1_reach 0 = .ok (.iconst 1, 1) := by decide +kernel
theorem dX1_reach_1 : decode cX1_reach 1 = .ok (.iload_n 1, 1) := by decide +kernel
theorem dX1_reach_2 : decode cX1_reach 2 = .ok (.ishl, 1) := by decide +kernel
theorem dX1_reach_3 : decode cX1_reach 3 = .ok (.istore_n 2, 1) := by decide +kernel
theorem dX1_reach_4 : decode cX1_reach 4 = .ok (.iconst 1, 1) := by decide +kernel
theorem dX1_reach_5 : decode cX1_reach 5 = .ok (.istore_n 3, 1) := by decide +kernel
theorem dX1_reach_6 : decode cX1_reach 6 = .ok (.iload_n 3, 1) := by decide +kernel
theorem dX1_reach_7 : decode cX1_reach 7 = .ok (.aload_n 0, 1) := by decide +kernel
theorem dX1_reach_8 : decode cX1_reach 8 = .ok (.getfield 61, 3) := by decide +kernel
theorem dX1_reach_11 : decode cX1_reach 11 = .ok (.if_icmp .ge 56, 3) := by decide +kernel
theorem dX1_reach_14 : decode cX1_reach 14 = .ok (.iload_n 2, 1) := by decide +kernel
theorem dX1_reach_15 : decode cX1_reach 15 = .ok (.istore 4, 2) := by decide +kernel
theorem dX1_reach_17 : decode cX1_reach 17 = .ok (.iconst 0, 1) := by decide +kernel
theorem dX1_reach_18 : decode cX1_reach 18 = .ok (.istore 5, 2) := by decide +kernel
theorem dX1_reach_20 : decode cX1_reach 20 = .ok (.iload 5, 2) := by decide +kernel
theorem dX1_reach_22 : decode cX1_reach 22 = .ok (.aload_n 0, 1) := by decide +kernel
theorem dX1_reach_23 : decode cX1_reach 23 = .ok (.getfield 61, 3) := by decide +kernel
theorem dX1_reach_26 : decode cX1_reach 26 = .ok (.if_icmp .ge 27, 3) := by decide +kernel
theorem dX1_reach_29 : decode cX1_reach 29 = .ok (.iload_n 2, 1) := by decide +kernel
theorem dX1_reach_30 : decode cX1_reach 30 = .ok (.iload 5, 2) := by decide +kernel
theorem dX1_reach_32 : decode cX1_reach 32 = .ok (.ishr, 1) := by decide +kernel
theorem dX1_reach_33 : decode cX1_reach 33 = .ok (.iconst 1, 1) := by decide +kernel
theorem dX1_reach_34 : decode cX1_reach 34 = .ok (.iand, 1) := by decide +kernel
theorem dX1_reach_35 : decode cX1_reach 35 = .ok (.ifCond .eq 12, 3) := by decide +kernel
theorem dX1_reach_38 : decode cX1_reach 38 = .ok (.iload_n 2, 1) := by decide +kernel
theorem dX1_reach_39 : decode cX1_reach 39 = .ok (.aload_n 0, 1) := by decide +kernel
theorem dX1_reach_40 : decode cX1_reach 40 = .ok (.iload 5, 2) := by decide +kernel
theorem dX1_reach_42 : decode cX1_reach 42 = .ok (.invokevirtual 68, 3) := by decide +kernel
theorem dX1_reach_45 : decode cX1_reach 45 = .ok (.ior, 1) := by decide +kernel
theorem dX1_reach_46 : decode cX1_reach 46 = .ok (.istore_n 2, 1) := by decide +kernel
theorem dX1_reach_47 : decode cX1_reach 47 = .ok (.iinc 5 1, 3) := by decide +kernel
theorem dX1_reach_50 : decode cX1_reach 50 = .ok (.goto (-30), 3) := by decide +kernel
theorem dX1_reach_53 : decode cX1_reach 53 = .ok (.iload_n 2, 1) := by decide +kernel
theorem dX1_reach_54 : decode cX1_reach 54 = .ok (.iload 4, 2) := by decide +kernel
theorem dX1_reach_56 : decode cX1_reach 56 = .ok (.if_icmp .ne 5, 3) := by decide +kernel
theorem dX1_reach_59 : decode cX1_reach 59 = .ok (.iload_n 2, 1) := by decide +kernel
theorem dX1_reach_60 : decode cX1_reach 60 = .ok (.ireturn, 1) := by decide +kernel
theorem dX1_reach_61 : decode cX1_reach 61 = .ok (.iinc 3 1, 3) := by decide +kernel
theorem dX1_reach_64 : decode cX1_reach 64 = .ok (.goto (-58), 3) := by decide +kernel
theorem dX1_reach_67 : decode cX1_reach 67 = .ok (.iload_n 2, 1) := by decide +kernel
theorem dX1_reach_68 : decode cX1_reach 68 = .ok (.ireturn, 1) := by decide +kernel
theorem dX1_wentBadly_0 : decode cX1_wentBadly 0 = .ok (.aload_n 0, 1) := by decide +kernel
theorem dX1_wentBadly_1 : decode cX1_wentBadly 1 = .ok (.getfield 42, 3) := by decide +kernel
theorem dX1_wentBadly_4 : decode cX1_wentBadly 4 = .ok (.iload_n 1, 1) := by decide +kernel
theorem dX1_wentBadly_5 : decode cX1_wentBadly 5 = .ok (.iaload, 1) := by decide +kernel
theorem dX1_wentBadly_6 : decode cX1_wentBadly 6 = .ok (.iconst (-1), 1) := by decide +kernel
theorem dX1_wentBadly_7 : decode cX1_wentBadly 7 = .ok (.if_icmp .eq 24, 3) := by decide +kernel
theorem dX1_wentBadly_10 : decode cX1_wentBadly 10 = .ok (.aload_n 0, 1) := by decide +kernel
theorem dX1_wentBadly_11 : decode cX1_wentBadly 11 = .ok (.getfield 42, 3) := by decide +kernel
theorem dX1_wentBadly_14 : decode cX1_wentBadly 14 = .ok (.iload_n 1, 1) := by decide +kernel
theorem dX1_wentBadly_15 : decode cX1_wentBadly 15 = .ok (.iaload, 1) := by decide +kernel
theorem dX1_wentBadly_16 : decode cX1_wentBadly 16 = .ok (.aload_n 0, 1) := by decide +kernel
theorem dX1_wentBadly_17 : decode cX1_wentBadly 17 = .ok (.getfield 45, 3) := by decide +kernel
theorem dX1_wentBadly_20 : decode cX1_wentBadly 20 = .ok (.iload_n 1, 1) := by decide +kernel
theorem dX1_wentBadly_21 : decode cX1_wentBadly 21 = .ok (.iaload, 1) := by decide +kernel
theorem dX1_wentBadly_22 : decode cX1_wentBadly 22 = .ok (.iadd, 1) := by decide +kernel
theorem dX1_wentBadly_23 : decode cX1_wentBadly 23 = .ok (.iconst 5, 1) := by decide +kernel
theorem dX1_wentBadly_24 : decode cX1_wentBadly 24 = .ok (.if_icmp .ge 7, 3) := by decide +kernel
theorem dX1_wentBadly_27 : decode cX1_wentBadly 27 = .ok (.iconst 1, 1) := by decide +kernel
theorem dX1_wentBadly_28 : decode cX1_wentBadly 28 = .ok (.goto 4, 3) := by decide +kernel
theorem dX1_wentBadly_31 : decode cX1_wentBadly 31 = .ok (.iconst 0, 1) := by decide +kernel
theorem dX1_wentBadly_32 : decode cX1_wentBadly 32 = .ok (.ireturn, 1) := by decide +kernel
theorem dX1_addRegret_0 : decode cX1_addRegret 0 = .ok (.aload_n 0, 1) := by decide +kernel
theorem dX1_addRegret_1 : decode cX1_addRegret 1 = .ok (.getfield 39, 3) := by decide +kernel
theorem dX1_addRegret_4 : decode cX1_addRegret 4 = .ok (.iload_n 1, 1) := by decide +kernel
theorem dX1_addRegret_5 : decode cX1_addRegret 5 = .ok (.bipush 14, 2) := by decide +kernel
theorem dX1_addRegret_7 : decode cX1_addRegret 7 = .ok (.imul, 1) := by decide +kernel
theorem dX1_addRegret_8 : decode cX1_addRegret 8 = .ok (.iload_n 2, 1) := by decide +kernel
theorem dX1_addRegret_9 : decode cX1_addRegret 9 = .ok (.iadd, 1) := by decide +kernel
theorem dX1_addRegret_10 : decode cX1_addRegret 10 = .ok (.iaload, 1) := by decide +kernel
theorem dX1_addRegret_11 : decode cX1_addRegret 11 = .ok (.iconst 1, 1) := by decide +kernel
theorem dX1_addRegret_12 : decode cX1_addRegret 12 = .ok (.iadd, 1) := by decide +kernel
theorem dX1_addRegret_13 : decode cX1_addRegret 13 = .ok (.bipush 99, 2) := by decide +kernel
theorem dX1_addRegret_15 : decode cX1_addRegret 15 = .ok (.invokestatic 72, 3) := by decide +kernel
theorem dX1_addRegret_18 : decode cX1_addRegret 18 = .ok (.istore_n 3, 1) := by decide +kernel
theorem dX1_addRegret_19 : decode cX1_addRegret 19 = .ok (.aload_n 0, 1) := by decide +kernel
theorem dX1_addRegret_20 : decode cX1_addRegret 20 = .ok (.getfield 39, 3) := by decide +kernel
theorem dX1_addRegret_23 : decode cX1_addRegret 23 = .ok (.iload_n 1, 1) := by decide +kernel
theorem dX1_addRegret_24 : decode cX1_addRegret 24 = .ok (.bipush 14, 2) := by decide +kernel
theorem dX1_addRegret_26 : decode cX1_addRegret 26 = .ok (.imul, 1) := by decide +kernel
theorem dX1_addRegret_27 : decode cX1_addRegret 27 = .ok (.iload_n 2, 1) := by decide +kernel
theorem dX1_addRegret_28 : decode cX1_addRegret 28 = .ok (.iadd, 1) := by decide +kernel
theorem dX1_addRegret_29 : decode cX1_addRegret 29 = .ok (.iload_n 3, 1) := by decide +kernel
theorem dX1_addRegret_30 : decode cX1_addRegret 30 = .ok (.iastore, 1) := by decide +kernel
theorem dX1_addRegret_31 : decode cX1_addRegret 31 = .ok (.aload_n 0, 1) := by decide +kernel
theorem dX1_addRegret_32 : decode cX1_addRegret 32 = .ok (.getfield 39, 3) := by decide +kernel
theorem dX1_addRegret_35 : decode cX1_addRegret 35 = .ok (.iload_n 2, 1) := by decide +kernel
theorem dX1_addRegret_36 : decode cX1_addRegret 36 = .ok (.bipush 14, 2) := by decide +kernel
theorem dX1_addRegret_38 : decode cX1_addRegret 38 = .ok (.imul, 1) := by decide +kernel
theorem dX1_addRegret_39 : decode cX1_addRegret 39 = .ok (.iload_n 1, 1) := by decide +kernel
theorem dX1_addRegret_40 : decode cX1_addRegret 40 = .ok (.iadd, 1) := by decide +kernel
theorem dX1_addRegret_41 : decode cX1_addRegret 41 = .ok (.iload_n 3, 1) := by decide +kernel
theorem dX1_addRegret_42 : decode cX1_addRegret 42 = .ok (.iastore, 1) := by decide +kernel
theorem dX1_addRegret_43 : decode cX1_addRegret 43 = .ok (.return_, 1) := by decide +kernel
theorem dX2_init_0 : decode cX2_init 0 = .ok (.aload_n 0, 1) := by decide +kernel
theorem dX2_init_1 : decode cX2_init 1 = .ok (.invokespecial 3, 3) := by decide +kernel
theorem dX2_init_4 : decode cX2_init 4 = .ok (.aload_n 0, 1) := by decide +kernel
theorem dX2_init_5 : decode cX2_init 5 = .ok (.iconst 3, 1) := by decide +kernel
theorem dX2_init_6 : decode cX2_init 6 = .ok (.newarray .int, 2) := by decide +kernel
theorem dX2_init_8 : decode cX2_init 8 = .ok (.putfield 9, 3) := by decide +kernel
theorem dX2_init_11 : decode cX2_init 11 = .ok (.aload_n 0, 1) := by decide +kernel
theorem dX2_init_12 : decode cX2_init 12 = .ok (.bipush 14, 2) := by decide +kernel
theorem dX2_init_14 : decode cX2_init 14 = .ok (.newarray .int, 2) := by decide +kernel
theorem dX2_init_16 : decode cX2_init 16 = .ok (.putfield 15, 3) := by decide +kernel
theorem dX2_init_19 : decode cX2_init 19 = .ok (.aload_n 0, 1) := by decide +kernel
theorem dX2_init_20 : decode cX2_init 20 = .ok (.aload_n 1, 1) := by decide +kernel
theorem dX2_init_21 : decode cX2_init 21 = .ok (.putfield 18, 3) := by decide +kernel
theorem dX2_init_24 : decode cX2_init 24 = .ok (.aload_n 0, 1) := by decide +kernel
theorem dX2_init_25 : decode cX2_init 25 = .ok (.aload_n 2, 1) := by decide +kernel
theorem dX2_init_26 : decode cX2_init 26 = .ok (.putfield 22, 3) := by decide +kernel
theorem dX2_init_29 : decode cX2_init 29 = .ok (.return_, 1) := by decide +kernel
theorem dX2_starts_0 : decode cX2_starts 0 = .ok (.aload_n 0, 1) := by decide +kernel
theorem dX2_starts_1 : decode cX2_starts 1 = .ok (.getfield 9, 3) := by decide +kernel
theorem dX2_starts_4 : decode cX2_starts 4 = .ok (.iconst 0, 1) := by decide +kernel
theorem dX2_starts_5 : decode cX2_starts 5 = .ok (.invokestatic 26, 3) := by decide +kernel
theorem dX2_starts_8 : decode cX2_starts 8 = .ok (.iconst 0, 1) := by decide +kernel
theorem dX2_starts_9 : decode cX2_starts 9 = .ok (.istore_n 1, 1) := by decide +kernel
theorem dX2_starts_10 : decode cX2_starts 10 = .ok (.iload_n 1, 1) := by decide +kernel
theorem dX2_starts_11 : decode cX2_starts 11 = .ok (.aload_n 0, 1) := by decide +kernel
theorem dX2_starts_12 : decode cX2_starts 12 = .ok (.getfield 18, 3) := by decide +kernel
theorem dX2_starts_15 : decode cX2_starts 15 = .ok (.getfield 32, 3) := by decide +kernel
theorem dX2_starts_18 : decode cX2_starts 18 = .ok (.if_icmp .ge 41, 3) := by decide +kernel
theorem dX2_starts_21 : decode cX2_starts 21 = .ok (.aload_n 0, 1) := by decide +kernel
theorem dX2_starts_22 : decode cX2_starts 22 = .ok (.iload_n 1, 1) := by decide +kernel
theorem dX2_starts_23 : decode cX2_starts 23 = .ok (.invokevirtual 38, 3) := by decide +kernel
theorem dX2_starts_26 : decode cX2_starts 26 = .ok (.istore_n 2, 1) := by decide +kernel
theorem dX2_starts_27 : decode cX2_starts 27 = .ok (.iload_n 2, 1) := by decide +kernel
theorem dX2_starts_28 : decode cX2_starts 28 = .ok (.iconst (-1), 1) := by decide +kernel
theorem dX2_starts_29 : decode cX2_starts 29 = .ok (.if_icmp .ne 5, 3) := by decide +kernel
theorem dX2_starts_32 : decode cX2_starts 32 = .ok (.iconst 0, 1) := by decide +kernel
theorem dX2_starts_33 : decode cX2_starts 33 = .ok (.ireturn, 1) := by decide +kernel
theorem dX2_starts_34 : decode cX2_starts 34 = .ok (.aload_n 0, 1) := by decide +kernel
theorem dX2_starts_35 : decode cX2_starts 35 = .ok (.getfield 15, 3) := by decide +kernel
theorem dX2_starts_38 : decode cX2_starts 38 = .ok (.iload_n 1, 1) := by decide +kernel
theorem dX2_starts_39 : decode cX2_starts 39 = .ok (.iload_n 2, 1) := by decide +kernel
theorem dX2_starts_40 : decode cX2_starts 40 = .ok (.iastore, 1) := by decide +kernel
theorem dX2_starts_41 : decode cX2_starts 41 = .ok (.aload_n 0, 1) := by decide +kernel
theorem dX2_starts_42 : decode cX2_starts 42 = .ok (.getfield 9, 3) := by decide +kernel
theorem dX2_starts_45 : decode cX2_starts 45 = .ok (.iload_n 2, 1) := by decide +kernel
theorem dX2_starts_46 : decode cX2_starts 46 = .ok (.dup2, 1) := by decide +kernel
theorem dX2_starts_47 : decode cX2_starts 47 = .ok (.iaload, 1) := by decide +kernel
theorem dX2_starts_48 : decode cX2_starts 48 = .ok (.iconst 1, 1) := by decide +kernel
theorem dX2_starts_49 : decode cX2_starts 49 = .ok (.iload_n 1, 1) := by decide +kernel
theorem dX2_starts_50 : decode cX2_starts 50 = .ok (.ishl, 1) := by decide +kernel
theorem dX2_starts_51 : decode cX2_starts 51 = .ok (.ior, 1) := by decide +kernel
theorem dX2_starts_52 : decode cX2_starts 52 = .ok (.iastore, 1) := by decide +kernel
theorem dX2_starts_53 : decode cX2_starts 53 = .ok (.iinc 1 1, 3) := by decide +kernel
theorem dX2_starts_56 : decode cX2_starts 56 = .ok (.goto (-46), 3) := by decide +kernel
theorem dX2_starts_59 : decode cX2_starts 59 = .ok (.aload_n 0, 1) := by decide +kernel
theorem dX2_starts_60 : decode cX2_starts 60 = .ok (.aload_n 0, 1) := by decide +kernel
theorem dX2_starts_61 : decode cX2_starts 61 = .ok (.getfield 22, 3) := by decide +kernel
theorem dX2_starts_64 : decode cX2_starts 64 = .ok (.aload_n 0, 1) := by decide +kernel
theorem dX2_starts_65 : decode cX2_starts 65 = .ok (.getfield 9, 3) := by decide +kernel
theorem dX2_starts_68 : decode cX2_starts 68 = .ok (.invokevirtual 42, 3) := by decide +kernel
theorem dX2_starts_71 : decode cX2_starts 71 = .ok (.putfield 48, 3) := by decide +kernel
theorem dX2_starts_74 : decode cX2_starts 74 = .ok (.aload_n 0, 1) := by decide +kernel
theorem dX2_starts_75 : decode cX2_starts 75 = .ok (.aload_n 0, 1) := by decide +kernel
theorem dX2_starts_76 : decode cX2_starts 76 = .ok (.getfield 22, 3) := by decide +kernel
theorem dX2_starts_79 : decode cX2_starts 79 = .ok (.aload_n 0, 1) := by decide +kernel
theorem dX2_starts_80 : decode cX2_starts 80 = .ok (.getfield 9, 3) := by decide +kernel
theorem dX2_starts_83 : decode cX2_starts 83 = .ok (.invokevirtual 51, 3) := by decide +kernel
theorem dX2_starts_86 : decode cX2_starts 86 = .ok (.putfield 54, 3) := by decide +kernel
theorem dX2_starts_89 : decode cX2_starts 89 = .ok (.aload_n 0, 1) := by decide +kernel
theorem dX2_starts_90 : decode cX2_starts 90 = .ok (.iconst 0, 1) := by decide +kernel
theorem dX2_starts_91 : decode cX2_starts 91 = .ok (.putfield 57, 3) := by decide +kernel
theorem dX2_starts_94 : decode cX2_starts 94 = .ok (.iconst 1, 1) := by decide +kernel
theorem dX2_starts_95 : decode cX2_starts 95 = .ok (.ireturn, 1) := by decide +kernel
theorem dX2_firstClass_0 : decode cX2_firstClass 0 = .ok (.iconst (-1), 1) := by decide +kernel
theorem dX2_firstClass_1 : decode cX2_firstClass 1 = .ok (.istore_n 2, 1) := by decide +kernel
theorem dX2_firstClass_2 : decode cX2_firstClass 2 = .ok (.iconst 0, 1) := by decide +kernel
theorem dX2_firstClass_3 : decode cX2_firstClass 3 = .ok (.istore_n 3, 1) := by decide +kernel
theorem dX2_firstClass_4 : decode cX2_firstClass 4 = .ok (.iconst 0, 1) := by decide +kernel
theorem dX2_firstClass_5 : decode cX2_firstClass 5 = .ok (.istore 4, 2) := by decide +kernel
theorem dX2_firstClass_7 : decode cX2_firstClass 7 = .ok (.iload 4, 2) := by decide +kernel
theorem dX2_firstClass_9 : decode cX2_firstClass 9 = .ok (.aload_n 0, 1) := by decide +kernel
theorem dX2_firstClass_10 : decode cX2_firstClass 10 = .ok (.getfield 18, 3) := by decide +kernel
theorem dX2_firstClass_13 : decode cX2_firstClass 13 = .ok (.getfield 60, 3) := by decide +kernel
theorem dX2_firstClass_16 : decode cX2_firstClass 16 = .ok (.if_icmp .ge 81, 3) := by decide +kernel
theorem dX2_firstClass_19 : decode cX2_firstClass 19 = .ok (.aload_n 0, 1) := by decide +kernel
theorem dX2_firstClass_20 : decode cX2_firstClass 20 = .ok (.getfield 9, 3) := by decide +kernel
theorem dX2_firstClass_23 : decode cX2_firstClass 23 = .ok (.iload 4, 2) := by decide +kernel
theorem dX2_firstClass_25 : decode cX2_firstClass 25 = .ok (.dup2, 1) := by decide +kernel
theorem dX2_firstClass_26 : decode cX2_firstClass 26 = .ok (.iaload, 1) := by decide +kernel
theorem dX2_firstClass_27 : decode cX2_firstClass 27 = .ok (.iconst 1, 1) := by decide +kernel
theorem dX2_firstClass_28 : decode cX2_firstClass 28 = .ok (.iload_n 1, 1) := by decide +kernel
theorem dX2_firstClass_29 : decode cX2_firstClass 29 = .ok (.ishl, 1) := by decide +kernel
theorem dX2_firstClass_30 : decode cX2_firstClass 30 = .ok (.ior, 1) := by decide +kernel
theorem dX2_firstClass_31 : decode cX2_firstClass 31 = .ok (.iastore, 1) := by decide +kernel
theorem dX2_firstClass_32 : decode cX2_firstClass 32 = .ok (.aload_n 0, 1) := by decide +kernel
theorem dX2_firstClass_33 : decode cX2_firstClass 33 = .ok (.getfield 22, 3) := by decide +kernel
theorem dX2_firstClass_36 : decode cX2_firstClass 36 = .ok (.aload_n 0, 1) := by decide +kernel
theorem dX2_firstClass_37 : decode cX2_firstClass 37 = .ok (.getfield 9, 3) := by decide +kernel
theorem dX2_firstClass_40 : decode cX2_firstClass 40 = .ok (.invokevirtual 63, 3) := by decide +kernel
theorem dX2_firstClass_43 : decode cX2_firstClass 43 = .ok (.ifCond .eq 33, 3) := by decide +kernel
theorem dX2_firstClass_46 : decode cX2_firstClass 46 = .ok (.aload_n 0, 1) := by decide +kernel
theorem dX2_firstClass_47 : decode cX2_firstClass 47 = .ok (.getfield 22, 3) := by decide +kernel
theorem dX2_firstClass_50 : decode cX2_firstClass 50 = .ok (.aload_n 0, 1) := by decide +kernel
theorem dX2_firstClass_51 : decode cX2_firstClass 51 = .ok (.getfield 9, 3) := by decide +kernel
theorem dX2_firstClass_54 : decode cX2_firstClass 54 = .ok (.invokevirtual 51, 3) := by decide +kernel
theorem dX2_firstClass_57 : decode cX2_firstClass 57 = .ok (.istore 5, 2) := by decide +kernel
theorem dX2_firstClass_59 : decode cX2_firstClass 59 = .ok (.iload_n 2, 1) := by decide +kernel
theorem dX2_firstClass_60 : decode cX2_firstClass 60 = .ok (.iconst (-1), 1) := by decide +kernel
theorem dX2_firstClass_61 : decode cX2_firstClass 61 = .ok (.if_icmp .eq 9, 3) := by decide +kernel
theorem dX2_firstClass_64 : decode cX2_firstClass 64 = .ok (.iload 5, 2) := by decide +kernel
theorem dX2_firstClass_66 : decode cX2_firstClass 66 = .ok (.iload_n 3, 1) := by decide +kernel
theorem dX2_firstClass_67 : decode cX2_firstClass 67 = .ok (.if_icmp .ge 9, 3) := by decide +kernel
theorem dX2_firstClass_70 : decode cX2_firstClass 70 = .ok (.iload 4, 2) := by decide +kernel
theorem dX2_firstClass_72 : decode cX2_firstClass 72 = .ok (.istore_n 2, 1) := by decide +kernel
theorem dX2_firstClass_73 : decode cX2_firstClass 73 = .ok (.iload 5, 2) := by decide +kernel
theorem dX2_firstClass_75 : decode cX2_firstClass 75 = .ok (.istore_n 3, 1) := by decide +kernel
theorem dX2_firstClass_76 : decode cX2_firstClass 76 = .ok (.aload_n 0, 1) := by decide +kernel
theorem dX2_firstClass_77 : decode cX2_firstClass 77 = .ok (.getfield 9, 3) := by decide +kernel
theorem dX2_firstClass_80 : decode cX2_firstClass 80 = .ok (.iload 4, 2) := by decide +kernel
theorem dX2_firstClass_82 : decode cX2_firstClass 82 = .ok (.dup2, 1) := by decide +kernel
theorem dX2_firstClass_83 : decode cX2_firstClass 83 = .ok (.iaload, 1) := by decide +kernel
theorem dX2_firstClass_84 : decode cX2_firstClass 84 = .ok (.iconst 1, 1) := by decide +kernel
theorem dX2_firstClass_85 : decode cX2_firstClass 85 = .ok (.iload_n 1, 1) := by decide +kernel
theorem dX2_firstClass_86 : decode cX2_firstClass 86 = .ok (.ishl, 1) := by decide +kernel
theorem dX2_firstClass_87 : decode cX2_firstClass 87 = .ok (.iconst (-1), 1) := by decide +kernel
theorem dX2_firstClass_88 : decode cX2_firstClass 88 = .ok (.ixor, 1) := by decide +kernel
theorem dX2_firstClass_89 : decode cX2_firstClass 89 = .ok (.iand, 1) := by decide +kernel
theorem dX2_firstClass_90 : decode cX2_firstClass 90 = .ok (.iastore, 1) := by decide +kernel
theorem dX2_firstClass_91 : decode cX2_firstClass 91 = .ok (.iinc 4 1, 3) := by decide +kernel
theorem dX2_firstClass_94 : decode cX2_firstClass 94 = .ok (.goto (-87), 3) := by decide +kernel
theorem dX2_firstClass_97 : decode cX2_firstClass 97 = .ok (.iload_n 2, 1) := by decide +kernel
theorem dX2_firstClass_98 : decode cX2_firstClass 98 = .ok (.ireturn, 1) := by decide +kernel
theorem dX2_improve_0 : decode cX2_improve 0 = .ok (.aload_n 0, 1) := by decide +kernel
theorem dX2_improve_1 : decode cX2_improve 1 = .ok (.getfield 57, 3) := by decide +kernel
theorem dX2_improve_4 : decode cX2_improve 4 = .ok (.ldc 67, 2) := by decide +kernel
theorem dX2_improve_6 : decode cX2_improve 6 = .ok (.if_icmp .ge 30, 3) := by decide +kernel
theorem dX2_improve_9 : decode cX2_improve 9 = .ok (.aload_n 0, 1) := by decide +kernel
theorem dX2_improve_10 : decode cX2_improve 10 = .ok (.invokevirtual 68, 3) := by decide +kernel
theorem dX2_improve_13 : decode cX2_improve 13 = .ok (.ifCond .ne 10, 3) := by decide +kernel
theorem dX2_improve_16 : decode cX2_improve 16 = .ok (.aload_n 0, 1) := by decide +kernel
theorem dX2_improve_17 : decode cX2_improve 17 = .ok (.invokevirtual 72, 3) := by decide +kernel
theorem dX2_improve_20 : decode cX2_improve 20 = .ok (.ifCond .eq 16, 3) := by decide +kernel
theorem dX2_improve_23 : decode cX2_improve 23 = .ok (.aload_n 0, 1) := by decide +kernel
theorem dX2_improve_24 : decode cX2_improve 24 = .ok (.dup, 1) := by decide +kernel
theorem dX2_improve_25 : decode cX2_improve 25 = .ok (.getfield 57, 3) := by decide +kernel
theorem dX2_improve_28 : decode cX2_improve 28 = .ok (.iconst 1, 1) := by decide +kernel
theorem dX2_improve_29 : decode cX2_improve 29 = .ok (.iadd, 1) := by decide +kernel
theorem dX2_improve_30 : decode cX2_improve 30 = .ok (.putfield 57, 3) := by decide +kernel
theorem dX2_improve_33 : decode cX2_improve 33 = .ok (.goto (-33), 3) := by decide +kernel
theorem dX2_improve_36 : decode cX2_improve 36 = .ok (.return_, 1) := by decide +kernel
theorem dX2_stepsByMove_0 : decode cX2_stepsByMove 0 = .ok (.iconst 0, 1) := by decide +kernel
theorem dX2_stepsByMove_1 : decode cX2_stepsByMove 1 = .ok (.istore_n 1, 1) := by decide +kernel
theorem dX2_stepsByMove_2 : decode cX2_stepsByMove 2 = .ok (.iload_n 1, 1) := by decide +kernel
theorem dX2_stepsByMove_3 : decode cX2_stepsByMove 3 = .ok (.aload_n 0, 1) := by decide +kernel
theorem dX2_stepsByMove_4 : decode cX2_stepsByMove 4 = .ok (.getfield 18, 3) := by decide +kernel
theorem dX2_stepsByMove_7 : decode cX2_stepsByMove 7 = .ok (.getfield 32, 3) := by decide +kernel
theorem dX2_stepsByMove_10 : decode cX2_stepsByMove 10 = .ok (.if_icmp .ge 61, 3) := by decide +kernel
theorem dX2_stepsByMove_13 : decode cX2_stepsByMove 13 = .ok (.aload_n 0, 1) := by decide +kernel
theorem dX2_stepsByMove_14 : decode cX2_stepsByMove 14 = .ok (.getfield 15, 3) := by decide +kernel
theorem dX2_stepsByMove_17 : decode cX2_stepsByMove 17 = .ok (.iload_n 1, 1) := by decide +kernel
theorem dX2_stepsByMove_18 : decode cX2_stepsByMove 18 = .ok (.iaload, 1) := by decide +kernel
theorem dX2_stepsByMove_19 : decode cX2_stepsByMove 19 = .ok (.istore_n 2, 1) := by decide +kernel
theorem dX2_stepsByMove_20 : decode cX2_stepsByMove 20 = .ok (.iconst 0, 1) := by decide +kernel
theorem dX2_stepsByMove_21 : decode cX2_stepsByMove 21 = .ok (.istore_n 3, 1) := by decide +kernel
theorem dX2_stepsByMove_22 : decode cX2_stepsByMove 22 = .ok (.iload_n 3, 1) := by decide +kernel
theorem dX2_stepsByMove_23 : decode cX2_stepsByMove 23 = .ok (.aload_n 0, 1) := by decide +kernel
theorem dX2_stepsByMove_24 : decode cX2_stepsByMove 24 = .ok (.getfield 18, 3) := by decide +kernel
theorem dX2_stepsByMove_27 : decode cX2_stepsByMove 27 = .ok (.getfield 60, 3) := by decide +kernel
theorem dX2_stepsByMove_30 : decode cX2_stepsByMove 30 = .ok (.if_icmp .ge 35, 3) := by decide +kernel
theorem dX2_stepsByMove_33 : decode cX2_stepsByMove 33 = .ok (.iload_n 3, 1) := by decide +kernel
theorem dX2_stepsByMove_34 : decode cX2_stepsByMove 34 = .ok (.iload_n 2, 1) := by decide +kernel
theorem dX2_stepsByMove_35 : decode cX2_stepsByMove 35 = .ok (.if_icmp .eq 24, 3) := by decide +kernel
theorem dX2_stepsByMove_38 : decode cX2_stepsByMove 38 = .ok (.aload_n 0, 1) := by decide +kernel
theorem dX2_stepsByMove_39 : decode cX2_stepsByMove 39 = .ok (.iconst 1, 1) := by decide +kernel
theorem dX2_stepsByMove_40 : decode cX2_stepsByMove 40 = .ok (.iload_n 1, 1) := by decide +kernel
theorem dX2_stepsByMove_41 : decode cX2_stepsByMove 41 = .ok (.ishl, 1) := by decide +kernel
theorem dX2_stepsByMove_42 : decode cX2_stepsByMove 42 = .ok (.iload_n 2, 1) := by decide +kernel
theorem dX2_stepsByMove_43 : decode cX2_stepsByMove 43 = .ok (.iload_n 3, 1) := by decide +kernel
theorem dX2_stepsByMove_44 : decode cX2_stepsByMove 44 = .ok (.invokevirtual 75, 3) := by decide +kernel
theorem dX2_stepsByMove_47 : decode cX2_stepsByMove 47 = .ok (.ifCond .eq 12, 3) := by decide +kernel
theorem dX2_stepsByMove_50 : decode cX2_stepsByMove 50 = .ok (.aload_n 0, 1) := by decide +kernel
theorem dX2_stepsByMove_51 : decode cX2_stepsByMove 51 = .ok (.getfield 15, 3) := by decide +kernel
theorem dX2_stepsByMove_54 : decode cX2_stepsByMove 54 = .ok (.iload_n 1, 1) := by decide +kernel
theorem dX2_stepsByMove_55 : decode cX2_stepsByMove 55 = .ok (.iload_n 3, 1) := by decide +kernel
theorem dX2_stepsByMove_56 : decode cX2_stepsByMove 56 = .ok (.iastore, 1) := by decide +kernel
theorem dX2_stepsByMove_57 : decode cX2_stepsByMove 57 = .ok (.iconst 1, 1) := by decide +kernel
theorem dX2_stepsByMove_58 : decode cX2_stepsByMove 58 = .ok (.ireturn, 1) := by decide +kernel
theorem dX2_stepsByMove_59 : decode cX2_stepsByMove 59 = .ok (.iinc 3 1, 3) := by decide +kernel
theorem dX2_stepsByMove_62 : decode cX2_stepsByMove 62 = .ok (.goto (-40), 3) := by decide +kernel
theorem dX2_stepsByMove_65 : decode cX2_stepsByMove 65 = .ok (.iinc 1 1, 3) := by decide +kernel
theorem dX2_stepsByMove_68 : decode cX2_stepsByMove 68 = .ok (.goto (-66), 3) := by decide +kernel
theorem dX2_stepsByMove_71 : decode cX2_stepsByMove 71 = .ok (.iconst 0, 1) := by decide +kernel
theorem dX2_stepsByMove_72 : decode cX2_stepsByMove 72 = .ok (.ireturn, 1) := by decide +kernel
theorem dX2_stepsBySwap_0 : decode cX2_stepsBySwap 0 = .ok (.iconst 0, 1) := by decide +kernel
theorem dX2_stepsBySwap_1 : decode cX2_stepsBySwap 1 = .ok (.istore_n 1, 1) := by decide +kernel
theorem dX2_stepsBySwap_2 : decode cX2_stepsBySwap 2 = .ok (.iload_n 1, 1) := by decide +kernel
theorem dX2_stepsBySwap_3 : decode cX2_stepsBySwap 3 = .ok (.aload_n 0, 1) := by decide +kernel
theorem dX2_stepsBySwap_4 : decode cX2_stepsBySwap 4 = .ok (.getfield 18, 3) := by decide +kernel
theorem dX2_stepsBySwap_7 : decode cX2_stepsBySwap 7 = .ok (.getfield 32, 3) := by decide +kernel
theorem dX2_stepsBySwap_10 : decode cX2_stepsBySwap 10 = .ok (.if_icmp .ge 85, 3) := by decide +kernel
theorem dX2_stepsBySwap_13 : decode cX2_stepsBySwap 13 = .ok (.iload_n 1, 1) := by decide +kernel
theorem dX2_stepsBySwap_14 : decode cX2_stepsBySwap 14 = .ok (.iconst 1, 1) := by decide +kernel
theorem dX2_stepsBySwap_15 : decode cX2_stepsBySwap 15 = .ok (.iadd, 1) := by decide +kernel
theorem dX2_stepsBySwap_16 : decode cX2_stepsBySwap 16 = .ok (.istore_n 2, 1) := by decide +kernel
theorem dX2_stepsBySwap_17 : decode cX2_stepsBySwap 17 = .ok (.iload_n 2, 1) := by decide +kernel
theorem dX2_stepsBySwap_18 : decode cX2_stepsBySwap 18 = .ok (.aload_n 0, 1) := by decide +kernel
theorem dX2_stepsBySwap_19 : decode cX2_stepsBySwap 19 = .ok (.getfield 18, 3) := by decide +kernel
theorem dX2_stepsBySwap_22 : decode cX2_stepsBySwap 22 = .ok (.getfield 32, 3) := by decide +kernel
theorem dX2_stepsBySwap_25 : decode cX2_stepsBySwap 25 = .ok (.if_icmp .ge 64, 3) := by decide +kernel
theorem dX2_stepsBySwap_28 : decode cX2_stepsBySwap 28 = .ok (.aload_n 0, 1) := by decide +kernel
theorem dX2_stepsBySwap_29 : decode cX2_stepsBySwap 29 = .ok (.getfield 15, 3) := by decide +kernel
theorem dX2_stepsBySwap_32 : decode cX2_stepsBySwap 32 = .ok (.iload_n 1, 1) := by decide +kernel
theorem dX2_stepsBySwap_33 : decode cX2_stepsBySwap 33 = .ok (.iaload, 1) := by decide +kernel
theorem dX2_stepsBySwap_34 : decode cX2_stepsBySwap 34 = .ok (.istore_n 3, 1) := by decide +kernel
theorem dX2_stepsBySwap_35 : decode cX2_stepsBySwap 35 = .ok (.aload_n 0, 1) := by decide +kernel
theorem dX2_stepsBySwap_36 : decode cX2_stepsBySwap 36 = .ok (.getfield 15, 3) := by decide +kernel
theorem dX2_stepsBySwap_39 : decode cX2_stepsBySwap 39 = .ok (.iload_n 2, 1) := by decide +kernel
theorem dX2_stepsBySwap_40 : decode cX2_stepsBySwap 40 = .ok (.iaload, 1) := by decide +kernel
theorem dX2_stepsBySwap_41 : decode cX2_stepsBySwap 41 = .ok (.istore 4, 2) := by decide +kernel
theorem dX2_stepsBySwap_43 : decode cX2_stepsBySwap 43 = .ok (.iload_n 3, 1) := by decide +kernel
theorem dX2_stepsBySwap_44 : decode cX2_stepsBySwap 44 = .ok (.iload 4, 2) := by decide +kernel
theorem dX2_stepsBySwap_46 : decode cX2_stepsBySwap 46 = .ok (.if_icmp .eq 37, 3) := by decide +kernel
theorem dX2_stepsBySwap_49 : decode cX2_stepsBySwap 49 = .ok (.aload_n 0, 1) := by decide +kernel
theorem dX2_stepsBySwap_50 : decode cX2_stepsBySwap 50 = .ok (.iconst 1, 1) := by decide +kernel
theorem dX2_stepsBySwap_51 : decode cX2_stepsBySwap 51 = .ok (.iload_n 1, 1) := by decide +kernel
theorem dX2_stepsBySwap_52 : decode cX2_stepsBySwap 52 = .ok (.ishl, 1) := by decide +kernel
theorem dX2_stepsBySwap_53 : decode cX2_stepsBySwap 53 = .ok (.iconst 1, 1) := by decide +kernel
theorem dX2_stepsBySwap_54 : decode cX2_stepsBySwap 54 = .ok (.iload_n 2, 1) := by decide +kernel
theorem dX2_stepsBySwap_55 : decode cX2_stepsBySwap 55 = .ok (.ishl, 1) := by decide +kernel
theorem dX2_stepsBySwap_56 : decode cX2_stepsBySwap 56 = .ok (.ior, 1) := by decide +kernel
theorem dX2_stepsBySwap_57 : decode cX2_stepsBySwap 57 = .ok (.iload_n 3, 1) := by decide +kernel
theorem dX2_stepsBySwap_58 : decode cX2_stepsBySwap 58 = .ok (.iload 4, 2) := by decide +kernel
theorem dX2_stepsBySwap_60 : decode cX2_stepsBySwap 60 = .ok (.invokevirtual 75, 3) := by decide +kernel
theorem dX2_stepsBySwap_63 : decode cX2_stepsBySwap 63 = .ok (.ifCond .eq 20, 3) := by decide +kernel
theorem dX2_stepsBySwap_66 : decode cX2_stepsBySwap 66 = .ok (.aload_n 0, 1) := by decide +kernel
theorem dX2_stepsBySwap_67 : decode cX2_stepsBySwap 67 = .ok (.getfield 15, 3) := by decide +kernel
theorem dX2_stepsBySwap_70 : decode cX2_stepsBySwap 70 = .ok (.iload_n 1, 1) := by decide +kernel
theorem dX2_stepsBySwap_71 : decode cX2_stepsBySwap 71 = .ok (.iload 4, 2) := by decide +kernel
theorem dX2_stepsBySwap_73 : decode cX2_stepsBySwap 73 = .ok (.iastore, 1) := by decide +kernel
theorem dX2_stepsBySwap_74 : decode cX2_stepsBySwap 74 = .ok (.aload_n 0, 1) := by decide +kernel
theorem dX2_stepsBySwap_75 : decode cX2_stepsBySwap 75 = .ok (.getfield 15, 3) := by decide +kernel
theorem dX2_stepsBySwap_78 : decode cX2_stepsBySwap 78 = .ok (.iload_n 2, 1) := by decide +kernel
theorem dX2_stepsBySwap_79 : decode cX2_stepsBySwap 79 = .ok (.iload_n 3, 1) := by decide +kernel
theorem dX2_stepsBySwap_80 : decode cX2_stepsBySwap 80 = .ok (.iastore, 1) := by decide +kernel
theorem dX2_stepsBySwap_81 : decode cX2_stepsBySwap 81 = .ok (.iconst 1, 1) := by decide +kernel
theorem dX2_stepsBySwap_82 : decode cX2_stepsBySwap 82 = .ok (.ireturn, 1) := by decide +kernel
theorem dX2_stepsBySwap_83 : decode cX2_stepsBySwap 83 = .ok (.iinc 2 1, 3) := by decide +kernel
theorem dX2_stepsBySwap_86 : decode cX2_stepsBySwap 86 = .ok (.goto (-69), 3) := by decide +kernel
theorem dX2_stepsBySwap_89 : decode cX2_stepsBySwap 89 = .ok (.iinc 1 1, 3) := by decide +kernel
theorem dX2_stepsBySwap_92 : decode cX2_stepsBySwap 92 = .ok (.goto (-90), 3) := by decide +kernel
theorem dX2_stepsBySwap_95 : decode cX2_stepsBySwap 95 = .ok (.iconst 0, 1) := by decide +kernel
theorem dX2_stepsBySwap_96 : decode cX2_stepsBySwap 96 = .ok (.ireturn, 1) := by decide +kernel
theorem dX2_moveBetters_0 : decode cX2_moveBetters 0 = .ok (.aload_n 0, 1) := by decide +kernel
theorem dX2_moveBetters_1 : decode cX2_moveBetters 1 = .ok (.getfield 9, 3) := by decide +kernel
theorem dX2_moveBetters_4 : decode cX2_moveBetters 4 = .ok (.iload_n 2, 1) := by decide +kernel
theorem dX2_moveBetters_5 : decode cX2_moveBetters 5 = .ok (.dup2, 1) := by decide +kernel
theorem dX2_moveBetters_6 : decode cX2_moveBetters 6 = .ok (.iaload, 1) := by decide +kernel
theorem dX2_moveBetters_7 : decode cX2_moveBetters 7 = .ok (.iload_n 1, 1) := by decide +kernel
theorem dX2_moveBetters_8 : decode cX2_moveBetters 8 = .ok (.ixor, 1) := by decide +kernel
theorem dX2_moveBetters_9 : decode cX2_moveBetters 9 = .ok (.iastore, 1) := by decide +kernel
theorem dX2_moveBetters_10 : decode cX2_moveBetters 10 = .ok (.aload_n 0, 1) := by decide +kernel
theorem dX2_moveBetters_11 : decode cX2_moveBetters 11 = .ok (.getfield 9, 3) := by decide +kernel
theorem dX2_moveBetters_14 : decode cX2_moveBetters 14 = .ok (.iload_n 3, 1) := by decide +kernel
theorem dX2_moveBetters_15 : decode cX2_moveBetters 15 = .ok (.dup2, 1) := by decide +kernel
theorem dX2_moveBetters_16 : decode cX2_moveBetters 16 = .ok (.iaload, 1) := by decide +kernel
theorem dX2_moveBetters_17 : decode cX2_moveBetters 17 = .ok (.iload_n 1, 1) := by decide +kernel
theorem dX2_moveBetters_18 : decode cX2_moveBetters 18 = .ok (.ixor, 1) := by decide +kernel
theorem dX2_moveBetters_19 : decode cX2_moveBetters 19 = .ok (.iastore, 1) := by decide +kernel
theorem dX2_moveBetters_20 : decode cX2_moveBetters 20 = .ok (.aload_n 0, 1) := by decide +kernel
theorem dX2_moveBetters_21 : decode cX2_moveBetters 21 = .ok (.getfield 22, 3) := by decide +kernel
theorem dX2_moveBetters_24 : decode cX2_moveBetters 24 = .ok (.aload_n 0, 1) := by decide +kernel
theorem dX2_moveBetters_25 : decode cX2_moveBetters 25 = .ok (.getfield 9, 3) := by decide +kernel
theorem dX2_moveBetters_28 : decode cX2_moveBetters 28 = .ok (.invokevirtual 42, 3) := by decide +kernel
theorem dX2_moveBetters_31 : decode cX2_moveBetters 31 = .ok (.istore 4, 2) := by decide +kernel
theorem dX2_moveBetters_33 : decode cX2_moveBetters 33 = .ok (.iload 4, 2) := by decide +kernel
theorem dX2_moveBetters_35 : decode cX2_moveBetters 35 = .ok (.aload_n 0, 1) := by decide +kernel
theorem dX2_moveBetters_36 : decode cX2_moveBetters 36 = .ok (.getfield 48, 3) := by decide +kernel
theorem dX2_moveBetters_39 : decode cX2_moveBetters 39 = .ok (.if_icmp .gt 62, 3) := by decide +kernel
theorem dX2_moveBetters_42 : decode cX2_moveBetters 42 = .ok (.aload_n 0, 1) := by decide +kernel
theorem dX2_moveBetters_43 : decode cX2_moveBetters 43 = .ok (.getfield 22, 3) := by decide +kernel
theorem dX2_moveBetters_46 : decode cX2_moveBetters 46 = .ok (.aload_n 0, 1) := by decide +kernel
theorem dX2_moveBetters_47 : decode cX2_moveBetters 47 = .ok (.getfield 9, 3) := by decide +kernel
theorem dX2_moveBetters_50 : decode cX2_moveBetters 50 = .ok (.invokevirtual 63, 3) := by decide +kernel
theorem dX2_moveBetters_53 : decode cX2_moveBetters 53 = .ok (.ifCond .eq 48, 3) := by decide +kernel
theorem dX2_moveBetters_56 : decode cX2_moveBetters 56 = .ok (.aload_n 0, 1) := by decide +kernel
theorem dX2_moveBetters_57 : decode cX2_moveBetters 57 = .ok (.getfield 22, 3) := by decide +kernel
theorem dX2_moveBetters_60 : decode cX2_moveBetters 60 = .ok (.aload_n 0, 1) := by decide +kernel
theorem dX2_moveBetters_61 : decode cX2_moveBetters 61 = .ok (.getfield 9, 3) := by decide +kernel
theorem dX2_moveBetters_64 : decode cX2_moveBetters 64 = .ok (.invokevirtual 51, 3) := by decide +kernel
theorem dX2_moveBetters_67 : decode cX2_moveBetters 67 = .ok (.istore 5, 2) := by decide +kernel
theorem dX2_moveBetters_69 : decode cX2_moveBetters 69 = .ok (.iload 4, 2) := by decide +kernel
theorem dX2_moveBetters_71 : decode cX2_moveBetters 71 = .ok (.aload_n 0, 1) := by decide +kernel
theorem dX2_moveBetters_72 : decode cX2_moveBetters 72 = .ok (.getfield 48, 3) := by decide +kernel
theorem dX2_moveBetters_75 : decode cX2_moveBetters 75 = .ok (.if_icmp .lt 12, 3) := by decide +kernel
theorem dX2_moveBetters_78 : decode cX2_moveBetters 78 = .ok (.iload 5, 2) := by decide +kernel
theorem dX2_moveBetters_80 : decode cX2_moveBetters 80 = .ok (.aload_n 0, 1) := by decide +kernel
theorem dX2_moveBetters_81 : decode cX2_moveBetters 81 = .ok (.getfield 54, 3) := by decide +kernel
theorem dX2_moveBetters_84 : decode cX2_moveBetters 84 = .ok (.if_icmp .ge 17, 3) := by decide +kernel
theorem dX2_moveBetters_87 : decode cX2_moveBetters 87 = .ok (.aload_n 0, 1) := by decide +kernel
theorem dX2_moveBetters_88 : decode cX2_moveBetters 88 = .ok (.iload 4, 2) := by decide +kernel
theorem dX2_moveBetters_90 : decode cX2_moveBetters 90 = .ok (.putfield 48, 3) := by decide +kernel
theorem dX2_moveBetters_93 : decode cX2_moveBetters 93 = .ok (.aload_n 0, 1) := by decide +kernel
theorem dX2_moveBetters_94 : decode cX2_moveBetters 94 = .ok (.iload 5, 2) := by decide +kernel
theorem dX2_moveBetters_96 : decode cX2_moveBetters 96 = .ok (.putfield 54, 3) := by decide +kernel
theorem dX2_moveBetters_99 : decode cX2_moveBetters 99 = .ok (.iconst 1, 1) := by decide +kernel
theorem dX2_moveBetters_100 : decode cX2_moveBetters 100 = .ok (.ireturn, 1) := by decide +kernel
theorem dX2_moveBetters_101 : decode cX2_moveBetters 101 = .ok (.aload_n 0, 1) := by decide +kernel
theorem dX2_moveBetters_102 : decode cX2_moveBetters 102 = .ok (.getfield 9, 3) := by decide +kernel
theorem dX2_moveBetters_105 : decode cX2_moveBetters 105 = .ok (.iload_n 2, 1) := by decide +kernel
theorem dX2_moveBetters_106 : decode cX2_moveBetters 106 = .ok (.dup2, 1) := by decide +kernel
theorem dX2_moveBetters_107 : decode cX2_moveBetters 107 = .ok (.iaload, 1) := by decide +kernel
theorem dX2_moveBetters_108 : decode cX2_moveBetters 108 = .ok (.iload_n 1, 1) := by decide +kernel
theorem dX2_moveBetters_109 : decode cX2_moveBetters 109 = .ok (.ixor, 1) := by decide +kernel
theorem dX2_moveBetters_110 : decode cX2_moveBetters 110 = .ok (.iastore, 1) := by decide +kernel
theorem dX2_moveBetters_111 : decode cX2_moveBetters 111 = .ok (.aload_n 0, 1) := by decide +kernel
theorem dX2_moveBetters_112 : decode cX2_moveBetters 112 = .ok (.getfield 9, 3) := by decide +kernel
theorem dX2_moveBetters_115 : decode cX2_moveBetters 115 = .ok (.iload_n 3, 1) := by decide +kernel
theorem dX2_moveBetters_116 : decode cX2_moveBetters 116 = .ok (.dup2, 1) := by decide +kernel
theorem dX2_moveBetters_117 : decode cX2_moveBetters 117 = .ok (.iaload, 1) := by decide +kernel
theorem dX2_moveBetters_118 : decode cX2_moveBetters 118 = .ok (.iload_n 1, 1) := by decide +kernel
theorem dX2_moveBetters_119 : decode cX2_moveBetters 119 = .ok (.ixor, 1) := by decide +kernel
theorem dX2_moveBetters_120 : decode cX2_moveBetters 120 = .ok (.iastore, 1) := by decide +kernel
theorem dX2_moveBetters_121 : decode cX2_moveBetters 121 = .ok (.iconst 0, 1) := by decide +kernel
theorem dX2_moveBetters_122 : decode cX2_moveBetters 122 = .ok (.ireturn, 1) := by decide +kernel
theorem dX3_init_0 : decode cX3_init 0 = .ok (.aload_n 0, 1) := by decide +kernel
theorem dX3_init_1 : decode cX3_init 1 = .ok (.invokespecial 3, 3) := by decide +kernel
theorem dX3_init_4 : decode cX3_init 4 = .ok (.aload_n 0, 1) := by decide +kernel
theorem dX3_init_5 : decode cX3_init 5 = .ok (.bipush 6, 2) := by decide +kernel
theorem dX3_init_7 : decode cX3_init 7 = .ok (.newarray .int, 2) := by decide +kernel
theorem dX3_init_9 : decode cX3_init 9 = .ok (.putfield 11, 3) := by decide +kernel
theorem dX3_init_12 : decode cX3_init 12 = .ok (.aload_n 0, 1) := by decide +kernel
theorem dX3_init_13 : decode cX3_init 13 = .ok (.iconst 3, 1) := by decide +kernel
theorem dX3_init_14 : decode cX3_init 14 = .ok (.newarray .int, 2) := by decide +kernel
theorem dX3_init_16 : decode cX3_init 16 = .ok (.putfield 15, 3) := by decide +kernel
theorem dX3_init_19 : decode cX3_init 19 = .ok (.aload_n 0, 1) := by decide +kernel
theorem dX3_init_20 : decode cX3_init 20 = .ok (.iconst 3, 1) := by decide +kernel
theorem dX3_init_21 : decode cX3_init 21 = .ok (.newarray .int, 2) := by decide +kernel
theorem dX3_init_23 : decode cX3_init 23 = .ok (.putfield 18, 3) := by decide +kernel
theorem dX3_init_26 : decode cX3_init 26 = .ok (.aload_n 0, 1) := by decide +kernel
theorem dX3_init_27 : decode cX3_init 27 = .ok (.bipush 6, 2) := by decide +kernel
theorem dX3_init_29 : decode cX3_init 29 = .ok (.newarray .int, 2) := by decide +kernel
theorem dX3_init_31 : decode cX3_init 31 = .ok (.putfield 21, 3) := by decide +kernel
theorem dX3_init_34 : decode cX3_init 34 = .ok (.aload_n 0, 1) := by decide +kernel
theorem dX3_init_35 : decode cX3_init 35 = .ok (.bipush 6, 2) := by decide +kernel
theorem dX3_init_37 : decode cX3_init 37 = .ok (.newarray .int, 2) := by decide +kernel
theorem dX3_init_39 : decode cX3_init 39 = .ok (.putfield 24, 3) := by decide +kernel
theorem dX3_init_42 : decode cX3_init 42 = .ok (.return_, 1) := by decide +kernel
theorem dX3_add_0 : decode cX3_add 0 = .ok (.aload_n 0, 1) := by decide +kernel
theorem dX3_add_1 : decode cX3_add 1 = .ok (.getfield 27, 3) := by decide +kernel
theorem dX3_add_4 : decode cX3_add 4 = .ok (.bipush 6, 2) := by decide +kernel
theorem dX3_add_6 : decode cX3_add 6 = .ok (.if_icmp .lt 5, 3) := by decide +kernel
theorem dX3_add_9 : decode cX3_add 9 = .ok (.iconst (-1), 1) := by decide +kernel
theorem dX3_add_10 : decode cX3_add 10 = .ok (.ireturn, 1) := by decide +kernel
theorem dX3_add_11 : decode cX3_add 11 = .ok (.aload_n 0, 1) := by decide +kernel
theorem dX3_add_12 : decode cX3_add 12 = .ok (.getfield 11, 3) := by decide +kernel
theorem dX3_add_15 : decode cX3_add 15 = .ok (.aload_n 0, 1) := by decide +kernel
theorem dX3_add_16 : decode cX3_add 16 = .ok (.getfield 27, 3) := by decide +kernel
theorem dX3_add_19 : decode cX3_add 19 = .ok (.iload_n 1, 1) := by decide +kernel
theorem dX3_add_20 : decode cX3_add 20 = .ok (.iastore, 1) := by decide +kernel
theorem dX3_add_21 : decode cX3_add 21 = .ok (.aload_n 0, 1) := by decide +kernel
theorem dX3_add_22 : decode cX3_add 22 = .ok (.dup, 1) := by decide +kernel
theorem dX3_add_23 : decode cX3_add 23 = .ok (.getfield 27, 3) := by decide +kernel
theorem dX3_add_26 : decode cX3_add 26 = .ok (.iconst 1, 1) := by decide +kernel
theorem dX3_add_27 : decode cX3_add 27 = .ok (.iadd, 1) := by decide +kernel
theorem dX3_add_28 : decode cX3_add 28 = .ok (.putfield 27, 3) := by decide +kernel
theorem dX3_add_31 : decode cX3_add 31 = .ok (.aload_n 0, 1) := by decide +kernel
theorem dX3_add_32 : decode cX3_add 32 = .ok (.getfield 27, 3) := by decide +kernel
theorem dX3_add_35 : decode cX3_add 35 = .ok (.iconst 1, 1) := by decide +kernel
theorem dX3_add_36 : decode cX3_add 36 = .ok (.isub, 1) := by decide +kernel
theorem dX3_add_37 : decode cX3_add 37 = .ok (.ireturn, 1) := by decide +kernel
theorem dX3_clear_0 : decode cX3_clear 0 = .ok (.aload_n 0, 1) := by decide +kernel
theorem dX3_clear_1 : decode cX3_clear 1 = .ok (.getfield 15, 3) := by decide +kernel
theorem dX3_clear_4 : decode cX3_clear 4 = .ok (.iconst 0, 1) := by decide +kernel
theorem dX3_clear_5 : decode cX3_clear 5 = .ok (.invokestatic 31, 3) := by decide +kernel
theorem dX3_clear_8 : decode cX3_clear 8 = .ok (.return_, 1) := by decide +kernel
theorem dX3_addNeed_0 : decode cX3_addNeed 0 = .ok (.iload_n 1, 1) := by decide +kernel
theorem dX3_addNeed_1 : decode cX3_addNeed 1 = .ok (.ifCond .lt 18, 3) := by decide +kernel
theorem dX3_addNeed_4 : decode cX3_addNeed 4 = .ok (.iload_n 1, 1) := by decide +kernel
theorem dX3_addNeed_5 : decode cX3_addNeed 5 = .ok (.iconst 3, 1) := by decide +kernel
theorem dX3_addNeed_6 : decode cX3_addNeed 6 = .ok (.if_icmp .ge 13, 3) := by decide +kernel
theorem dX3_addNeed_9 : decode cX3_addNeed 9 = .ok (.aload_n 0, 1) := by decide +kernel
theorem dX3_addNeed_10 : decode cX3_addNeed 10 = .ok (.getfield 15, 3) := by decide +kernel
theorem dX3_addNeed_13 : decode cX3_addNeed 13 = .ok (.iload_n 1, 1) := by decide +kernel
theorem dX3_addNeed_14 : decode cX3_addNeed 14 = .ok (.dup2, 1) := by decide +kernel
theorem dX3_addNeed_15 : decode cX3_addNeed 15 = .ok (.iaload, 1) := by decide +kernel
theorem dX3_addNeed_16 : decode cX3_addNeed 16 = .ok (.iload_n 2, 1) := by decide +kernel
theorem dX3_addNeed_17 : decode cX3_addNeed 17 = .ok (.iadd, 1) := by decide +kernel
theorem dX3_addNeed_18 : decode cX3_addNeed 18 = .ok (.iastore, 1) := by decide +kernel
theorem dX3_addNeed_19 : decode cX3_addNeed 19 = .ok (.return_, 1) := by decide +kernel
theorem dX3_divide_0 : decode cX3_divide 0 = .ok (.iconst 1, 1) := by decide +kernel
theorem dX3_divide_1 : decode cX3_divide 1 = .ok (.istore_n 2, 1) := by decide +kernel
theorem dX3_divide_2 : decode cX3_divide 2 = .ok (.iconst 0, 1) := by decide +kernel
theorem dX3_divide_3 : decode cX3_divide 3 = .ok (.istore_n 3, 1) := by decide +kernel
theorem dX3_divide_4 : decode cX3_divide 4 = .ok (.iload_n 3, 1) := by decide +kernel
theorem dX3_divide_5 : decode cX3_divide 5 = .ok (.aload_n 0, 1) := by decide +kernel
theorem dX3_divide_6 : decode cX3_divide 6 = .ok (.getfield 27, 3) := by decide +kernel
theorem dX3_divide_9 : decode cX3_divide 9 = .ok (.if_icmp .ge 13, 3) := by decide +kernel
theorem dX3_divide_12 : decode cX3_divide 12 = .ok (.iload_n 2, 1) := by decide +kernel
theorem dX3_divide_13 : decode cX3_divide 13 = .ok (.iload_n 1, 1) := by decide +kernel
theorem dX3_divide_14 : decode cX3_divide 14 = .ok (.imul, 1) := by decide +kernel
theorem dX3_divide_15 : decode cX3_divide 15 = .ok (.istore_n 2, 1) := by decide +kernel
theorem dX3_divide_16 : decode cX3_divide 16 = .ok (.iinc 3 1, 3) := by decide +kernel
theorem dX3_divide_19 : decode cX3_divide 19 = .ok (.goto (-15), 3) := by decide +kernel
theorem dX3_divide_22 : decode cX3_divide 22 = .ok (.iconst 0, 1) := by decide +kernel
theorem dX3_divide_23 : decode cX3_divide 23 = .ok (.istore_n 3, 1) := by decide +kernel
theorem dX3_divide_24 : decode cX3_divide 24 = .ok (.iload_n 3, 1) := by decide +kernel
theorem dX3_divide_25 : decode cX3_divide 25 = .ok (.iload_n 2, 1) := by decide +kernel
theorem dX3_divide_26 : decode cX3_divide 26 = .ok (.if_icmp .ge 53, 3) := by decide +kernel
theorem dX3_divide_29 : decode cX3_divide 29 = .ok (.aload_n 0, 1) := by decide +kernel
theorem dX3_divide_30 : decode cX3_divide 30 = .ok (.iload_n 3, 1) := by decide +kernel
theorem dX3_divide_31 : decode cX3_divide 31 = .ok (.iload_n 1, 1) := by decide +kernel
theorem dX3_divide_32 : decode cX3_divide 32 = .ok (.invokevirtual 37, 3) := by decide +kernel
theorem dX3_divide_35 : decode cX3_divide 35 = .ok (.istore 4, 2) := by decide +kernel
theorem dX3_divide_37 : decode cX3_divide 37 = .ok (.iload_n 3, 1) := by decide +kernel
theorem dX3_divide_38 : decode cX3_divide 38 = .ok (.ifCond .eq 12, 3) := by decide +kernel
theorem dX3_divide_41 : decode cX3_divide 41 = .ok (.iload 4, 2) := by decide +kernel
theorem dX3_divide_43 : decode cX3_divide 43 = .ok (.aload_n 0, 1) := by decide +kernel
theorem dX3_divide_44 : decode cX3_divide 44 = .ok (.getfield 41, 3) := by decide +kernel
theorem dX3_divide_47 : decode cX3_divide 47 = .ok (.if_icmp .ge 26, 3) := by decide +kernel
theorem dX3_divide_50 : decode cX3_divide 50 = .ok (.aload_n 0, 1) := by decide +kernel
theorem dX3_divide_51 : decode cX3_divide 51 = .ok (.iload 4, 2) := by decide +kernel
theorem dX3_divide_53 : decode cX3_divide 53 = .ok (.putfield 41, 3) := by decide +kernel
theorem dX3_divide_56 : decode cX3_divide 56 = .ok (.aload_n 0, 1) := by decide +kernel
theorem dX3_divide_57 : decode cX3_divide 57 = .ok (.getfield 21, 3) := by decide +kernel
theorem dX3_divide_60 : decode cX3_divide 60 = .ok (.iconst 0, 1) := by decide +kernel
theorem dX3_divide_61 : decode cX3_divide 61 = .ok (.aload_n 0, 1) := by decide +kernel
theorem dX3_divide_62 : decode cX3_divide 62 = .ok (.getfield 24, 3) := by decide +kernel
theorem dX3_divide_65 : decode cX3_divide 65 = .ok (.iconst 0, 1) := by decide +kernel
theorem dX3_divide_66 : decode cX3_divide 66 = .ok (.aload_n 0, 1) := by decide +kernel
theorem dX3_divide_67 : decode cX3_divide 67 = .ok (.getfield 27, 3) := by decide +kernel
theorem dX3_divide_70 : decode cX3_divide 70 = .ok (.invokestatic 44, 3) := by decide +kernel
theorem dX3_divide_73 : decode cX3_divide 73 = .ok (.iinc 3 1, 3) := by decide +kernel
theorem dX3_divide_76 : decode cX3_divide 76 = .ok (.goto (-52), 3) := by decide +kernel
theorem dX3_divide_79 : decode cX3_divide 79 = .ok (.return_, 1) := by decide +kernel
theorem dX3_lackOfWay_0 : decode cX3_lackOfWay 0 = .ok (.aload_n 0, 1) := by decide +kernel
theorem dX3_lackOfWay_1 : decode cX3_lackOfWay 1 = .ok (.getfield 15, 3) := by decide +kernel
theorem dX3_lackOfWay_4 : decode cX3_lackOfWay 4 = .ok (.iconst 0, 1) := by decide +kernel
theorem dX3_lackOfWay_5 : decode cX3_lackOfWay 5 = .ok (.aload_n 0, 1) := by decide +kernel
theorem dX3_lackOfWay_6 : decode cX3_lackOfWay 6 = .ok (.getfield 18, 3) := by decide +kernel
theorem dX3_lackOfWay_9 : decode cX3_lackOfWay 9 = .ok (.iconst 0, 1) := by decide +kernel
theorem dX3_lackOfWay_10 : decode cX3_lackOfWay 10 = .ok (.iconst 3, 1) := by decide +kernel
theorem dX3_lackOfWay_11 : decode cX3_lackOfWay 11 = .ok (.invokestatic 44, 3) := by decide +kernel
theorem dX3_lackOfWay_14 : decode cX3_lackOfWay 14 = .ok (.iload_n 1, 1) := by decide +kernel
theorem dX3_lackOfWay_15 : decode cX3_lackOfWay 15 = .ok (.istore_n 3, 1) := by decide +kernel
theorem dX3_lackOfWay_16 : decode cX3_lackOfWay 16 = .ok (.aload_n 0, 1) := by decide +kernel
theorem dX3_lackOfWay_17 : decode cX3_lackOfWay 17 = .ok (.getfield 27, 3) := by decide +kernel
theorem dX3_lackOfWay_20 : decode cX3_lackOfWay 20 = .ok (.iconst 1, 1) := by decide +kernel
theorem dX3_lackOfWay_21 : decode cX3_lackOfWay 21 = .ok (.isub, 1) := by decide +kernel
theorem dX3_lackOfWay_22 : decode cX3_lackOfWay 22 = .ok (.istore 4, 2) := by decide +kernel
theorem dX3_lackOfWay_24 : decode cX3_lackOfWay 24 = .ok (.iload 4, 2) := by decide +kernel
theorem dX3_lackOfWay_26 : decode cX3_lackOfWay 26 = .ok (.ifCond .lt 48, 3) := by decide +kernel
theorem dX3_lackOfWay_29 : decode cX3_lackOfWay 29 = .ok (.iload_n 2, 1) := by decide +kernel
theorem dX3_lackOfWay_30 : decode cX3_lackOfWay 30 = .ok (.ifCond .le 44, 3) := by decide +kernel
theorem dX3_lackOfWay_33 : decode cX3_lackOfWay 33 = .ok (.iload_n 3, 1) := by decide +kernel
theorem dX3_lackOfWay_34 : decode cX3_lackOfWay 34 = .ok (.iload_n 2, 1) := by decide +kernel
theorem dX3_lackOfWay_35 : decode cX3_lackOfWay 35 = .ok (.irem, 1) := by decide +kernel
theorem dX3_lackOfWay_36 : decode cX3_lackOfWay 36 = .ok (.istore 5, 2) := by decide +kernel
theorem dX3_lackOfWay_38 : decode cX3_lackOfWay 38 = .ok (.iload_n 3, 1) := by decide +kernel
theorem dX3_lackOfWay_39 : decode cX3_lackOfWay 39 = .ok (.iload_n 2, 1) := by decide +kernel
theorem dX3_lackOfWay_40 : decode cX3_lackOfWay 40 = .ok (.idiv, 1) := by decide +kernel
theorem dX3_lackOfWay_41 : decode cX3_lackOfWay 41 = .ok (.istore_n 3, 1) := by decide +kernel
theorem dX3_lackOfWay_42 : decode cX3_lackOfWay 42 = .ok (.aload_n 0, 1) := by decide +kernel
theorem dX3_lackOfWay_43 : decode cX3_lackOfWay 43 = .ok (.getfield 21, 3) := by decide +kernel
theorem dX3_lackOfWay_46 : decode cX3_lackOfWay 46 = .ok (.iload 4, 2) := by decide +kernel
theorem dX3_lackOfWay_48 : decode cX3_lackOfWay 48 = .ok (.iload 5, 2) := by decide +kernel
theorem dX3_lackOfWay_50 : decode cX3_lackOfWay 50 = .ok (.iastore, 1) := by decide +kernel
theorem dX3_lackOfWay_51 : decode cX3_lackOfWay 51 = .ok (.aload_n 0, 1) := by decide +kernel
theorem dX3_lackOfWay_52 : decode cX3_lackOfWay 52 = .ok (.getfield 18, 3) := by decide +kernel
theorem dX3_lackOfWay_55 : decode cX3_lackOfWay 55 = .ok (.iload 5, 2) := by decide +kernel
theorem dX3_lackOfWay_57 : decode cX3_lackOfWay 57 = .ok (.dup2, 1) := by decide +kernel
theorem dX3_lackOfWay_58 : decode cX3_lackOfWay 58 = .ok (.iaload, 1) := by decide +kernel
theorem dX3_lackOfWay_59 : decode cX3_lackOfWay 59 = .ok (.aload_n 0, 1) := by decide +kernel
theorem dX3_lackOfWay_60 : decode cX3_lackOfWay 60 = .ok (.getfield 11, 3) := by decide +kernel
theorem dX3_lackOfWay_63 : decode cX3_lackOfWay 63 = .ok (.iload 4, 2) := by decide +kernel
theorem dX3_lackOfWay_65 : decode cX3_lackOfWay 65 = .ok (.iaload, 1) := by decide +kernel
theorem dX3_lackOfWay_66 : decode cX3_lackOfWay 66 = .ok (.isub, 1) := by decide +kernel
theorem dX3_lackOfWay_67 : decode cX3_lackOfWay 67 = .ok (.iastore, 1) := by decide +kernel
theorem dX3_lackOfWay_68 : decode cX3_lackOfWay 68 = .ok (.iinc 4 (-1), 3) := by decide +kernel
theorem dX3_lackOfWay_71 : decode cX3_lackOfWay 71 = .ok (.goto (-47), 3) := by decide +kernel
theorem dX3_lackOfWay_74 : decode cX3_lackOfWay 74 = .ok (.iconst 0, 1) := by decide +kernel
theorem dX3_lackOfWay_75 : decode cX3_lackOfWay 75 = .ok (.istore 4, 2) := by decide +kernel
theorem dX3_lackOfWay_77 : decode cX3_lackOfWay 77 = .ok (.iconst 0, 1) := by decide +kernel
theorem dX3_lackOfWay_78 : decode cX3_lackOfWay 78 = .ok (.istore 5, 2) := by decide +kernel
theorem dX3_lackOfWay_80 : decode cX3_lackOfWay 80 = .ok (.iload 5, 2) := by decide +kernel
theorem dX3_lackOfWay_82 : decode cX3_lackOfWay 82 = .ok (.iconst 3, 1) := by decide +kernel
theorem dX3_lackOfWay_83 : decode cX3_lackOfWay 83 = .ok (.if_icmp .ge 25, 3) := by decide +kernel
theorem dX3_lackOfWay_86 : decode cX3_lackOfWay 86 = .ok (.iload 4, 2) := by decide +kernel
theorem dX3_lackOfWay_88 : decode cX3_lackOfWay 88 = .ok (.iconst 0, 1) := by decide +kernel
theorem dX3_lackOfWay_89 : decode cX3_lackOfWay 89 = .ok (.aload_n 0, 1) := by decide +kernel
theorem dX3_lackOfWay_90 : decode cX3_lackOfWay 90 = .ok (.getfield 18, 3) := by decide +kernel
theorem dX3_lackOfWay_93 : decode cX3_lackOfWay 93 = .ok (.iload 5, 2) := by decide +kernel
theorem dX3_lackOfWay_95 : decode cX3_lackOfWay 95 = .ok (.iaload, 1) := by decide +kernel
theorem dX3_lackOfWay_96 : decode cX3_lackOfWay 96 = .ok (.invokestatic 50, 3) := by decide +kernel
theorem dX3_lackOfWay_99 : decode cX3_lackOfWay 99 = .ok (.iadd, 1) := by decide +kernel
theorem dX3_lackOfWay_100 : decode cX3_lackOfWay 100 = .ok (.istore 4, 2) := by decide +kernel
theorem dX3_lackOfWay_102 : decode cX3_lackOfWay 102 = .ok (.iinc 5 1, 3) := by decide +kernel
theorem dX3_lackOfWay_105 : decode cX3_lackOfWay 105 = .ok (.goto (-25), 3) := by decide +kernel
theorem dX3_lackOfWay_108 : decode cX3_lackOfWay 108 = .ok (.iload 4, 2) := by decide +kernel
theorem dX3_lackOfWay_110 : decode cX3_lackOfWay 110 = .ok (.ireturn, 1) := by decide +kernel
theorem dX4_init_0 : decode cX4_init 0 = .ok (.aload_n 0, 1) := by decide +kernel
theorem dX4_init_1 : decode cX4_init 1 = .ok (.invokespecial 3, 3) := by decide +kernel
theorem dX4_init_4 : decode cX4_init 4 = .ok (.aload_n 0, 1) := by decide +kernel
theorem dX4_init_5 : decode cX4_init 5 = .ok (.bipush 98, 2) := by decide +kernel
theorem dX4_init_7 : decode cX4_init 7 = .ok (.newarray .int, 2) := by decide +kernel
theorem dX4_init_9 : decode cX4_init 9 = .ok (.putfield 11, 3) := by decide +kernel
theorem dX4_init_12 : decode cX4_init 12 = .ok (.aload_n 0, 1) := by decide +kernel
theorem dX4_init_13 : decode cX4_init 13 = .ok (.bipush 14, 2) := by decide +kernel
theorem dX4_init_15 : decode cX4_init 15 = .ok (.newarray .int, 2) := by decide +kernel
theorem dX4_init_17 : decode cX4_init 17 = .ok (.putfield 15, 3) := by decide +kernel
theorem dX4_init_20 : decode cX4_init 20 = .ok (.aload_n 0, 1) := by decide +kernel
theorem dX4_init_21 : decode cX4_init 21 = .ok (.bipush 16, 2) := by decide +kernel
theorem dX4_init_23 : decode cX4_init 23 = .ok (.newarray .int, 2) := by decide +kernel
theorem dX4_init_25 : decode cX4_init 25 = .ok (.putfield 20, 3) := by decide +kernel
theorem dX4_init_28 : decode cX4_init 28 = .ok (.aload_n 0, 1) := by decide +kernel
theorem dX4_init_29 : decode cX4_init 29 = .ok (.bipush 16, 2) := by decide +kernel
theorem dX4_init_31 : decode cX4_init 31 = .ok (.newarray .int, 2) := by decide +kernel
theorem dX4_init_33 : decode cX4_init 33 = .ok (.putfield 23, 3) := by decide +kernel
theorem dX4_init_36 : decode cX4_init 36 = .ok (.aload_n 0, 1) := by decide +kernel
theorem dX4_init_37 : decode cX4_init 37 = .ok (.aload_n 1, 1) := by decide +kernel
theorem dX4_init_38 : decode cX4_init 38 = .ok (.putfield 26, 3) := by decide +kernel
theorem dX4_init_41 : decode cX4_init 41 = .ok (.aload_n 0, 1) := by decide +kernel
theorem dX4_init_42 : decode cX4_init 42 = .ok (.aload_n 2, 1) := by decide +kernel
theorem dX4_init_43 : decode cX4_init 43 = .ok (.putfield 30, 3) := by decide +kernel
theorem dX4_init_46 : decode cX4_init 46 = .ok (.return_, 1) := by decide +kernel
theorem dX4_prepare_0 : decode cX4_prepare 0 = .ok (.aload_n 0, 1) := by decide +kernel
theorem dX4_prepare_1 : decode cX4_prepare 1 = .ok (.aload_n 1, 1) := by decide +kernel
theorem dX4_prepare_2 : decode cX4_prepare 2 = .ok (.putfield 34, 3) := by decide +kernel
theorem dX4_prepare_5 : decode cX4_prepare 5 = .ok (.aload_n 0, 1) := by decide +kernel
theorem dX4_prepare_6 : decode cX4_prepare 6 = .ok (.aload_n 0, 1) := by decide +kernel
theorem dX4_prepare_7 : decode cX4_prepare 7 = .ok (.getfield 34, 3) := by decide +kernel
theorem dX4_prepare_10 : decode cX4_prepare 10 = .ok (.invokevirtual 38, 3) := by decide +kernel
theorem dX4_prepare_13 : decode cX4_prepare 13 = .ok (.putfield 42, 3) := by decide +kernel
theorem dX4_prepare_16 : decode cX4_prepare 16 = .ok (.aload_n 0, 1) := by decide +kernel
theorem dX4_prepare_17 : decode cX4_prepare 17 = .ok (.getfield 30, 3) := by decide +kernel
theorem dX4_prepare_20 : decode cX4_prepare 20 = .ok (.iload_n 2, 1) := by decide +kernel
theorem dX4_prepare_21 : decode cX4_prepare 21 = .ok (.invokevirtual 46, 3) := by decide +kernel
theorem dX4_prepare_24 : decode cX4_prepare 24 = .ok (.iconst 0, 1) := by decide +kernel
theorem dX4_prepare_25 : decode cX4_prepare 25 = .ok (.istore_n 3, 1) := by decide +kernel
theorem dX4_prepare_26 : decode cX4_prepare 26 = .ok (.iload_n 3, 1) := by decide +kernel
theorem dX4_prepare_27 : decode cX4_prepare 27 = .ok (.bipush 7, 2) := by decide +kernel
theorem dX4_prepare_29 : decode cX4_prepare 29 = .ok (.if_icmp .ge 60, 3) := by decide +kernel
theorem dX4_prepare_32 : decode cX4_prepare 32 = .ok (.aload_n 0, 1) := by decide +kernel
theorem dX4_prepare_33 : decode cX4_prepare 33 = .ok (.getfield 34, 3) := by decide +kernel
theorem dX4_prepare_36 : decode cX4_prepare 36 = .ok (.iload_n 3, 1) := by decide +kernel
theorem dX4_prepare_37 : decode cX4_prepare 37 = .ok (.invokevirtual 52, 3) := by decide +kernel
theorem dX4_prepare_40 : decode cX4_prepare 40 = .ok (.ifCond .eq 43, 3) := by decide +kernel
theorem dX4_prepare_43 : decode cX4_prepare 43 = .ok (.iconst 0, 1) := by decide +kernel
theorem dX4_prepare_44 : decode cX4_prepare 44 = .ok (.istore 4, 2) := by decide +kernel
theorem dX4_prepare_46 : decode cX4_prepare 46 = .ok (.iload 4, 2) := by decide +kernel
theorem dX4_prepare_48 : decode cX4_prepare 48 = .ok (.aload_n 0, 1) := by decide +kernel
theorem dX4_prepare_49 : decode cX4_prepare 49 = .ok (.getfield 26, 3) := by decide +kernel
theorem dX4_prepare_52 : decode cX4_prepare 52 = .ok (.getfield 56, 3) := by decide +kernel
theorem dX4_prepare_55 : decode cX4_prepare 55 = .ok (.if_icmp .ge 28, 3) := by decide +kernel
theorem dX4_prepare_58 : decode cX4_prepare 58 = .ok (.aload_n 0, 1) := by decide +kernel
theorem dX4_prepare_59 : decode cX4_prepare 59 = .ok (.getfield 11, 3) := by decide +kernel
theorem dX4_prepare_62 : decode cX4_prepare 62 = .ok (.iload_n 3, 1) := by decide +kernel
theorem dX4_prepare_63 : decode cX4_prepare 63 = .ok (.bipush 14, 2) := by decide +kernel
theorem dX4_prepare_65 : decode cX4_prepare 65 = .ok (.imul, 1) := by decide +kernel
theorem dX4_prepare_66 : decode cX4_prepare 66 = .ok (.iload 4, 2) := by decide +kernel
theorem dX4_prepare_68 : decode cX4_prepare 68 = .ok (.iadd, 1) := by decide +kernel
theorem dX4_prepare_69 : decode cX4_prepare 69 = .ok (.aload_n 0, 1) := by decide +kernel
theorem dX4_prepare_70 : decode cX4_prepare 70 = .ok (.iload_n 3, 1) := by decide +kernel
theorem dX4_prepare_71 : decode cX4_prepare 71 = .ok (.iload 4, 2) := by decide +kernel
theorem dX4_prepare_73 : decode cX4_prepare 73 = .ok (.invokevirtual 61, 3) := by decide +kernel
theorem dX4_prepare_76 : decode cX4_prepare 76 = .ok (.iastore, 1) := by decide +kernel
theorem dX4_prepare_77 : decode cX4_prepare 77 = .ok (.iinc 4 1, 3) := by decide +kernel
theorem dX4_prepare_80 : decode cX4_prepare 80 = .ok (.goto (-34), 3) := by decide +kernel
theorem dX4_prepare_83 : decode cX4_prepare 83 = .ok (.iinc 3 1, 3) := by decide +kernel
theorem dX4_prepare_86 : decode cX4_prepare 86 = .ok (.goto (-60), 3) := by decide +kernel
theorem dX4_prepare_89 : decode cX4_prepare 89 = .ok (.iconst 0, 1) := by decide +kernel
theorem dX4_prepare_90 : decode cX4_prepare 90 = .ok (.istore_n 3, 1) := by decide +kernel
theorem dX4_prepare_91 : decode cX4_prepare 91 = .ok (.iload_n 3, 1) := by decide +kernel
theorem dX4_prepare_92 : decode cX4_prepare 92 = .ok (.aload_n 0, 1) := by decide +kernel
theorem dX4_prepare_93 : decode cX4_prepare 93 = .ok (.getfield 26, 3) := by decide +kernel
theorem dX4_prepare_96 : decode cX4_prepare 96 = .ok (.getfield 56, 3) := by decide +kernel
theorem dX4_prepare_99 : decode cX4_prepare 99 = .ok (.if_icmp .ge 23, 3) := by decide +kernel
theorem dX4_prepare_102 : decode cX4_prepare 102 = .ok (.aload_n 0, 1) := by decide +kernel
theorem dX4_prepare_103 : decode cX4_prepare 103 = .ok (.getfield 15, 3) := by decide +kernel
theorem dX4_prepare_106 : decode cX4_prepare 106 = .ok (.iload_n 3, 1) := by decide +kernel
theorem dX4_prepare_107 : decode cX4_prepare 107 = .ok (.aload_n 0, 1) := by decide +kernel
theorem dX4_prepare_108 : decode cX4_prepare 108 = .ok (.getfield 26, 3) := by decide +kernel
theorem dX4_prepare_111 : decode cX4_prepare 111 = .ok (.iload_n 3, 1) := by decide +kernel
theorem dX4_prepare_112 : decode cX4_prepare 112 = .ok (.invokevirtual 65, 3) := by decide +kernel
theorem dX4_prepare_115 : decode cX4_prepare 115 = .ok (.iastore, 1) := by decide +kernel
theorem dX4_prepare_116 : decode cX4_prepare 116 = .ok (.iinc 3 1, 3) := by decide +kernel
theorem dX4_prepare_119 : decode cX4_prepare 119 = .ok (.goto (-28), 3) := by decide +kernel
theorem dX4_prepare_122 : decode cX4_prepare 122 = .ok (.iconst 0, 1) := by decide +kernel
theorem dX4_prepare_123 : decode cX4_prepare 123 = .ok (.istore_n 3, 1) := by decide +kernel
theorem dX4_prepare_124 : decode cX4_prepare 124 = .ok (.iload_n 3, 1) := by decide +kernel
theorem dX4_prepare_125 : decode cX4_prepare 125 = .ok (.aload_n 0, 1) := by decide +kernel
theorem dX4_prepare_126 : decode cX4_prepare 126 = .ok (.getfield 34, 3) := by decide +kernel
theorem dX4_prepare_129 : decode cX4_prepare 129 = .ok (.getfield 69, 3) := by decide +kernel
theorem dX4_prepare_132 : decode cX4_prepare 132 = .ok (.if_icmp .ge 37, 3) := by decide +kernel
theorem dX4_prepare_135 : decode cX4_prepare 135 = .ok (.aload_n 0, 1) := by decide +kernel
theorem dX4_prepare_136 : decode cX4_prepare 136 = .ok (.getfield 20, 3) := by decide +kernel
theorem dX4_prepare_139 : decode cX4_prepare 139 = .ok (.iload_n 3, 1) := by decide +kernel
theorem dX4_prepare_140 : decode cX4_prepare 140 = .ok (.aload_n 0, 1) := by decide +kernel
theorem dX4_prepare_141 : decode cX4_prepare 141 = .ok (.iconst 2, 1) := by decide +kernel
theorem dX4_prepare_142 : decode cX4_prepare 142 = .ok (.iload_n 3, 1) := by decide +kernel
theorem dX4_prepare_143 : decode cX4_prepare 143 = .ok (.imul, 1) := by decide +kernel
theorem dX4_prepare_144 : decode cX4_prepare 144 = .ok (.invokevirtual 70, 3) := by decide +kernel
theorem dX4_prepare_147 : decode cX4_prepare 147 = .ok (.iastore, 1) := by decide +kernel
theorem dX4_prepare_148 : decode cX4_prepare 148 = .ok (.aload_n 0, 1) := by decide +kernel
theorem dX4_prepare_149 : decode cX4_prepare 149 = .ok (.getfield 23, 3) := by decide +kernel
theorem dX4_prepare_152 : decode cX4_prepare 152 = .ok (.iload_n 3, 1) := by decide +kernel
theorem dX4_prepare_153 : decode cX4_prepare 153 = .ok (.aload_n 0, 1) := by decide +kernel
theorem dX4_prepare_154 : decode cX4_prepare 154 = .ok (.iconst 2, 1) := by decide +kernel
theorem dX4_prepare_155 : decode cX4_prepare 155 = .ok (.iload_n 3, 1) := by decide +kernel
theorem dX4_prepare_156 : decode cX4_prepare 156 = .ok (.imul, 1) := by decide +kernel
theorem dX4_prepare_157 : decode cX4_prepare 157 = .ok (.iconst 1, 1) := by decide +kernel
theorem dX4_prepare_158 : decode cX4_prepare 158 = .ok (.iadd, 1) := by decide +kernel
theorem dX4_prepare_159 : decode cX4_prepare 159 = .ok (.invokevirtual 70, 3) := by decide +kernel
theorem dX4_prepare_162 : decode cX4_prepare 162 = .ok (.iastore, 1) := by decide +kernel
theorem dX4_prepare_163 : decode cX4_prepare 163 = .ok (.iinc 3 1, 3) := by decide +kernel
theorem dX4_prepare_166 : decode cX4_prepare 166 = .ok (.goto (-42), 3) := by decide +kernel
theorem dX4_prepare_169 : decode cX4_prepare 169 = .ok (.return_, 1) := by decide +kernel
theorem dX4_traitOf_0 : decode cX4_traitOf 0 = .ok (.iload_n 1, 1) := by decide +kernel
theorem dX4_traitOf_1 : decode cX4_traitOf 1 = .ok (.tableswitch 98 0 5 #[39, 49, 59, 69, 79, 89], 39) := by decide +kernel
theorem dX4_traitOf_40 : decode cX4_traitOf 40 = .ok (.aload_n 0, 1) := by decide +kernel
theorem dX4_traitOf_41 : decode cX4_traitOf 41 = .ok (.getfield 26, 3) := by decide +kernel
theorem dX4_traitOf_44 : decode cX4_traitOf 44 = .ok (.getfield 73, 3) := by decide +kernel
theorem dX4_traitOf_47 : decode cX4_traitOf 47 = .ok (.iload_n 2, 1) := by decide +kernel
theorem dX4_traitOf_48 : decode cX4_traitOf 48 = .ok (.iaload, 1) := by decide +kernel
theorem dX4_traitOf_49 : decode cX4_traitOf 49 = .ok (.ireturn, 1) := by decide +kernel
theorem dX4_traitOf_50 : decode cX4_traitOf 50 = .ok (.aload_n 0, 1) := by decide +kernel
theorem dX4_traitOf_51 : decode cX4_traitOf 51 = .ok (.getfield 26, 3) := by decide +kernel
theorem dX4_traitOf_54 : decode cX4_traitOf 54 = .ok (.getfield 76, 3) := by decide +kernel
theorem dX4_traitOf_57 : decode cX4_traitOf 57 = .ok (.iload_n 2, 1) := by decide +kernel
theorem dX4_traitOf_58 : decode cX4_traitOf 58 = .ok (.iaload, 1) := by decide +kernel
theorem dX4_traitOf_59 : decode cX4_traitOf 59 = .ok (.ireturn, 1) := by decide +kernel
theorem dX4_traitOf_60 : decode cX4_traitOf 60 = .ok (.aload_n 0, 1) := by decide +kernel
theorem dX4_traitOf_61 : decode cX4_traitOf 61 = .ok (.getfield 30, 3) := by decide +kernel
theorem dX4_traitOf_64 : decode cX4_traitOf 64 = .ok (.iload_n 2, 1) := by decide +kernel
theorem dX4_traitOf_65 : decode cX4_traitOf 65 = .ok (.iconst 0, 1) := by decide +kernel
theorem dX4_traitOf_66 : decode cX4_traitOf 66 = .ok (.invokevirtual 79, 3) := by decide +kernel
theorem dX4_traitOf_69 : decode cX4_traitOf 69 = .ok (.ireturn, 1) := by decide +kernel
theorem dX4_traitOf_70 : decode cX4_traitOf 70 = .ok (.aload_n 0, 1) := by decide +kernel
theorem dX4_traitOf_71 : decode cX4_traitOf 71 = .ok (.getfield 30, 3) := by decide +kernel
theorem dX4_traitOf_74 : decode cX4_traitOf 74 = .ok (.iload_n 2, 1) := by decide +kernel
theorem dX4_traitOf_75 : decode cX4_traitOf 75 = .ok (.iconst 1, 1) := by decide +kernel
theorem dX4_traitOf_76 : decode cX4_traitOf 76 = .ok (.invokevirtual 79, 3) := by decide +kernel
theorem dX4_traitOf_79 : decode cX4_traitOf 79 = .ok (.ireturn, 1) := by decide +kernel
theorem dX4_traitOf_80 : decode cX4_traitOf 80 = .ok (.aload_n 0, 1) := by decide +kernel
theorem dX4_traitOf_81 : decode cX4_traitOf 81 = .ok (.getfield 26, 3) := by decide +kernel
theorem dX4_traitOf_84 : decode cX4_traitOf 84 = .ok (.getfield 82, 3) := by decide +kernel
theorem dX4_traitOf_87 : decode cX4_traitOf 87 = .ok (.iload_n 2, 1) := by decide +kernel
theorem dX4_traitOf_88 : decode cX4_traitOf 88 = .ok (.iaload, 1) := by decide +kernel
theorem dX4_traitOf_89 : decode cX4_traitOf 89 = .ok (.ireturn, 1) := by decide +kernel
theorem dX4_traitOf_90 : decode cX4_traitOf 90 = .ok (.aload_n 0, 1) := by decide +kernel
theorem dX4_traitOf_91 : decode cX4_traitOf 91 = .ok (.getfield 26, 3) := by decide +kernel
theorem dX4_traitOf_94 : decode cX4_traitOf 94 = .ok (.iload_n 2, 1) := by decide +kernel
theorem dX4_traitOf_95 : decode cX4_traitOf 95 = .ok (.invokevirtual 85, 3) := by decide +kernel
theorem dX4_traitOf_98 : decode cX4_traitOf 98 = .ok (.ireturn, 1) := by decide +kernel
theorem dX4_traitOf_99 : decode cX4_traitOf 99 = .ok (.aload_n 0, 1) := by decide +kernel
theorem dX4_traitOf_100 : decode cX4_traitOf 100 = .ok (.getfield 26, 3) := by decide +kernel
theorem dX4_traitOf_103 : decode cX4_traitOf 103 = .ok (.iload_n 2, 1) := by decide +kernel
theorem dX4_traitOf_104 : decode cX4_traitOf 104 = .ok (.invokevirtual 88, 3) := by decide +kernel
theorem dX4_traitOf_107 : decode cX4_traitOf 107 = .ok (.ireturn, 1) := by decide +kernel
theorem dX4_holders_0 : decode cX4_holders 0 = .ok (.iconst 0, 1) := by decide +kernel
theorem dX4_holders_1 : decode cX4_holders 1 = .ok (.istore_n 2, 1) := by decide +kernel
theorem dX4_holders_2 : decode cX4_holders 2 = .ok (.iconst 0, 1) := by decide +kernel
theorem dX4_holders_3 : decode cX4_holders 3 = .ok (.istore_n 3, 1) := by decide +kernel
theorem dX4_holders_4 : decode cX4_holders 4 = .ok (.iload_n 3, 1) := by decide +kernel
theorem dX4_holders_5 : decode cX4_holders 5 = .ok (.aload_n 0, 1) := by decide +kernel
theorem dX4_holders_6 : decode cX4_holders 6 = .ok (.getfield 26, 3) := by decide +kernel
theorem dX4_holders_9 : decode cX4_holders 9 = .ok (.getfield 56, 3) := by decide +kernel
theorem dX4_holders_12 : decode cX4_holders 12 = .ok (.if_icmp .ge 24, 3) := by decide +kernel
theorem dX4_holders_15 : decode cX4_holders 15 = .ok (.aload_n 0, 1) := by decide +kernel
theorem dX4_holders_16 : decode cX4_holders 16 = .ok (.iload_n 1, 1) := by decide +kernel
theorem dX4_holders_17 : decode cX4_holders 17 = .ok (.iload_n 3, 1) := by decide +kernel
theorem dX4_holders_18 : decode cX4_holders 18 = .ok (.invokevirtual 91, 3) := by decide +kernel
theorem dX4_holders_21 : decode cX4_holders 21 = .ok (.ifCond .eq 9, 3) := by decide +kernel
theorem dX4_holders_24 : decode cX4_holders 24 = .ok (.iload_n 2, 1) := by decide +kernel
theorem dX4_holders_25 : decode cX4_holders 25 = .ok (.iconst 1, 1) := by decide +kernel
theorem dX4_holders_26 : decode cX4_holders 26 = .ok (.iload_n 3, 1) := by decide +kernel
theorem dX4_holders_27 : decode cX4_holders 27 = .ok (.ishl, 1) := by decide +kernel
theorem dX4_holders_28 : decode cX4_holders 28 = .ok (.ior, 1) := by decide +kernel
theorem dX4_holders_29 : decode cX4_holders 29 = .ok (.istore_n 2, 1) := by decide +kernel
theorem dX4_holders_30 : decode cX4_holders 30 = .ok (.iinc 3 1, 3) := by decide +kernel
theorem dX4_holders_33 : decode cX4_holders 33 = .ok (.goto (-29), 3) := by decide +kernel
theorem dX4_holders_36 : decode cX4_holders 36 = .ok (.iload_n 2, 1) := by decide +kernel
theorem dX4_holders_37 : decode cX4_holders 37 = .ok (.ireturn, 1) := by decide +kernel
theorem dX4_meets_0 : decode cX4_meets 0 = .ok (.iconst 0, 1) := by decide +kernel
theorem dX4_meets_1 : decode cX4_meets 1 = .ok (.istore_n 3, 1) := by decide +kernel
theorem dX4_meets_2 : decode cX4_meets 2 = .ok (.iload_n 3, 1) := by decide +kernel
theorem dX4_meets_3 : decode cX4_meets 3 = .ok (.aload_n 0, 1) := by decide +kernel
theorem dX4_meets_4 : decode cX4_meets 4 = .ok (.getfield 34, 3) := by decide +kernel
theorem dX4_meets_7 : decode cX4_meets 7 = .ok (.getfield 95, 3) := by decide +kernel
theorem dX4_meets_10 : decode cX4_meets 10 = .ok (.iload_n 1, 1) := by decide +kernel
theorem dX4_meets_11 : decode cX4_meets 11 = .ok (.iaload, 1) := by decide +kernel
theorem dX4_meets_12 : decode cX4_meets 12 = .ok (.if_icmp .ge 38, 3) := by decide +kernel
theorem dX4_meets_15 : decode cX4_meets 15 = .ok (.iload_n 1, 1) := by decide +kernel
theorem dX4_meets_16 : decode cX4_meets 16 = .ok (.iconst 4, 1) := by decide +kernel
theorem dX4_meets_17 : decode cX4_meets 17 = .ok (.imul, 1) := by decide +kernel
theorem dX4_meets_18 : decode cX4_meets 18 = .ok (.iload_n 3, 1) := by decide +kernel
theorem dX4_meets_19 : decode cX4_meets 19 = .ok (.iadd, 1) := by decide +kernel
theorem dX4_meets_20 : decode cX4_meets 20 = .ok (.istore 4, 2) := by decide +kernel
theorem dX4_meets_22 : decode cX4_meets 22 = .ok (.aload_n 0, 1) := by decide +kernel
theorem dX4_meets_23 : decode cX4_meets 23 = .ok (.iload 4, 2) := by decide +kernel
theorem dX4_meets_25 : decode cX4_meets 25 = .ok (.iload_n 2, 1) := by decide +kernel
theorem dX4_meets_26 : decode cX4_meets 26 = .ok (.invokevirtual 98, 3) := by decide +kernel
theorem dX4_meets_29 : decode cX4_meets 29 = .ok (.aload_n 0, 1) := by decide +kernel
theorem dX4_meets_30 : decode cX4_meets 30 = .ok (.getfield 34, 3) := by decide +kernel
theorem dX4_meets_33 : decode cX4_meets 33 = .ok (.getfield 101, 3) := by decide +kernel
theorem dX4_meets_36 : decode cX4_meets 36 = .ok (.iload 4, 2) := by decide +kernel
theorem dX4_meets_38 : decode cX4_meets 38 = .ok (.baload, 1) := by decide +kernel
theorem dX4_meets_39 : decode cX4_meets 39 = .ok (.if_icmp .ne 5, 3) := by decide +kernel
theorem dX4_meets_42 : decode cX4_meets 42 = .ok (.iconst 0, 1) := by decide +kernel
theorem dX4_meets_43 : decode cX4_meets 43 = .ok (.ireturn, 1) := by decide +kernel
theorem dX4_meets_44 : decode cX4_meets 44 = .ok (.iinc 3 1, 3) := by decide +kernel
theorem dX4_meets_47 : decode cX4_meets 47 = .ok (.goto (-45), 3) := by decide +kernel
theorem dX4_meets_50 : decode cX4_meets 50 = .ok (.iconst 1, 1) := by decide +kernel
theorem dX4_meets_51 : decode cX4_meets 51 = .ok (.ireturn, 1) := by decide +kernel
theorem dX4_meetsTerm_0 : decode cX4_meetsTerm 0 = .ok (.aload_n 0, 1) := by decide +kernel
theorem dX4_meetsTerm_1 : decode cX4_meetsTerm 1 = .ok (.getfield 34, 3) := by decide +kernel
theorem dX4_meetsTerm_4 : decode cX4_meetsTerm 4 = .ok (.getfield 105, 3) := by decide +kernel
theorem dX4_meetsTerm_7 : decode cX4_meetsTerm 7 = .ok (.iload_n 1, 1) := by decide +kernel
theorem dX4_meetsTerm_8 : decode cX4_meetsTerm 8 = .ok (.iaload, 1) := by decide +kernel
theorem dX4_meetsTerm_9 : decode cX4_meetsTerm 9 = .ok (.istore_n 3, 1) := by decide +kernel
theorem dX4_meetsTerm_10 : decode cX4_meetsTerm 10 = .ok (.aload_n 0, 1) := by decide +kernel
theorem dX4_meetsTerm_11 : decode cX4_meetsTerm 11 = .ok (.getfield 34, 3) := by decide +kernel
theorem dX4_meetsTerm_14 : decode cX4_meetsTerm 14 = .ok (.getfield 108, 3) := by decide +kernel
theorem dX4_meetsTerm_17 : decode cX4_meetsTerm 17 = .ok (.iload_n 1, 1) := by decide +kernel
theorem dX4_meetsTerm_18 : decode cX4_meetsTerm 18 = .ok (.iaload, 1) := by decide +kernel
theorem dX4_meetsTerm_19 : decode cX4_meetsTerm 19 = .ok (.istore 4, 2) := by decide +kernel
theorem dX4_meetsTerm_21 : decode cX4_meetsTerm 21 = .ok (.iload_n 3, 1) := by decide +kernel
theorem dX4_meetsTerm_22 : decode cX4_meetsTerm 22 = .ok (.bipush 7, 2) := by decide +kernel
theorem dX4_meetsTerm_24 : decode cX4_meetsTerm 24 = .ok (.if_icmp .ne 26, 3) := by decide +kernel
theorem dX4_meetsTerm_27 : decode cX4_meetsTerm 27 = .ok (.aload_n 0, 1) := by decide +kernel
theorem dX4_meetsTerm_28 : decode cX4_meetsTerm 28 = .ok (.getfield 26, 3) := by decide +kernel
theorem dX4_meetsTerm_31 : decode cX4_meetsTerm 31 = .ok (.getfield 111, 3) := by decide +kernel
theorem dX4_meetsTerm_34 : decode cX4_meetsTerm 34 = .ok (.iload_n 2, 1) := by decide +kernel
theorem dX4_meetsTerm_35 : decode cX4_meetsTerm 35 = .ok (.iaload, 1) := by decide +kernel
theorem dX4_meetsTerm_36 : decode cX4_meetsTerm 36 = .ok (.iload 4, 2) := by decide +kernel
theorem dX4_meetsTerm_38 : decode cX4_meetsTerm 38 = .ok (.ishr, 1) := by decide +kernel
theorem dX4_meetsTerm_39 : decode cX4_meetsTerm 39 = .ok (.iconst 1, 1) := by decide +kernel
theorem dX4_meetsTerm_40 : decode cX4_meetsTerm 40 = .ok (.iand, 1) := by decide +kernel
theorem dX4_meetsTerm_41 : decode cX4_meetsTerm 41 = .ok (.ifCond .eq 7, 3) := by decide +kernel
theorem dX4_meetsTerm_44 : decode cX4_meetsTerm 44 = .ok (.iconst 1, 1) := by decide +kernel
theorem dX4_meetsTerm_45 : decode cX4_meetsTerm 45 = .ok (.goto 4, 3) := by decide +kernel
theorem dX4_meetsTerm_48 : decode cX4_meetsTerm 48 = .ok (.iconst 0, 1) := by decide +kernel
theorem dX4_meetsTerm_49 : decode cX4_meetsTerm 49 = .ok (.ireturn, 1) := by decide +kernel
theorem dX4_meetsTerm_50 : decode cX4_meetsTerm 50 = .ok (.aload_n 0, 1) := by decide +kernel
theorem dX4_meetsTerm_51 : decode cX4_meetsTerm 51 = .ok (.getfield 11, 3) := by decide +kernel
theorem dX4_meetsTerm_54 : decode cX4_meetsTerm 54 = .ok (.iload_n 3, 1) := by decide +kernel
theorem dX4_meetsTerm_55 : decode cX4_meetsTerm 55 = .ok (.bipush 14, 2) := by decide +kernel
theorem dX4_meetsTerm_57 : decode cX4_meetsTerm 57 = .ok (.imul, 1) := by decide +kernel
theorem dX4_meetsTerm_58 : decode cX4_meetsTerm 58 = .ok (.iload_n 2, 1) := by decide +kernel
theorem dX4_meetsTerm_59 : decode cX4_meetsTerm 59 = .ok (.iadd, 1) := by decide +kernel
theorem dX4_meetsTerm_60 : decode cX4_meetsTerm 60 = .ok (.iaload, 1) := by decide +kernel
theorem dX4_meetsTerm_61 : decode cX4_meetsTerm 61 = .ok (.istore 5, 2) := by decide +kernel
theorem dX4_meetsTerm_63 : decode cX4_meetsTerm 63 = .ok (.aload_n 0, 1) := by decide +kernel
theorem dX4_meetsTerm_64 : decode cX4_meetsTerm 64 = .ok (.getfield 34, 3) := by decide +kernel
theorem dX4_meetsTerm_67 : decode cX4_meetsTerm 67 = .ok (.getfield 114, 3) := by decide +kernel
theorem dX4_meetsTerm_70 : decode cX4_meetsTerm 70 = .ok (.iload_n 1, 1) := by decide +kernel
theorem dX4_meetsTerm_71 : decode cX4_meetsTerm 71 = .ok (.iaload, 1) := by decide +kernel
theorem dX4_meetsTerm_72 : decode cX4_meetsTerm 72 = .ok (.istore 6, 2) := by decide +kernel
theorem dX4_meetsTerm_74 : decode cX4_meetsTerm 74 = .ok (.iload 6, 2) := by decide +kernel
theorem dX4_meetsTerm_76 : decode cX4_meetsTerm 76 = .ok (.bipush 60, 2) := by decide +kernel
theorem dX4_meetsTerm_78 : decode cX4_meetsTerm 78 = .ok (.if_icmp .ne 18, 3) := by decide +kernel
theorem dX4_meetsTerm_81 : decode cX4_meetsTerm 81 = .ok (.iload 5, 2) := by decide +kernel
theorem dX4_meetsTerm_83 : decode cX4_meetsTerm 83 = .ok (.iload 4, 2) := by decide +kernel
theorem dX4_meetsTerm_85 : decode cX4_meetsTerm 85 = .ok (.if_icmp .ge 7, 3) := by decide +kernel
theorem dX4_meetsTerm_88 : decode cX4_meetsTerm 88 = .ok (.iconst 1, 1) := by decide +kernel
theorem dX4_meetsTerm_89 : decode cX4_meetsTerm 89 = .ok (.goto 41, 3) := by decide +kernel
theorem dX4_meetsTerm_92 : decode cX4_meetsTerm 92 = .ok (.iconst 0, 1) := by decide +kernel
theorem dX4_meetsTerm_93 : decode cX4_meetsTerm 93 = .ok (.goto 37, 3) := by decide +kernel
theorem dX4_meetsTerm_96 : decode cX4_meetsTerm 96 = .ok (.iload 6, 2) := by decide +kernel
theorem dX4_meetsTerm_98 : decode cX4_meetsTerm 98 = .ok (.bipush 62, 2) := by decide +kernel
theorem dX4_meetsTerm_100 : decode cX4_meetsTerm 100 = .ok (.if_icmp .ne 18, 3) := by decide +kernel
theorem dX4_meetsTerm_103 : decode cX4_meetsTerm 103 = .ok (.iload 5, 2) := by decide +kernel
theorem dX4_meetsTerm_105 : decode cX4_meetsTerm 105 = .ok (.iload 4, 2) := by decide +kernel
theorem dX4_meetsTerm_107 : decode cX4_meetsTerm 107 = .ok (.if_icmp .le 7, 3) := by decide +kernel
theorem dX4_meetsTerm_110 : decode cX4_meetsTerm 110 = .ok (.iconst 1, 1) := by decide +kernel
theorem dX4_meetsTerm_111 : decode cX4_meetsTerm 111 = .ok (.goto 19, 3) := by decide +kernel
theorem dX4_meetsTerm_114 : decode cX4_meetsTerm 114 = .ok (.iconst 0, 1) := by decide +kernel
theorem dX4_meetsTerm_115 : decode cX4_meetsTerm 115 = .ok (.goto 15, 3) := by decide +kernel
theorem dX4_meetsTerm_118 : decode cX4_meetsTerm 118 = .ok (.iload 5, 2) := by decide +kernel
theorem dX4_meetsTerm_120 : decode cX4_meetsTerm 120 = .ok (.iload 4, 2) := by decide +kernel
theorem dX4_meetsTerm_122 : decode cX4_meetsTerm 122 = .ok (.if_icmp .ne 7, 3) := by decide +kernel
theorem dX4_meetsTerm_125 : decode cX4_meetsTerm 125 = .ok (.iconst 1, 1) := by decide +kernel
theorem dX4_meetsTerm_126 : decode cX4_meetsTerm 126 = .ok (.goto 4, 3) := by decide +kernel
theorem dX4_meetsTerm_129 : decode cX4_meetsTerm 129 = .ok (.iconst 0, 1) := by decide +kernel
theorem dX4_meetsTerm_130 : decode cX4_meetsTerm 130 = .ok (.ireturn, 1) := by decide +kernel
theorem dX4_weightOf_0 : decode cX4_weightOf 0 = .ok (.aload_n 0, 1) := by decide +kernel
theorem dX4_weightOf_1 : decode cX4_weightOf 1 = .ok (.getfield 34, 3) := by decide +kernel
theorem dX4_weightOf_4 : decode cX4_weightOf 4 = .ok (.getfield 117, 3) := by decide +kernel
theorem dX4_weightOf_7 : decode cX4_weightOf 7 = .ok (.iload_n 1, 1) := by decide +kernel
theorem dX4_weightOf_8 : decode cX4_weightOf 8 = .ok (.iaload, 1) := by decide +kernel
theorem dX4_weightOf_9 : decode cX4_weightOf 9 = .ok (.bipush 9, 2) := by decide +kernel
theorem dX4_weightOf_11 : decode cX4_weightOf 11 = .ok (.if_icmp .ne 23, 3) := by decide +kernel
theorem dX4_weightOf_14 : decode cX4_weightOf 14 = .ok (.aload_n 0, 1) := by decide +kernel
theorem dX4_weightOf_15 : decode cX4_weightOf 15 = .ok (.getfield 11, 3) := by decide +kernel
theorem dX4_weightOf_18 : decode cX4_weightOf 18 = .ok (.aload_n 0, 1) := by decide +kernel
theorem dX4_weightOf_19 : decode cX4_weightOf 19 = .ok (.getfield 34, 3) := by decide +kernel
theorem dX4_weightOf_22 : decode cX4_weightOf 22 = .ok (.getfield 120, 3) := by decide +kernel
theorem dX4_weightOf_25 : decode cX4_weightOf 25 = .ok (.iload_n 1, 1) := by decide +kernel
theorem dX4_weightOf_26 : decode cX4_weightOf 26 = .ok (.iaload, 1) := by decide +kernel
theorem dX4_weightOf_27 : decode cX4_weightOf 27 = .ok (.bipush 14, 2) := by decide +kernel
theorem dX4_weightOf_29 : decode cX4_weightOf 29 = .ok (.imul, 1) := by decide +kernel
theorem dX4_weightOf_30 : decode cX4_weightOf 30 = .ok (.iload_n 2, 1) := by decide +kernel
theorem dX4_weightOf_31 : decode cX4_weightOf 31 = .ok (.iadd, 1) := by decide +kernel
theorem dX4_weightOf_32 : decode cX4_weightOf 32 = .ok (.iaload, 1) := by decide +kernel
theorem dX4_weightOf_33 : decode cX4_weightOf 33 = .ok (.ireturn, 1) := by decide +kernel
theorem dX4_weightOf_34 : decode cX4_weightOf 34 = .ok (.aload_n 0, 1) := by decide +kernel
theorem dX4_weightOf_35 : decode cX4_weightOf 35 = .ok (.getfield 20, 3) := by decide +kernel
theorem dX4_weightOf_38 : decode cX4_weightOf 38 = .ok (.iload_n 1, 1) := by decide +kernel
theorem dX4_weightOf_39 : decode cX4_weightOf 39 = .ok (.iaload, 1) := by decide +kernel
theorem dX4_weightOf_40 : decode cX4_weightOf 40 = .ok (.iload_n 2, 1) := by decide +kernel
theorem dX4_weightOf_41 : decode cX4_weightOf 41 = .ok (.ishr, 1) := by decide +kernel
theorem dX4_weightOf_42 : decode cX4_weightOf 42 = .ok (.iconst 1, 1) := by decide +kernel
theorem dX4_weightOf_43 : decode cX4_weightOf 43 = .ok (.iand, 1) := by decide +kernel
theorem dX4_weightOf_44 : decode cX4_weightOf 44 = .ok (.ireturn, 1) := by decide +kernel
theorem dX4_isSpread_0 : decode cX4_isSpread 0 = .ok (.aload_n 0, 1) := by decide +kernel
theorem dX4_isSpread_1 : decode cX4_isSpread 1 = .ok (.getfield 34, 3) := by decide +kernel
theorem dX4_isSpread_4 : decode cX4_isSpread 4 = .ok (.getfield 117, 3) := by decide +kernel
theorem dX4_isSpread_7 : decode cX4_isSpread 7 = .ok (.iload_n 1, 1) := by decide +kernel
theorem dX4_isSpread_8 : decode cX4_isSpread 8 = .ok (.iaload, 1) := by decide +kernel
theorem dX4_isSpread_9 : decode cX4_isSpread 9 = .ok (.bipush 8, 2) := by decide +kernel
theorem dX4_isSpread_11 : decode cX4_isSpread 11 = .ok (.if_icmp .eq 17, 3) := by decide +kernel
theorem dX4_isSpread_14 : decode cX4_isSpread 14 = .ok (.aload_n 0, 1) := by decide +kernel
theorem dX4_isSpread_15 : decode cX4_isSpread 15 = .ok (.getfield 34, 3) := by decide +kernel
theorem dX4_isSpread_18 : decode cX4_isSpread 18 = .ok (.getfield 117, 3) := by decide +kernel
theorem dX4_isSpread_21 : decode cX4_isSpread 21 = .ok (.iload_n 1, 1) := by decide +kernel
theorem dX4_isSpread_22 : decode cX4_isSpread 22 = .ok (.iaload, 1) := by decide +kernel
theorem dX4_isSpread_23 : decode cX4_isSpread 23 = .ok (.bipush 9, 2) := by decide +kernel
theorem dX4_isSpread_25 : decode cX4_isSpread 25 = .ok (.if_icmp .ne 7, 3) := by decide +kernel
theorem dX4_isSpread_28 : decode cX4_isSpread 28 = .ok (.iconst 1, 1) := by decide +kernel
theorem dX4_isSpread_29 : decode cX4_isSpread 29 = .ok (.goto 4, 3) := by decide +kernel
theorem dX4_isSpread_32 : decode cX4_isSpread 32 = .ok (.iconst 0, 1) := by decide +kernel
theorem dX4_isSpread_33 : decode cX4_isSpread 33 = .ok (.ireturn, 1) := by decide +kernel
theorem dX4_weightIn_0 : decode cX4_weightIn 0 = .ok (.aload_n 0, 1) := by decide +kernel
theorem dX4_weightIn_1 : decode cX4_weightIn 1 = .ok (.getfield 34, 3) := by decide +kernel
theorem dX4_weightIn_4 : decode cX4_weightIn 4 = .ok (.getfield 117, 3) := by decide +kernel
theorem dX4_weightIn_7 : decode cX4_weightIn 7 = .ok (.iload_n 1, 1) := by decide +kernel
theorem dX4_weightIn_8 : decode cX4_weightIn 8 = .ok (.iaload, 1) := by decide +kernel
theorem dX4_weightIn_9 : decode cX4_weightIn 9 = .ok (.bipush 8, 2) := by decide +kernel
theorem dX4_weightIn_11 : decode cX4_weightIn 11 = .ok (.if_icmp .ne 15, 3) := by decide +kernel
theorem dX4_weightIn_14 : decode cX4_weightIn 14 = .ok (.aload_n 0, 1) := by decide +kernel
theorem dX4_weightIn_15 : decode cX4_weightIn 15 = .ok (.getfield 20, 3) := by decide +kernel
theorem dX4_weightIn_18 : decode cX4_weightIn 18 = .ok (.iload_n 1, 1) := by decide +kernel
theorem dX4_weightIn_19 : decode cX4_weightIn 19 = .ok (.iaload, 1) := by decide +kernel
theorem dX4_weightIn_20 : decode cX4_weightIn 20 = .ok (.iload_n 2, 1) := by decide +kernel
theorem dX4_weightIn_21 : decode cX4_weightIn 21 = .ok (.iand, 1) := by decide +kernel
theorem dX4_weightIn_22 : decode cX4_weightIn 22 = .ok (.invokestatic 123, 3) := by decide +kernel
theorem dX4_weightIn_25 : decode cX4_weightIn 25 = .ok (.ireturn, 1) := by decide +kernel
theorem dX4_weightIn_26 : decode cX4_weightIn 26 = .ok (.iconst 0, 1) := by decide +kernel
theorem dX4_weightIn_27 : decode cX4_weightIn 27 = .ok (.istore_n 3, 1) := by decide +kernel
theorem dX4_weightIn_28 : decode cX4_weightIn 28 = .ok (.iconst 0, 1) := by decide +kernel
theorem dX4_weightIn_29 : decode cX4_weightIn 29 = .ok (.istore 4, 2) := by decide +kernel
theorem dX4_weightIn_31 : decode cX4_weightIn 31 = .ok (.iload 4, 2) := by decide +kernel
theorem dX4_weightIn_33 : decode cX4_weightIn 33 = .ok (.aload_n 0, 1) := by decide +kernel
theorem dX4_weightIn_34 : decode cX4_weightIn 34 = .ok (.getfield 26, 3) := by decide +kernel
theorem dX4_weightIn_37 : decode cX4_weightIn 37 = .ok (.getfield 56, 3) := by decide +kernel
theorem dX4_weightIn_40 : decode cX4_weightIn 40 = .ok (.if_icmp .ge 28, 3) := by decide +kernel
theorem dX4_weightIn_43 : decode cX4_weightIn 43 = .ok (.iload_n 2, 1) := by decide +kernel
theorem dX4_weightIn_44 : decode cX4_weightIn 44 = .ok (.iload 4, 2) := by decide +kernel
theorem dX4_weightIn_46 : decode cX4_weightIn 46 = .ok (.ishr, 1) := by decide +kernel
theorem dX4_weightIn_47 : decode cX4_weightIn 47 = .ok (.iconst 1, 1) := by decide +kernel
theorem dX4_weightIn_48 : decode cX4_weightIn 48 = .ok (.iand, 1) := by decide +kernel
theorem dX4_weightIn_49 : decode cX4_weightIn 49 = .ok (.ifCond .eq 13, 3) := by decide +kernel
theorem dX4_weightIn_52 : decode cX4_weightIn 52 = .ok (.iload_n 3, 1) := by decide +kernel
theorem dX4_weightIn_53 : decode cX4_weightIn 53 = .ok (.aload_n 0, 1) := by decide +kernel
theorem dX4_weightIn_54 : decode cX4_weightIn 54 = .ok (.iload_n 1, 1) := by decide +kernel
theorem dX4_weightIn_55 : decode cX4_weightIn 55 = .ok (.iload 4, 2) := by decide +kernel
theorem dX4_weightIn_57 : decode cX4_weightIn 57 = .ok (.invokevirtual 128, 3) := by decide +kernel
theorem dX4_weightIn_60 : decode cX4_weightIn 60 = .ok (.iadd, 1) := by decide +kernel
theorem dX4_weightIn_61 : decode cX4_weightIn 61 = .ok (.istore_n 3, 1) := by decide +kernel
theorem dX4_weightIn_62 : decode cX4_weightIn 62 = .ok (.iinc 4 1, 3) := by decide +kernel
theorem dX4_weightIn_65 : decode cX4_weightIn 65 = .ok (.goto (-34), 3) := by decide +kernel
theorem dX4_weightIn_68 : decode cX4_weightIn 68 = .ok (.iload_n 3, 1) := by decide +kernel
theorem dX4_weightIn_69 : decode cX4_weightIn 69 = .ok (.ireturn, 1) := by decide +kernel
theorem dX4_addedHarm_0 : decode cX4_addedHarm 0 = .ok (.aload_n 0, 1) := by decide +kernel
theorem dX4_addedHarm_1 : decode cX4_addedHarm 1 = .ok (.getfield 34, 3) := by decide +kernel
theorem dX4_addedHarm_4 : decode cX4_addedHarm 4 = .ok (.getfield 117, 3) := by decide +kernel
theorem dX4_addedHarm_7 : decode cX4_addedHarm 7 = .ok (.iload_n 1, 1) := by decide +kernel
theorem dX4_addedHarm_8 : decode cX4_addedHarm 8 = .ok (.iaload, 1) := by decide +kernel
theorem dX4_addedHarm_9 : decode cX4_addedHarm 9 = .ok (.tableswitch 88 10 12 #[27, 43, 72], 27) := by decide +kernel
theorem dX4_addedHarm_36 : decode cX4_addedHarm 36 = .ok (.aload_n 0, 1) := by decide +kernel
theorem dX4_addedHarm_37 : decode cX4_addedHarm 37 = .ok (.getfield 34, 3) := by decide +kernel
theorem dX4_addedHarm_40 : decode cX4_addedHarm 40 = .ok (.getfield 131, 3) := by decide +kernel
theorem dX4_addedHarm_43 : decode cX4_addedHarm 43 = .ok (.iload_n 1, 1) := by decide +kernel
theorem dX4_addedHarm_44 : decode cX4_addedHarm 44 = .ok (.iaload, 1) := by decide +kernel
theorem dX4_addedHarm_45 : decode cX4_addedHarm 45 = .ok (.aload_n 0, 1) := by decide +kernel
theorem dX4_addedHarm_46 : decode cX4_addedHarm 46 = .ok (.iload_n 2, 1) := by decide +kernel
theorem dX4_addedHarm_47 : decode cX4_addedHarm 47 = .ok (.invokevirtual 134, 3) := by decide +kernel
theorem dX4_addedHarm_50 : decode cX4_addedHarm 50 = .ok (.imul, 1) := by decide +kernel
theorem dX4_addedHarm_51 : decode cX4_addedHarm 51 = .ok (.ireturn, 1) := by decide +kernel
theorem dX4_addedHarm_52 : decode cX4_addedHarm 52 = .ok (.aload_n 0, 1) := by decide +kernel
theorem dX4_addedHarm_53 : decode cX4_addedHarm 53 = .ok (.getfield 20, 3) := by decide +kernel
theorem dX4_addedHarm_56 : decode cX4_addedHarm 56 = .ok (.iload_n 1, 1) := by decide +kernel
theorem dX4_addedHarm_57 : decode cX4_addedHarm 57 = .ok (.iaload, 1) := by decide +kernel
theorem dX4_addedHarm_58 : decode cX4_addedHarm 58 = .ok (.iload_n 2, 1) := by decide +kernel
theorem dX4_addedHarm_59 : decode cX4_addedHarm 59 = .ok (.iand, 1) := by decide +kernel
theorem dX4_addedHarm_60 : decode cX4_addedHarm 60 = .ok (.invokestatic 123, 3) := by decide +kernel
theorem dX4_addedHarm_63 : decode cX4_addedHarm 63 = .ok (.iconst 1, 1) := by decide +kernel
theorem dX4_addedHarm_64 : decode cX4_addedHarm 64 = .ok (.if_icmp .ne 15, 3) := by decide +kernel
theorem dX4_addedHarm_67 : decode cX4_addedHarm 67 = .ok (.aload_n 0, 1) := by decide +kernel
theorem dX4_addedHarm_68 : decode cX4_addedHarm 68 = .ok (.getfield 34, 3) := by decide +kernel
theorem dX4_addedHarm_71 : decode cX4_addedHarm 71 = .ok (.getfield 131, 3) := by decide +kernel
theorem dX4_addedHarm_74 : decode cX4_addedHarm 74 = .ok (.iload_n 1, 1) := by decide +kernel
theorem dX4_addedHarm_75 : decode cX4_addedHarm 75 = .ok (.iaload, 1) := by decide +kernel
theorem dX4_addedHarm_76 : decode cX4_addedHarm 76 = .ok (.goto 4, 3) := by decide +kernel
theorem dX4_addedHarm_79 : decode cX4_addedHarm 79 = .ok (.iconst 0, 1) := by decide +kernel
theorem dX4_addedHarm_80 : decode cX4_addedHarm 80 = .ok (.ireturn, 1) := by decide +kernel
theorem dX4_addedHarm_81 : decode cX4_addedHarm 81 = .ok (.aload_n 0, 1) := by decide +kernel
theorem dX4_addedHarm_82 : decode cX4_addedHarm 82 = .ok (.getfield 34, 3) := by decide +kernel
theorem dX4_addedHarm_85 : decode cX4_addedHarm 85 = .ok (.getfield 131, 3) := by decide +kernel
theorem dX4_addedHarm_88 : decode cX4_addedHarm 88 = .ok (.iload_n 1, 1) := by decide +kernel
theorem dX4_addedHarm_89 : decode cX4_addedHarm 89 = .ok (.iaload, 1) := by decide +kernel
theorem dX4_addedHarm_90 : decode cX4_addedHarm 90 = .ok (.aload_n 0, 1) := by decide +kernel
theorem dX4_addedHarm_91 : decode cX4_addedHarm 91 = .ok (.iload_n 2, 1) := by decide +kernel
theorem dX4_addedHarm_92 : decode cX4_addedHarm 92 = .ok (.invokevirtual 137, 3) := by decide +kernel
theorem dX4_addedHarm_95 : decode cX4_addedHarm 95 = .ok (.imul, 1) := by decide +kernel
theorem dX4_addedHarm_96 : decode cX4_addedHarm 96 = .ok (.ireturn, 1) := by decide +kernel
theorem dX4_addedHarm_97 : decode cX4_addedHarm 97 = .ok (.iconst 0, 1) := by decide +kernel
theorem dX4_addedHarm_98 : decode cX4_addedHarm 98 = .ok (.ireturn, 1) := by decide +kernel
theorem dX4_leftIn_0 : decode cX4_leftIn 0 = .ok (.iconst 0, 1) := by decide +kernel
theorem dX4_leftIn_1 : decode cX4_leftIn 1 = .ok (.istore_n 2, 1) := by decide +kernel
theorem dX4_leftIn_2 : decode cX4_leftIn 2 = .ok (.iconst 0, 1) := by decide +kernel
theorem dX4_leftIn_3 : decode cX4_leftIn 3 = .ok (.istore_n 3, 1) := by decide +kernel
theorem dX4_leftIn_4 : decode cX4_leftIn 4 = .ok (.iload_n 3, 1) := by decide +kernel
theorem dX4_leftIn_5 : decode cX4_leftIn 5 = .ok (.aload_n 0, 1) := by decide +kernel
theorem dX4_leftIn_6 : decode cX4_leftIn 6 = .ok (.getfield 26, 3) := by decide +kernel
theorem dX4_leftIn_9 : decode cX4_leftIn 9 = .ok (.getfield 56, 3) := by decide +kernel
theorem dX4_leftIn_12 : decode cX4_leftIn 12 = .ok (.if_icmp .ge 42, 3) := by decide +kernel
theorem dX4_leftIn_15 : decode cX4_leftIn 15 = .ok (.iload_n 1, 1) := by decide +kernel
theorem dX4_leftIn_16 : decode cX4_leftIn 16 = .ok (.iload_n 3, 1) := by decide +kernel
theorem dX4_leftIn_17 : decode cX4_leftIn 17 = .ok (.ishr, 1) := by decide +kernel
theorem dX4_leftIn_18 : decode cX4_leftIn 18 = .ok (.iconst 1, 1) := by decide +kernel
theorem dX4_leftIn_19 : decode cX4_leftIn 19 = .ok (.iand, 1) := by decide +kernel
theorem dX4_leftIn_20 : decode cX4_leftIn 20 = .ok (.ifCond .eq 28, 3) := by decide +kernel
theorem dX4_leftIn_23 : decode cX4_leftIn 23 = .ok (.aload_n 0, 1) := by decide +kernel
theorem dX4_leftIn_24 : decode cX4_leftIn 24 = .ok (.getfield 15, 3) := by decide +kernel
theorem dX4_leftIn_27 : decode cX4_leftIn 27 = .ok (.iload_n 3, 1) := by decide +kernel
theorem dX4_leftIn_28 : decode cX4_leftIn 28 = .ok (.iaload, 1) := by decide +kernel
theorem dX4_leftIn_29 : decode cX4_leftIn 29 = .ok (.iload_n 1, 1) := by decide +kernel
theorem dX4_leftIn_30 : decode cX4_leftIn 30 = .ok (.iand, 1) := by decide +kernel
theorem dX4_leftIn_31 : decode cX4_leftIn 31 = .ok (.ifCond .ne 17, 3) := by decide +kernel
theorem dX4_leftIn_34 : decode cX4_leftIn 34 = .ok (.iload_n 2, 1) := by decide +kernel
theorem dX4_leftIn_35 : decode cX4_leftIn 35 = .ok (.iconst 1, 1) := by decide +kernel
theorem dX4_leftIn_36 : decode cX4_leftIn 36 = .ok (.aload_n 0, 1) := by decide +kernel
theorem dX4_leftIn_37 : decode cX4_leftIn 37 = .ok (.getfield 26, 3) := by decide +kernel
theorem dX4_leftIn_40 : decode cX4_leftIn 40 = .ok (.getfield 82, 3) := by decide +kernel
theorem dX4_leftIn_43 : decode cX4_leftIn 43 = .ok (.iload_n 3, 1) := by decide +kernel
theorem dX4_leftIn_44 : decode cX4_leftIn 44 = .ok (.iaload, 1) := by decide +kernel
theorem dX4_leftIn_45 : decode cX4_leftIn 45 = .ok (.iadd, 1) := by decide +kernel
theorem dX4_leftIn_46 : decode cX4_leftIn 46 = .ok (.iadd, 1) := by decide +kernel
theorem dX4_leftIn_47 : decode cX4_leftIn 47 = .ok (.istore_n 2, 1) := by decide +kernel
theorem dX4_leftIn_48 : decode cX4_leftIn 48 = .ok (.iinc 3 1, 3) := by decide +kernel
theorem dX4_leftIn_51 : decode cX4_leftIn 51 = .ok (.goto (-47), 3) := by decide +kernel
theorem dX4_leftIn_54 : decode cX4_leftIn 54 = .ok (.iload_n 2, 1) := by decide +kernel
theorem dX4_leftIn_55 : decode cX4_leftIn 55 = .ok (.ireturn, 1) := by decide +kernel
theorem dX4_regretIn_0 : decode cX4_regretIn 0 = .ok (.iconst 0, 1) := by decide +kernel
theorem dX4_regretIn_1 : decode cX4_regretIn 1 = .ok (.istore_n 2, 1) := by decide +kernel
theorem dX4_regretIn_2 : decode cX4_regretIn 2 = .ok (.iconst 0, 1) := by decide +kernel
theorem dX4_regretIn_3 : decode cX4_regretIn 3 = .ok (.istore_n 3, 1) := by decide +kernel
theorem dX4_regretIn_4 : decode cX4_regretIn 4 = .ok (.iload_n 3, 1) := by decide +kernel
theorem dX4_regretIn_5 : decode cX4_regretIn 5 = .ok (.aload_n 0, 1) := by decide +kernel
theorem dX4_regretIn_6 : decode cX4_regretIn 6 = .ok (.getfield 26, 3) := by decide +kernel
theorem dX4_regretIn_9 : decode cX4_regretIn 9 = .ok (.getfield 56, 3) := by decide +kernel
theorem dX4_regretIn_12 : decode cX4_regretIn 12 = .ok (.if_icmp .ge 59, 3) := by decide +kernel
theorem dX4_regretIn_15 : decode cX4_regretIn 15 = .ok (.iload_n 1, 1) := by decide +kernel
theorem dX4_regretIn_16 : decode cX4_regretIn 16 = .ok (.iload_n 3, 1) := by decide +kernel
theorem dX4_regretIn_17 : decode cX4_regretIn 17 = .ok (.ishr, 1) := by decide +kernel
theorem dX4_regretIn_18 : decode cX4_regretIn 18 = .ok (.iconst 1, 1) := by decide +kernel
theorem dX4_regretIn_19 : decode cX4_regretIn 19 = .ok (.iand, 1) := by decide +kernel
theorem dX4_regretIn_20 : decode cX4_regretIn 20 = .ok (.ifCond .eq 45, 3) := by decide +kernel
theorem dX4_regretIn_23 : decode cX4_regretIn 23 = .ok (.iconst 0, 1) := by decide +kernel
theorem dX4_regretIn_24 : decode cX4_regretIn 24 = .ok (.istore 4, 2) := by decide +kernel
theorem dX4_regretIn_26 : decode cX4_regretIn 26 = .ok (.iload 4, 2) := by decide +kernel
theorem dX4_regretIn_28 : decode cX4_regretIn 28 = .ok (.iload_n 3, 1) := by decide +kernel
theorem dX4_regretIn_29 : decode cX4_regretIn 29 = .ok (.if_icmp .ge 36, 3) := by decide +kernel
theorem dX4_regretIn_32 : decode cX4_regretIn 32 = .ok (.iload_n 1, 1) := by decide +kernel
theorem dX4_regretIn_33 : decode cX4_regretIn 33 = .ok (.iload 4, 2) := by decide +kernel
theorem dX4_regretIn_35 : decode cX4_regretIn 35 = .ok (.ishr, 1) := by decide +kernel
theorem dX4_regretIn_36 : decode cX4_regretIn 36 = .ok (.iconst 1, 1) := by decide +kernel
theorem dX4_regretIn_37 : decode cX4_regretIn 37 = .ok (.iand, 1) := by decide +kernel
theorem dX4_regretIn_38 : decode cX4_regretIn 38 = .ok (.ifCond .eq 21, 3) := by decide +kernel
theorem dX4_regretIn_41 : decode cX4_regretIn 41 = .ok (.iload_n 2, 1) := by decide +kernel
theorem dX4_regretIn_42 : decode cX4_regretIn 42 = .ok (.aload_n 0, 1) := by decide +kernel
theorem dX4_regretIn_43 : decode cX4_regretIn 43 = .ok (.getfield 26, 3) := by decide +kernel
theorem dX4_regretIn_46 : decode cX4_regretIn 46 = .ok (.getfield 140, 3) := by decide +kernel
theorem dX4_regretIn_49 : decode cX4_regretIn 49 = .ok (.iload_n 3, 1) := by decide +kernel
theorem dX4_regretIn_50 : decode cX4_regretIn 50 = .ok (.bipush 14, 2) := by decide +kernel
theorem dX4_regretIn_52 : decode cX4_regretIn 52 = .ok (.imul, 1) := by decide +kernel
theorem dX4_regretIn_53 : decode cX4_regretIn 53 = .ok (.iload 4, 2) := by decide +kernel
theorem dX4_regretIn_55 : decode cX4_regretIn 55 = .ok (.iadd, 1) := by decide +kernel
theorem dX4_regretIn_56 : decode cX4_regretIn 56 = .ok (.iaload, 1) := by decide +kernel
theorem dX4_regretIn_57 : decode cX4_regretIn 57 = .ok (.iadd, 1) := by decide +kernel
theorem dX4_regretIn_58 : decode cX4_regretIn 58 = .ok (.istore_n 2, 1) := by decide +kernel
theorem dX4_regretIn_59 : decode cX4_regretIn 59 = .ok (.iinc 4 1, 3) := by decide +kernel
theorem dX4_regretIn_62 : decode cX4_regretIn 62 = .ok (.goto (-36), 3) := by decide +kernel
theorem dX4_regretIn_65 : decode cX4_regretIn 65 = .ok (.iinc 3 1, 3) := by decide +kernel
theorem dX4_regretIn_68 : decode cX4_regretIn 68 = .ok (.goto (-64), 3) := by decide +kernel
theorem dX4_regretIn_71 : decode cX4_regretIn 71 = .ok (.iload_n 2, 1) := by decide +kernel
theorem dX4_regretIn_72 : decode cX4_regretIn 72 = .ok (.ireturn, 1) := by decide +kernel
theorem dX4_harmBy_0 : decode cX4_harmBy 0 = .ok (.aload_n 0, 1) := by decide +kernel
theorem dX4_harmBy_1 : decode cX4_harmBy 1 = .ok (.iload_n 1, 1) := by decide +kernel
theorem dX4_harmBy_2 : decode cX4_harmBy 2 = .ok (.invokevirtual 143, 3) := by decide +kernel
theorem dX4_harmBy_5 : decode cX4_harmBy 5 = .ok (.ifCond .eq 78, 3) := by decide +kernel
theorem dX4_harmBy_8 : decode cX4_harmBy 8 = .ok (.aload_n 0, 1) := by decide +kernel
theorem dX4_harmBy_9 : decode cX4_harmBy 9 = .ok (.iload_n 1, 1) := by decide +kernel
theorem dX4_harmBy_10 : decode cX4_harmBy 10 = .ok (.aload_n 2, 1) := by decide +kernel
theorem dX4_harmBy_11 : decode cX4_harmBy 11 = .ok (.iconst 0, 1) := by decide +kernel
theorem dX4_harmBy_12 : decode cX4_harmBy 12 = .ok (.iaload, 1) := by decide +kernel
theorem dX4_harmBy_13 : decode cX4_harmBy 13 = .ok (.invokevirtual 146, 3) := by decide +kernel
theorem dX4_harmBy_16 : decode cX4_harmBy 16 = .ok (.istore_n 3, 1) := by decide +kernel
theorem dX4_harmBy_17 : decode cX4_harmBy 17 = .ok (.iload_n 3, 1) := by decide +kernel
theorem dX4_harmBy_18 : decode cX4_harmBy 18 = .ok (.istore 4, 2) := by decide +kernel
theorem dX4_harmBy_20 : decode cX4_harmBy 20 = .ok (.iconst 1, 1) := by decide +kernel
theorem dX4_harmBy_21 : decode cX4_harmBy 21 = .ok (.istore 5, 2) := by decide +kernel
theorem dX4_harmBy_23 : decode cX4_harmBy 23 = .ok (.iload 5, 2) := by decide +kernel
theorem dX4_harmBy_25 : decode cX4_harmBy 25 = .ok (.aload_n 0, 1) := by decide +kernel
theorem dX4_harmBy_26 : decode cX4_harmBy 26 = .ok (.getfield 26, 3) := by decide +kernel
theorem dX4_harmBy_29 : decode cX4_harmBy 29 = .ok (.getfield 149, 3) := by decide +kernel
theorem dX4_harmBy_32 : decode cX4_harmBy 32 = .ok (.if_icmp .ge 36, 3) := by decide +kernel
theorem dX4_harmBy_35 : decode cX4_harmBy 35 = .ok (.aload_n 0, 1) := by decide +kernel
theorem dX4_harmBy_36 : decode cX4_harmBy 36 = .ok (.iload_n 1, 1) := by decide +kernel
theorem dX4_harmBy_37 : decode cX4_harmBy 37 = .ok (.aload_n 2, 1) := by decide +kernel
theorem dX4_harmBy_38 : decode cX4_harmBy 38 = .ok (.iload 5, 2) := by decide +kernel
theorem dX4_harmBy_40 : decode cX4_harmBy 40 = .ok (.iaload, 1) := by decide +kernel
theorem dX4_harmBy_41 : decode cX4_harmBy 41 = .ok (.invokevirtual 146, 3) := by decide +kernel
theorem dX4_harmBy_44 : decode cX4_harmBy 44 = .ok (.istore 6, 2) := by decide +kernel
theorem dX4_harmBy_46 : decode cX4_harmBy 46 = .ok (.iload_n 3, 1) := by decide +kernel
theorem dX4_harmBy_47 : decode cX4_harmBy 47 = .ok (.iload 6, 2) := by decide +kernel
theorem dX4_harmBy_49 : decode cX4_harmBy 49 = .ok (.invokestatic 152, 3) := by decide +kernel
theorem dX4_harmBy_52 : decode cX4_harmBy 52 = .ok (.istore_n 3, 1) := by decide +kernel
theorem dX4_harmBy_53 : decode cX4_harmBy 53 = .ok (.iload 4, 2) := by decide +kernel
theorem dX4_harmBy_55 : decode cX4_harmBy 55 = .ok (.iload 6, 2) := by decide +kernel
theorem dX4_harmBy_57 : decode cX4_harmBy 57 = .ok (.invokestatic 157, 3) := by decide +kernel
theorem dX4_harmBy_60 : decode cX4_harmBy 60 = .ok (.istore 4, 2) := by decide +kernel
theorem dX4_harmBy_62 : decode cX4_harmBy 62 = .ok (.iinc 5 1, 3) := by decide +kernel
theorem dX4_harmBy_65 : decode cX4_harmBy 65 = .ok (.goto (-42), 3) := by decide +kernel
theorem dX4_harmBy_68 : decode cX4_harmBy 68 = .ok (.aload_n 0, 1) := by decide +kernel
theorem dX4_harmBy_69 : decode cX4_harmBy 69 = .ok (.getfield 34, 3) := by decide +kernel
theorem dX4_harmBy_72 : decode cX4_harmBy 72 = .ok (.getfield 131, 3) := by decide +kernel
theorem dX4_harmBy_75 : decode cX4_harmBy 75 = .ok (.iload_n 1, 1) := by decide +kernel
theorem dX4_harmBy_76 : decode cX4_harmBy 76 = .ok (.iaload, 1) := by decide +kernel
theorem dX4_harmBy_77 : decode cX4_harmBy 77 = .ok (.iload 4, 2) := by decide +kernel
theorem dX4_harmBy_79 : decode cX4_harmBy 79 = .ok (.iload_n 3, 1) := by decide +kernel
theorem dX4_harmBy_80 : decode cX4_harmBy 80 = .ok (.isub, 1) := by decide +kernel
theorem dX4_harmBy_81 : decode cX4_harmBy 81 = .ok (.imul, 1) := by decide +kernel
theorem dX4_harmBy_82 : decode cX4_harmBy 82 = .ok (.ireturn, 1) := by decide +kernel
theorem dX4_harmBy_83 : decode cX4_harmBy 83 = .ok (.iconst 0, 1) := by decide +kernel
theorem dX4_harmBy_84 : decode cX4_harmBy 84 = .ok (.istore_n 3, 1) := by decide +kernel
theorem dX4_harmBy_85 : decode cX4_harmBy 85 = .ok (.iconst 0, 1) := by decide +kernel
theorem dX4_harmBy_86 : decode cX4_harmBy 86 = .ok (.istore 4, 2) := by decide +kernel
theorem dX4_harmBy_88 : decode cX4_harmBy 88 = .ok (.iload 4, 2) := by decide +kernel
theorem dX4_harmBy_90 : decode cX4_harmBy 90 = .ok (.aload_n 0, 1) := by decide +kernel
theorem dX4_harmBy_91 : decode cX4_harmBy 91 = .ok (.getfield 26, 3) := by decide +kernel
theorem dX4_harmBy_94 : decode cX4_harmBy 94 = .ok (.getfield 149, 3) := by decide +kernel
theorem dX4_harmBy_97 : decode cX4_harmBy 97 = .ok (.if_icmp .ge 21, 3) := by decide +kernel
theorem dX4_harmBy_100 : decode cX4_harmBy 100 = .ok (.iload_n 3, 1) := by decide +kernel
theorem dX4_harmBy_101 : decode cX4_harmBy 101 = .ok (.aload_n 0, 1) := by decide +kernel
theorem dX4_harmBy_102 : decode cX4_harmBy 102 = .ok (.iload_n 1, 1) := by decide +kernel
theorem dX4_harmBy_103 : decode cX4_harmBy 103 = .ok (.aload_n 2, 1) := by decide +kernel
theorem dX4_harmBy_104 : decode cX4_harmBy 104 = .ok (.iload 4, 2) := by decide +kernel
theorem dX4_harmBy_106 : decode cX4_harmBy 106 = .ok (.iaload, 1) := by decide +kernel
theorem dX4_harmBy_107 : decode cX4_harmBy 107 = .ok (.invokevirtual 160, 3) := by decide +kernel
theorem dX4_harmBy_110 : decode cX4_harmBy 110 = .ok (.iadd, 1) := by decide +kernel
theorem dX4_harmBy_111 : decode cX4_harmBy 111 = .ok (.istore_n 3, 1) := by decide +kernel
theorem dX4_harmBy_112 : decode cX4_harmBy 112 = .ok (.iinc 4 1, 3) := by decide +kernel
theorem dX4_harmBy_115 : decode cX4_harmBy 115 = .ok (.goto (-27), 3) := by decide +kernel
theorem dX4_harmBy_118 : decode cX4_harmBy 118 = .ok (.iload_n 3, 1) := by decide +kernel
theorem dX4_harmBy_119 : decode cX4_harmBy 119 = .ok (.ireturn, 1) := by decide +kernel
theorem dX4_harmOf_0 : decode cX4_harmOf 0 = .ok (.iconst 0, 1) := by decide +kernel
theorem dX4_harmOf_1 : decode cX4_harmOf 1 = .ok (.istore_n 2, 1) := by decide +kernel
theorem dX4_harmOf_2 : decode cX4_harmOf 2 = .ok (.iconst 0, 1) := by decide +kernel
theorem dX4_harmOf_3 : decode cX4_harmOf 3 = .ok (.istore_n 3, 1) := by decide +kernel
theorem dX4_harmOf_4 : decode cX4_harmOf 4 = .ok (.iload_n 3, 1) := by decide +kernel
theorem dX4_harmOf_5 : decode cX4_harmOf 5 = .ok (.aload_n 0, 1) := by decide +kernel
theorem dX4_harmOf_6 : decode cX4_harmOf 6 = .ok (.getfield 34, 3) := by decide +kernel
theorem dX4_harmOf_9 : decode cX4_harmOf 9 = .ok (.getfield 69, 3) := by decide +kernel
theorem dX4_harmOf_12 : decode cX4_harmOf 12 = .ok (.if_icmp .ge 18, 3) := by decide +kernel
theorem dX4_harmOf_15 : decode cX4_harmOf 15 = .ok (.iload_n 2, 1) := by decide +kernel
theorem dX4_harmOf_16 : decode cX4_harmOf 16 = .ok (.aload_n 0, 1) := by decide +kernel
theorem dX4_harmOf_17 : decode cX4_harmOf 17 = .ok (.iload_n 3, 1) := by decide +kernel
theorem dX4_harmOf_18 : decode cX4_harmOf 18 = .ok (.aload_n 1, 1) := by decide +kernel
theorem dX4_harmOf_19 : decode cX4_harmOf 19 = .ok (.invokevirtual 163, 3) := by decide +kernel
theorem dX4_harmOf_22 : decode cX4_harmOf 22 = .ok (.iadd, 1) := by decide +kernel
theorem dX4_harmOf_23 : decode cX4_harmOf 23 = .ok (.istore_n 2, 1) := by decide +kernel
theorem dX4_harmOf_24 : decode cX4_harmOf 24 = .ok (.iinc 3 1, 3) := by decide +kernel
theorem dX4_harmOf_27 : decode cX4_harmOf 27 = .ok (.goto (-23), 3) := by decide +kernel
theorem dX4_harmOf_30 : decode cX4_harmOf 30 = .ok (.iload_n 2, 1) := by decide +kernel
theorem dX4_harmOf_31 : decode cX4_harmOf 31 = .ok (.ireturn, 1) := by decide +kernel
theorem dX4_lackIn_0 : decode cX4_lackIn 0 = .ok (.iconst 0, 1) := by decide +kernel
theorem dX4_lackIn_1 : decode cX4_lackIn 1 = .ok (.istore_n 2, 1) := by decide +kernel
theorem dX4_lackIn_2 : decode cX4_lackIn 2 = .ok (.iconst 0, 1) := by decide +kernel
theorem dX4_lackIn_3 : decode cX4_lackIn 3 = .ok (.istore_n 3, 1) := by decide +kernel
theorem dX4_lackIn_4 : decode cX4_lackIn 4 = .ok (.iload_n 3, 1) := by decide +kernel
theorem dX4_lackIn_5 : decode cX4_lackIn 5 = .ok (.aload_n 0, 1) := by decide +kernel
theorem dX4_lackIn_6 : decode cX4_lackIn 6 = .ok (.getfield 34, 3) := by decide +kernel
theorem dX4_lackIn_9 : decode cX4_lackIn 9 = .ok (.getfield 69, 3) := by decide +kernel
theorem dX4_lackIn_12 : decode cX4_lackIn 12 = .ok (.if_icmp .ge 51, 3) := by decide +kernel
theorem dX4_lackIn_15 : decode cX4_lackIn 15 = .ok (.aload_n 0, 1) := by decide +kernel
theorem dX4_lackIn_16 : decode cX4_lackIn 16 = .ok (.getfield 34, 3) := by decide +kernel
theorem dX4_lackIn_19 : decode cX4_lackIn 19 = .ok (.getfield 117, 3) := by decide +kernel
theorem dX4_lackIn_22 : decode cX4_lackIn 22 = .ok (.iload_n 3, 1) := by decide +kernel
theorem dX4_lackIn_23 : decode cX4_lackIn 23 = .ok (.iaload, 1) := by decide +kernel
theorem dX4_lackIn_24 : decode cX4_lackIn 24 = .ok (.bipush 15, 2) := by decide +kernel
theorem dX4_lackIn_26 : decode cX4_lackIn 26 = .ok (.if_icmp .ne 31, 3) := by decide +kernel
theorem dX4_lackIn_29 : decode cX4_lackIn 29 = .ok (.iload_n 2, 1) := by decide +kernel
theorem dX4_lackIn_30 : decode cX4_lackIn 30 = .ok (.iconst 0, 1) := by decide +kernel
theorem dX4_lackIn_31 : decode cX4_lackIn 31 = .ok (.aload_n 0, 1) := by decide +kernel
theorem dX4_lackIn_32 : decode cX4_lackIn 32 = .ok (.getfield 34, 3) := by decide +kernel
theorem dX4_lackIn_35 : decode cX4_lackIn 35 = .ok (.getfield 131, 3) := by decide +kernel
theorem dX4_lackIn_38 : decode cX4_lackIn 38 = .ok (.iload_n 3, 1) := by decide +kernel
theorem dX4_lackIn_39 : decode cX4_lackIn 39 = .ok (.iaload, 1) := by decide +kernel
theorem dX4_lackIn_40 : decode cX4_lackIn 40 = .ok (.aload_n 0, 1) := by decide +kernel
theorem dX4_lackIn_41 : decode cX4_lackIn 41 = .ok (.getfield 20, 3) := by decide +kernel
theorem dX4_lackIn_44 : decode cX4_lackIn 44 = .ok (.iload_n 3, 1) := by decide +kernel
theorem dX4_lackIn_45 : decode cX4_lackIn 45 = .ok (.iaload, 1) := by decide +kernel
theorem dX4_lackIn_46 : decode cX4_lackIn 46 = .ok (.iload_n 1, 1) := by decide +kernel
theorem dX4_lackIn_47 : decode cX4_lackIn 47 = .ok (.iand, 1) := by decide +kernel
theorem dX4_lackIn_48 : decode cX4_lackIn 48 = .ok (.invokestatic 123, 3) := by decide +kernel
theorem dX4_lackIn_51 : decode cX4_lackIn 51 = .ok (.isub, 1) := by decide +kernel
theorem dX4_lackIn_52 : decode cX4_lackIn 52 = .ok (.invokestatic 157, 3) := by decide +kernel
theorem dX4_lackIn_55 : decode cX4_lackIn 55 = .ok (.iadd, 1) := by decide +kernel
theorem dX4_lackIn_56 : decode cX4_lackIn 56 = .ok (.istore_n 2, 1) := by decide +kernel
theorem dX4_lackIn_57 : decode cX4_lackIn 57 = .ok (.iinc 3 1, 3) := by decide +kernel
theorem dX4_lackIn_60 : decode cX4_lackIn 60 = .ok (.goto (-56), 3) := by decide +kernel
theorem dX4_lackIn_63 : decode cX4_lackIn 63 = .ok (.iload_n 2, 1) := by decide +kernel
theorem dX4_lackIn_64 : decode cX4_lackIn 64 = .ok (.ireturn, 1) := by decide +kernel
theorem dX4_lackOf_0 : decode cX4_lackOf 0 = .ok (.iconst 0, 1) := by decide +kernel
theorem dX4_lackOf_1 : decode cX4_lackOf 1 = .ok (.istore_n 2, 1) := by decide +kernel
theorem dX4_lackOf_2 : decode cX4_lackOf 2 = .ok (.iconst 0, 1) := by decide +kernel
theorem dX4_lackOf_3 : decode cX4_lackOf 3 = .ok (.istore_n 3, 1) := by decide +kernel
theorem dX4_lackOf_4 : decode cX4_lackOf 4 = .ok (.iload_n 3, 1) := by decide +kernel
theorem dX4_lackOf_5 : decode cX4_lackOf 5 = .ok (.aload_n 0, 1) := by decide +kernel
theorem dX4_lackOf_6 : decode cX4_lackOf 6 = .ok (.getfield 26, 3) := by decide +kernel
theorem dX4_lackOf_9 : decode cX4_lackOf 9 = .ok (.getfield 149, 3) := by decide +kernel
theorem dX4_lackOf_12 : decode cX4_lackOf 12 = .ok (.if_icmp .ge 19, 3) := by decide +kernel
theorem dX4_lackOf_15 : decode cX4_lackOf 15 = .ok (.iload_n 2, 1) := by decide +kernel
theorem dX4_lackOf_16 : decode cX4_lackOf 16 = .ok (.aload_n 0, 1) := by decide +kernel
theorem dX4_lackOf_17 : decode cX4_lackOf 17 = .ok (.aload_n 1, 1) := by decide +kernel
theorem dX4_lackOf_18 : decode cX4_lackOf 18 = .ok (.iload_n 3, 1) := by decide +kernel
theorem dX4_lackOf_19 : decode cX4_lackOf 19 = .ok (.iaload, 1) := by decide +kernel
theorem dX4_lackOf_20 : decode cX4_lackOf 20 = .ok (.invokevirtual 167, 3) := by decide +kernel
theorem dX4_lackOf_23 : decode cX4_lackOf 23 = .ok (.iadd, 1) := by decide +kernel
theorem dX4_lackOf_24 : decode cX4_lackOf 24 = .ok (.istore_n 2, 1) := by decide +kernel
theorem dX4_lackOf_25 : decode cX4_lackOf 25 = .ok (.iinc 3 1, 3) := by decide +kernel
theorem dX4_lackOf_28 : decode cX4_lackOf 28 = .ok (.goto (-24), 3) := by decide +kernel
theorem dX4_lackOf_31 : decode cX4_lackOf 31 = .ok (.iload_n 2, 1) := by decide +kernel
theorem dX4_lackOf_32 : decode cX4_lackOf 32 = .ok (.ireturn, 1) := by decide +kernel
theorem dX4_isSound_0 : decode cX4_isSound 0 = .ok (.iconst 0, 1) := by decide +kernel
theorem dX4_isSound_1 : decode cX4_isSound 1 = .ok (.istore_n 2, 1) := by decide +kernel
theorem dX4_isSound_2 : decode cX4_isSound 2 = .ok (.iconst 0, 1) := by decide +kernel
theorem dX4_isSound_3 : decode cX4_isSound 3 = .ok (.istore_n 3, 1) := by decide +kernel
theorem dX4_isSound_4 : decode cX4_isSound 4 = .ok (.iload_n 3, 1) := by decide +kernel
theorem dX4_isSound_5 : decode cX4_isSound 5 = .ok (.aload_n 0, 1) := by decide +kernel
theorem dX4_isSound_6 : decode cX4_isSound 6 = .ok (.getfield 26, 3) := by decide +kernel
theorem dX4_isSound_9 : decode cX4_isSound 9 = .ok (.getfield 149, 3) := by decide +kernel
theorem dX4_isSound_12 : decode cX4_isSound 12 = .ok (.if_icmp .ge 15, 3) := by decide +kernel
theorem dX4_isSound_15 : decode cX4_isSound 15 = .ok (.iload_n 2, 1) := by decide +kernel
theorem dX4_isSound_16 : decode cX4_isSound 16 = .ok (.aload_n 1, 1) := by decide +kernel
theorem dX4_isSound_17 : decode cX4_isSound 17 = .ok (.iload_n 3, 1) := by decide +kernel
theorem dX4_isSound_18 : decode cX4_isSound 18 = .ok (.iaload, 1) := by decide +kernel
theorem dX4_isSound_19 : decode cX4_isSound 19 = .ok (.ior, 1) := by decide +kernel
theorem dX4_isSound_20 : decode cX4_isSound 20 = .ok (.istore_n 2, 1) := by decide +kernel
theorem dX4_isSound_21 : decode cX4_isSound 21 = .ok (.iinc 3 1, 3) := by decide +kernel
theorem dX4_isSound_24 : decode cX4_isSound 24 = .ok (.goto (-20), 3) := by decide +kernel
theorem dX4_isSound_27 : decode cX4_isSound 27 = .ok (.iconst 0, 1) := by decide +kernel
theorem dX4_isSound_28 : decode cX4_isSound 28 = .ok (.istore_n 3, 1) := by decide +kernel
theorem dX4_isSound_29 : decode cX4_isSound 29 = .ok (.iload_n 3, 1) := by decide +kernel
theorem dX4_isSound_30 : decode cX4_isSound 30 = .ok (.aload_n 0, 1) := by decide +kernel
theorem dX4_isSound_31 : decode cX4_isSound 31 = .ok (.getfield 26, 3) := by decide +kernel
theorem dX4_isSound_34 : decode cX4_isSound 34 = .ok (.getfield 149, 3) := by decide +kernel
theorem dX4_isSound_37 : decode cX4_isSound 37 = .ok (.if_icmp .ge 33, 3) := by decide +kernel
theorem dX4_isSound_40 : decode cX4_isSound 40 = .ok (.aload_n 0, 1) := by decide +kernel
theorem dX4_isSound_41 : decode cX4_isSound 41 = .ok (.iload_n 3, 1) := by decide +kernel
theorem dX4_isSound_42 : decode cX4_isSound 42 = .ok (.aload_n 1, 1) := by decide +kernel
theorem dX4_isSound_43 : decode cX4_isSound 43 = .ok (.iload_n 3, 1) := by decide +kernel
theorem dX4_isSound_44 : decode cX4_isSound 44 = .ok (.iaload, 1) := by decide +kernel
theorem dX4_isSound_45 : decode cX4_isSound 45 = .ok (.invokevirtual 170, 3) := by decide +kernel
theorem dX4_isSound_48 : decode cX4_isSound 48 = .ok (.ifCond .eq 14, 3) := by decide +kernel
theorem dX4_isSound_51 : decode cX4_isSound 51 = .ok (.aload_n 0, 1) := by decide +kernel
theorem dX4_isSound_52 : decode cX4_isSound 52 = .ok (.aload_n 1, 1) := by decide +kernel
theorem dX4_isSound_53 : decode cX4_isSound 53 = .ok (.iload_n 3, 1) := by decide +kernel
theorem dX4_isSound_54 : decode cX4_isSound 54 = .ok (.iaload, 1) := by decide +kernel
theorem dX4_isSound_55 : decode cX4_isSound 55 = .ok (.iload_n 2, 1) := by decide +kernel
theorem dX4_isSound_56 : decode cX4_isSound 56 = .ok (.invokevirtual 173, 3) := by decide +kernel
theorem dX4_isSound_59 : decode cX4_isSound 59 = .ok (.ifCond .ne 5, 3) := by decide +kernel
theorem dX4_isSound_62 : decode cX4_isSound 62 = .ok (.iconst 0, 1) := by decide +kernel
theorem dX4_isSound_63 : decode cX4_isSound 63 = .ok (.ireturn, 1) := by decide +kernel
theorem dX4_isSound_64 : decode cX4_isSound 64 = .ok (.iinc 3 1, 3) := by decide +kernel
theorem dX4_isSound_67 : decode cX4_isSound 67 = .ok (.goto (-38), 3) := by decide +kernel
theorem dX4_isSound_70 : decode cX4_isSound 70 = .ok (.iconst 1, 1) := by decide +kernel
theorem dX4_isSound_71 : decode cX4_isSound 71 = .ok (.ireturn, 1) := by decide +kernel
theorem dX4_allows_0 : decode cX4_allows 0 = .ok (.aload_n 0, 1) := by decide +kernel
theorem dX4_allows_1 : decode cX4_allows 1 = .ok (.aload_n 1, 1) := by decide +kernel
theorem dX4_allows_2 : decode cX4_allows 2 = .ok (.invokevirtual 176, 3) := by decide +kernel
theorem dX4_allows_5 : decode cX4_allows 5 = .ok (.ifCond .ne 15, 3) := by decide +kernel
theorem dX4_allows_8 : decode cX4_allows 8 = .ok (.aload_n 0, 1) := by decide +kernel
theorem dX4_allows_9 : decode cX4_allows 9 = .ok (.aload_n 1, 1) := by decide +kernel
theorem dX4_allows_10 : decode cX4_allows 10 = .ok (.invokevirtual 180, 3) := by decide +kernel
theorem dX4_allows_13 : decode cX4_allows 13 = .ok (.ifCond .eq 7, 3) := by decide +kernel
theorem dX4_allows_16 : decode cX4_allows 16 = .ok (.iconst 1, 1) := by decide +kernel
theorem dX4_allows_17 : decode cX4_allows 17 = .ok (.goto 4, 3) := by decide +kernel
theorem dX4_allows_20 : decode cX4_allows 20 = .ok (.iconst 0, 1) := by decide +kernel
theorem dX4_allows_21 : decode cX4_allows 21 = .ok (.ireturn, 1) := by decide +kernel
theorem dX4_mayStand_0 : decode cX4_mayStand 0 = .ok (.iload_n 2, 1) := by decide +kernel
theorem dX4_mayStand_1 : decode cX4_mayStand 1 = .ok (.invokestatic 123, 3) := by decide +kernel
theorem dX4_mayStand_4 : decode cX4_mayStand 4 = .ok (.aload_n 0, 1) := by decide +kernel
theorem dX4_mayStand_5 : decode cX4_mayStand 5 = .ok (.getfield 26, 3) := by decide +kernel
theorem dX4_mayStand_8 : decode cX4_mayStand 8 = .ok (.getfield 184, 3) := by decide +kernel
theorem dX4_mayStand_11 : decode cX4_mayStand 11 = .ok (.iload_n 1, 1) := by decide +kernel
theorem dX4_mayStand_12 : decode cX4_mayStand 12 = .ok (.iaload, 1) := by decide +kernel
theorem dX4_mayStand_13 : decode cX4_mayStand 13 = .ok (.if_icmp .gt 37, 3) := by decide +kernel
theorem dX4_mayStand_16 : decode cX4_mayStand 16 = .ok (.aload_n 0, 1) := by decide +kernel
theorem dX4_mayStand_17 : decode cX4_mayStand 17 = .ok (.getfield 26, 3) := by decide +kernel
theorem dX4_mayStand_20 : decode cX4_mayStand 20 = .ok (.getfield 187, 3) := by decide +kernel
theorem dX4_mayStand_23 : decode cX4_mayStand 23 = .ok (.iload_n 1, 1) := by decide +kernel
theorem dX4_mayStand_24 : decode cX4_mayStand 24 = .ok (.iaload, 1) := by decide +kernel
theorem dX4_mayStand_25 : decode cX4_mayStand 25 = .ok (.iload_n 2, 1) := by decide +kernel
theorem dX4_mayStand_26 : decode cX4_mayStand 26 = .ok (.iand, 1) := by decide +kernel
theorem dX4_mayStand_27 : decode cX4_mayStand 27 = .ok (.ifCond .ne 23, 3) := by decide +kernel
theorem dX4_mayStand_30 : decode cX4_mayStand 30 = .ok (.aload_n 0, 1) := by decide +kernel
theorem dX4_mayStand_31 : decode cX4_mayStand 31 = .ok (.iload_n 2, 1) := by decide +kernel
theorem dX4_mayStand_32 : decode cX4_mayStand 32 = .ok (.invokevirtual 190, 3) := by decide +kernel
theorem dX4_mayStand_35 : decode cX4_mayStand 35 = .ok (.ifCond .eq 15, 3) := by decide +kernel
theorem dX4_mayStand_38 : decode cX4_mayStand 38 = .ok (.aload_n 0, 1) := by decide +kernel
theorem dX4_mayStand_39 : decode cX4_mayStand 39 = .ok (.iload_n 2, 1) := by decide +kernel
theorem dX4_mayStand_40 : decode cX4_mayStand 40 = .ok (.invokevirtual 193, 3) := by decide +kernel
theorem dX4_mayStand_43 : decode cX4_mayStand 43 = .ok (.ifCond .eq 7, 3) := by decide +kernel
theorem dX4_mayStand_46 : decode cX4_mayStand 46 = .ok (.iconst 1, 1) := by decide +kernel
theorem dX4_mayStand_47 : decode cX4_mayStand 47 = .ok (.goto 4, 3) := by decide +kernel
theorem dX4_mayStand_50 : decode cX4_mayStand 50 = .ok (.iconst 0, 1) := by decide +kernel
theorem dX4_mayStand_51 : decode cX4_mayStand 51 = .ok (.ireturn, 1) := by decide +kernel
theorem dX4_hasNoPair_0 : decode cX4_hasNoPair 0 = .ok (.iconst 0, 1) := by decide +kernel
theorem dX4_hasNoPair_1 : decode cX4_hasNoPair 1 = .ok (.istore_n 2, 1) := by decide +kernel
theorem dX4_hasNoPair_2 : decode cX4_hasNoPair 2 = .ok (.iload_n 2, 1) := by decide +kernel
theorem dX4_hasNoPair_3 : decode cX4_hasNoPair 3 = .ok (.aload_n 0, 1) := by decide +kernel
theorem dX4_hasNoPair_4 : decode cX4_hasNoPair 4 = .ok (.getfield 26, 3) := by decide +kernel
theorem dX4_hasNoPair_7 : decode cX4_hasNoPair 7 = .ok (.getfield 56, 3) := by decide +kernel
theorem dX4_hasNoPair_10 : decode cX4_hasNoPair 10 = .ok (.if_icmp .ge 66, 3) := by decide +kernel
theorem dX4_hasNoPair_13 : decode cX4_hasNoPair 13 = .ok (.iload_n 1, 1) := by decide +kernel
theorem dX4_hasNoPair_14 : decode cX4_hasNoPair 14 = .ok (.iload_n 2, 1) := by decide +kernel
theorem dX4_hasNoPair_15 : decode cX4_hasNoPair 15 = .ok (.ishr, 1) := by decide +kernel
theorem dX4_hasNoPair_16 : decode cX4_hasNoPair 16 = .ok (.iconst 1, 1) := by decide +kernel
theorem dX4_hasNoPair_17 : decode cX4_hasNoPair 17 = .ok (.iand, 1) := by decide +kernel
theorem dX4_hasNoPair_18 : decode cX4_hasNoPair 18 = .ok (.ifCond .eq 52, 3) := by decide +kernel
theorem dX4_hasNoPair_21 : decode cX4_hasNoPair 21 = .ok (.aload_n 0, 1) := by decide +kernel
theorem dX4_hasNoPair_22 : decode cX4_hasNoPair 22 = .ok (.getfield 42, 3) := by decide +kernel
theorem dX4_hasNoPair_25 : decode cX4_hasNoPair 25 = .ok (.bipush 13, 2) := by decide +kernel
theorem dX4_hasNoPair_27 : decode cX4_hasNoPair 27 = .ok (.if_icmp .ne 25, 3) := by decide +kernel
theorem dX4_hasNoPair_30 : decode cX4_hasNoPair 30 = .ok (.aload_n 0, 1) := by decide +kernel
theorem dX4_hasNoPair_31 : decode cX4_hasNoPair 31 = .ok (.getfield 26, 3) := by decide +kernel
theorem dX4_hasNoPair_34 : decode cX4_hasNoPair 34 = .ok (.getfield 196, 3) := by decide +kernel
theorem dX4_hasNoPair_37 : decode cX4_hasNoPair 37 = .ok (.iload_n 2, 1) := by decide +kernel
theorem dX4_hasNoPair_38 : decode cX4_hasNoPair 38 = .ok (.iaload, 1) := by decide +kernel
theorem dX4_hasNoPair_39 : decode cX4_hasNoPair 39 = .ok (.aload_n 0, 1) := by decide +kernel
theorem dX4_hasNoPair_40 : decode cX4_hasNoPair 40 = .ok (.getfield 26, 3) := by decide +kernel
theorem dX4_hasNoPair_43 : decode cX4_hasNoPair 43 = .ok (.getfield 199, 3) := by decide +kernel
theorem dX4_hasNoPair_46 : decode cX4_hasNoPair 46 = .ok (.iload_n 2, 1) := by decide +kernel
theorem dX4_hasNoPair_47 : decode cX4_hasNoPair 47 = .ok (.iaload, 1) := by decide +kernel
theorem dX4_hasNoPair_48 : decode cX4_hasNoPair 48 = .ok (.ior, 1) := by decide +kernel
theorem dX4_hasNoPair_49 : decode cX4_hasNoPair 49 = .ok (.goto 12, 3) := by decide +kernel
theorem dX4_hasNoPair_52 : decode cX4_hasNoPair 52 = .ok (.aload_n 0, 1) := by decide +kernel
theorem dX4_hasNoPair_53 : decode cX4_hasNoPair 53 = .ok (.getfield 26, 3) := by decide +kernel
theorem dX4_hasNoPair_56 : decode cX4_hasNoPair 56 = .ok (.getfield 196, 3) := by decide +kernel
theorem dX4_hasNoPair_59 : decode cX4_hasNoPair 59 = .ok (.iload_n 2, 1) := by decide +kernel
theorem dX4_hasNoPair_60 : decode cX4_hasNoPair 60 = .ok (.iaload, 1) := by decide +kernel
theorem dX4_hasNoPair_61 : decode cX4_hasNoPair 61 = .ok (.istore_n 3, 1) := by decide +kernel
theorem dX4_hasNoPair_62 : decode cX4_hasNoPair 62 = .ok (.iload_n 3, 1) := by decide +kernel
theorem dX4_hasNoPair_63 : decode cX4_hasNoPair 63 = .ok (.iload_n 1, 1) := by decide +kernel
theorem dX4_hasNoPair_64 : decode cX4_hasNoPair 64 = .ok (.iand, 1) := by decide +kernel
theorem dX4_hasNoPair_65 : decode cX4_hasNoPair 65 = .ok (.ifCond .eq 5, 3) := by decide +kernel
theorem dX4_hasNoPair_68 : decode cX4_hasNoPair 68 = .ok (.iconst 0, 1) := by decide +kernel
theorem dX4_hasNoPair_69 : decode cX4_hasNoPair 69 = .ok (.ireturn, 1) := by decide +kernel
theorem dX4_hasNoPair_70 : decode cX4_hasNoPair 70 = .ok (.iinc 2 1, 3) := by decide +kernel
theorem dX4_hasNoPair_73 : decode cX4_hasNoPair 73 = .ok (.goto (-71), 3) := by decide +kernel
theorem dX4_hasNoPair_76 : decode cX4_hasNoPair 76 = .ok (.iconst 1, 1) := by decide +kernel
theorem dX4_hasNoPair_77 : decode cX4_hasNoPair 77 = .ok (.ireturn, 1) := by decide +kernel
theorem dX4_fitsStatements_0 : decode cX4_fitsStatements 0 = .ok (.iconst 0, 1) := by decide +kernel
theorem dX4_fitsStatements_1 : decode cX4_fitsStatements 1 = .ok (.istore_n 2, 1) := by decide +kernel
theorem dX4_fitsStatements_2 : decode cX4_fitsStatements 2 = .ok (.iload_n 2, 1) := by decide +kernel
theorem dX4_fitsStatements_3 : decode cX4_fitsStatements 3 = .ok (.aload_n 0, 1) := by decide +kernel
theorem dX4_fitsStatements_4 : decode cX4_fitsStatements 4 = .ok (.getfield 34, 3) := by decide +kernel
theorem dX4_fitsStatements_7 : decode cX4_fitsStatements 7 = .ok (.getfield 69, 3) := by decide +kernel
theorem dX4_fitsStatements_10 : decode cX4_fitsStatements 10 = .ok (.if_icmp .ge 81, 3) := by decide +kernel
theorem dX4_fitsStatements_13 : decode cX4_fitsStatements 13 = .ok (.aload_n 0, 1) := by decide +kernel
theorem dX4_fitsStatements_14 : decode cX4_fitsStatements 14 = .ok (.getfield 20, 3) := by decide +kernel
theorem dX4_fitsStatements_17 : decode cX4_fitsStatements 17 = .ok (.iload_n 2, 1) := by decide +kernel
theorem dX4_fitsStatements_18 : decode cX4_fitsStatements 18 = .ok (.iaload, 1) := by decide +kernel
theorem dX4_fitsStatements_19 : decode cX4_fitsStatements 19 = .ok (.iload_n 1, 1) := by decide +kernel
theorem dX4_fitsStatements_20 : decode cX4_fitsStatements 20 = .ok (.iand, 1) := by decide +kernel
theorem dX4_fitsStatements_21 : decode cX4_fitsStatements 21 = .ok (.istore_n 3, 1) := by decide +kernel
theorem dX4_fitsStatements_22 : decode cX4_fitsStatements 22 = .ok (.aload_n 0, 1) := by decide +kernel
theorem dX4_fitsStatements_23 : decode cX4_fitsStatements 23 = .ok (.getfield 34, 3) := by decide +kernel
theorem dX4_fitsStatements_26 : decode cX4_fitsStatements 26 = .ok (.getfield 117, 3) := by decide +kernel
theorem dX4_fitsStatements_29 : decode cX4_fitsStatements 29 = .ok (.iload_n 2, 1) := by decide +kernel
theorem dX4_fitsStatements_30 : decode cX4_fitsStatements 30 = .ok (.iaload, 1) := by decide +kernel
theorem dX4_fitsStatements_31 : decode cX4_fitsStatements 31 = .ok (.bipush 13, 2) := by decide +kernel
theorem dX4_fitsStatements_33 : decode cX4_fitsStatements 33 = .ok (.if_icmp .ne 20, 3) := by decide +kernel
theorem dX4_fitsStatements_36 : decode cX4_fitsStatements 36 = .ok (.iload_n 3, 1) := by decide +kernel
theorem dX4_fitsStatements_37 : decode cX4_fitsStatements 37 = .ok (.aload_n 0, 1) := by decide +kernel
theorem dX4_fitsStatements_38 : decode cX4_fitsStatements 38 = .ok (.getfield 23, 3) := by decide +kernel
theorem dX4_fitsStatements_41 : decode cX4_fitsStatements 41 = .ok (.iload_n 2, 1) := by decide +kernel
theorem dX4_fitsStatements_42 : decode cX4_fitsStatements 42 = .ok (.iaload, 1) := by decide +kernel
theorem dX4_fitsStatements_43 : decode cX4_fitsStatements 43 = .ok (.iload_n 1, 1) := by decide +kernel
theorem dX4_fitsStatements_44 : decode cX4_fitsStatements 44 = .ok (.iand, 1) := by decide +kernel
theorem dX4_fitsStatements_45 : decode cX4_fitsStatements 45 = .ok (.invokestatic 202, 3) := by decide +kernel
theorem dX4_fitsStatements_48 : decode cX4_fitsStatements 48 = .ok (.ifCond .eq 5, 3) := by decide +kernel
theorem dX4_fitsStatements_51 : decode cX4_fitsStatements 51 = .ok (.iconst 0, 1) := by decide +kernel
theorem dX4_fitsStatements_52 : decode cX4_fitsStatements 52 = .ok (.ireturn, 1) := by decide +kernel
theorem dX4_fitsStatements_53 : decode cX4_fitsStatements 53 = .ok (.aload_n 0, 1) := by decide +kernel
theorem dX4_fitsStatements_54 : decode cX4_fitsStatements 54 = .ok (.getfield 34, 3) := by decide +kernel
theorem dX4_fitsStatements_57 : decode cX4_fitsStatements 57 = .ok (.getfield 117, 3) := by decide +kernel
theorem dX4_fitsStatements_60 : decode cX4_fitsStatements 60 = .ok (.iload_n 2, 1) := by decide +kernel
theorem dX4_fitsStatements_61 : decode cX4_fitsStatements 61 = .ok (.iaload, 1) := by decide +kernel
theorem dX4_fitsStatements_62 : decode cX4_fitsStatements 62 = .ok (.bipush 14, 2) := by decide +kernel
theorem dX4_fitsStatements_64 : decode cX4_fitsStatements 64 = .ok (.if_icmp .ne 21, 3) := by decide +kernel
theorem dX4_fitsStatements_67 : decode cX4_fitsStatements 67 = .ok (.iload_n 3, 1) := by decide +kernel
theorem dX4_fitsStatements_68 : decode cX4_fitsStatements 68 = .ok (.invokestatic 123, 3) := by decide +kernel
theorem dX4_fitsStatements_71 : decode cX4_fitsStatements 71 = .ok (.aload_n 0, 1) := by decide +kernel
theorem dX4_fitsStatements_72 : decode cX4_fitsStatements 72 = .ok (.getfield 34, 3) := by decide +kernel
theorem dX4_fitsStatements_75 : decode cX4_fitsStatements 75 = .ok (.getfield 131, 3) := by decide +kernel
theorem dX4_fitsStatements_78 : decode cX4_fitsStatements 78 = .ok (.iload_n 2, 1) := by decide +kernel
theorem dX4_fitsStatements_79 : decode cX4_fitsStatements 79 = .ok (.iaload, 1) := by decide +kernel
theorem dX4_fitsStatements_80 : decode cX4_fitsStatements 80 = .ok (.if_icmp .le 5, 3) := by decide +kernel
theorem dX4_fitsStatements_83 : decode cX4_fitsStatements 83 = .ok (.iconst 0, 1) := by decide +kernel
theorem dX4_fitsStatements_84 : decode cX4_fitsStatements 84 = .ok (.ireturn, 1) := by decide +kernel
theorem dX4_fitsStatements_85 : decode cX4_fitsStatements 85 = .ok (.iinc 2 1, 3) := by decide +kernel
theorem dX4_fitsStatements_88 : decode cX4_fitsStatements 88 = .ok (.goto (-86), 3) := by decide +kernel
theorem dX4_fitsStatements_91 : decode cX4_fitsStatements 91 = .ok (.iconst 1, 1) := by decide +kernel
theorem dX4_fitsStatements_92 : decode cX4_fitsStatements 92 = .ok (.ireturn, 1) := by decide +kernel
theorem dX4_holdsTwo_0 : decode cX4_holdsTwo 0 = .ok (.iload_n 0, 1) := by decide +kernel
theorem dX4_holdsTwo_1 : decode cX4_holdsTwo 1 = .ok (.iload_n 0, 1) := by decide +kernel
theorem dX4_holdsTwo_2 : decode cX4_holdsTwo 2 = .ok (.iconst 1, 1) := by decide +kernel
theorem dX4_holdsTwo_3 : decode cX4_holdsTwo 3 = .ok (.isub, 1) := by decide +kernel
theorem dX4_holdsTwo_4 : decode cX4_holdsTwo 4 = .ok (.iand, 1) := by decide +kernel
theorem dX4_holdsTwo_5 : decode cX4_holdsTwo 5 = .ok (.ifCond .ne 7, 3) := by decide +kernel
theorem dX4_holdsTwo_8 : decode cX4_holdsTwo 8 = .ok (.iconst 1, 1) := by decide +kernel
theorem dX4_holdsTwo_9 : decode cX4_holdsTwo 9 = .ok (.goto 4, 3) := by decide +kernel
theorem dX4_holdsTwo_12 : decode cX4_holdsTwo 12 = .ok (.iconst 0, 1) := by decide +kernel
theorem dX4_holdsTwo_13 : decode cX4_holdsTwo 13 = .ok (.istore_n 2, 1) := by decide +kernel
theorem dX4_holdsTwo_14 : decode cX4_holdsTwo 14 = .ok (.iload_n 0, 1) := by decide +kernel
theorem dX4_holdsTwo_15 : decode cX4_holdsTwo 15 = .ok (.ifCond .eq 20, 3) := by decide +kernel
theorem dX4_holdsTwo_18 : decode cX4_holdsTwo 18 = .ok (.iload_n 1, 1) := by decide +kernel
theorem dX4_holdsTwo_19 : decode cX4_holdsTwo 19 = .ok (.ifCond .eq 16, 3) := by decide +kernel
theorem dX4_holdsTwo_22 : decode cX4_holdsTwo 22 = .ok (.iload_n 0, 1) := by decide +kernel
theorem dX4_holdsTwo_23 : decode cX4_holdsTwo 23 = .ok (.iload_n 1, 1) := by decide +kernel
theorem dX4_holdsTwo_24 : decode cX4_holdsTwo 24 = .ok (.if_icmp .ne 7, 3) := by decide +kernel
theorem dX4_holdsTwo_27 : decode cX4_holdsTwo 27 = .ok (.iload_n 2, 1) := by decide +kernel
theorem dX4_holdsTwo_28 : decode cX4_holdsTwo 28 = .ok (.ifCond .ne 7, 3) := by decide +kernel
theorem dX4_holdsTwo_31 : decode cX4_holdsTwo 31 = .ok (.iconst 1, 1) := by decide +kernel
theorem dX4_holdsTwo_32 : decode cX4_holdsTwo 32 = .ok (.goto 4, 3) := by decide +kernel
theorem dX4_holdsTwo_35 : decode cX4_holdsTwo 35 = .ok (.iconst 0, 1) := by decide +kernel
theorem dX4_holdsTwo_36 : decode cX4_holdsTwo 36 = .ok (.ireturn, 1) := by decide +kernel
theorem dX4_isWhole_0 : decode cX4_isWhole 0 = .ok (.aload_n 0, 1) := by decide +kernel
theorem dX4_isWhole_1 : decode cX4_isWhole 1 = .ok (.getfield 42, 3) := by decide +kernel
theorem dX4_isWhole_4 : decode cX4_isWhole 4 = .ok (.bipush 17, 2) := by decide +kernel
theorem dX4_isWhole_6 : decode cX4_isWhole 6 = .ok (.if_icmp .eq 5, 3) := by decide +kernel
theorem dX4_isWhole_9 : decode cX4_isWhole 9 = .ok (.iconst 1, 1) := by decide +kernel
theorem dX4_isWhole_10 : decode cX4_isWhole 10 = .ok (.ireturn, 1) := by decide +kernel
theorem dX4_isWhole_11 : decode cX4_isWhole 11 = .ok (.iconst 0, 1) := by decide +kernel
theorem dX4_isWhole_12 : decode cX4_isWhole 12 = .ok (.istore_n 3, 1) := by decide +kernel
theorem dX4_isWhole_13 : decode cX4_isWhole 13 = .ok (.iload_n 3, 1) := by decide +kernel
theorem dX4_isWhole_14 : decode cX4_isWhole 14 = .ok (.aload_n 0, 1) := by decide +kernel
theorem dX4_isWhole_15 : decode cX4_isWhole 15 = .ok (.getfield 26, 3) := by decide +kernel
theorem dX4_isWhole_18 : decode cX4_isWhole 18 = .ok (.getfield 56, 3) := by decide +kernel
theorem dX4_isWhole_21 : decode cX4_isWhole 21 = .ok (.if_icmp .ge 37, 3) := by decide +kernel
theorem dX4_isWhole_24 : decode cX4_isWhole 24 = .ok (.iload_n 1, 1) := by decide +kernel
theorem dX4_isWhole_25 : decode cX4_isWhole 25 = .ok (.iload_n 3, 1) := by decide +kernel
theorem dX4_isWhole_26 : decode cX4_isWhole 26 = .ok (.ishr, 1) := by decide +kernel
theorem dX4_isWhole_27 : decode cX4_isWhole 27 = .ok (.iconst 1, 1) := by decide +kernel
theorem dX4_isWhole_28 : decode cX4_isWhole 28 = .ok (.iand, 1) := by decide +kernel
theorem dX4_isWhole_29 : decode cX4_isWhole 29 = .ok (.ifCond .eq 23, 3) := by decide +kernel
theorem dX4_isWhole_32 : decode cX4_isWhole 32 = .ok (.aload_n 0, 1) := by decide +kernel
theorem dX4_isWhole_33 : decode cX4_isWhole 33 = .ok (.getfield 26, 3) := by decide +kernel
theorem dX4_isWhole_36 : decode cX4_isWhole 36 = .ok (.getfield 199, 3) := by decide +kernel
theorem dX4_isWhole_39 : decode cX4_isWhole 39 = .ok (.iload_n 3, 1) := by decide +kernel
theorem dX4_isWhole_40 : decode cX4_isWhole 40 = .ok (.iaload, 1) := by decide +kernel
theorem dX4_isWhole_41 : decode cX4_isWhole 41 = .ok (.iload_n 2, 1) := by decide +kernel
theorem dX4_isWhole_42 : decode cX4_isWhole 42 = .ok (.iand, 1) := by decide +kernel
theorem dX4_isWhole_43 : decode cX4_isWhole 43 = .ok (.iload_n 1, 1) := by decide +kernel
theorem dX4_isWhole_44 : decode cX4_isWhole 44 = .ok (.iconst (-1), 1) := by decide +kernel
theorem dX4_isWhole_45 : decode cX4_isWhole 45 = .ok (.ixor, 1) := by decide +kernel
theorem dX4_isWhole_46 : decode cX4_isWhole 46 = .ok (.iand, 1) := by decide +kernel
theorem dX4_isWhole_47 : decode cX4_isWhole 47 = .ok (.ifCond .eq 5, 3) := by decide +kernel
theorem dX4_isWhole_50 : decode cX4_isWhole 50 = .ok (.iconst 0, 1) := by decide +kernel
theorem dX4_isWhole_51 : decode cX4_isWhole 51 = .ok (.ireturn, 1) := by decide +kernel
theorem dX4_isWhole_52 : decode cX4_isWhole 52 = .ok (.iinc 3 1, 3) := by decide +kernel
theorem dX4_isWhole_55 : decode cX4_isWhole 55 = .ok (.goto (-42), 3) := by decide +kernel
theorem dX4_isWhole_58 : decode cX4_isWhole 58 = .ok (.iconst 1, 1) := by decide +kernel
theorem dX4_isWhole_59 : decode cX4_isWhole 59 = .ok (.ireturn, 1) := by decide +kernel
theorem dX4_joins_0 : decode cX4_joins 0 = .ok (.aload_n 0, 1) := by decide +kernel
theorem dX4_joins_1 : decode cX4_joins 1 = .ok (.getfield 42, 3) := by decide +kernel
theorem dX4_joins_4 : decode cX4_joins 4 = .ok (.bipush 17, 2) := by decide +kernel
theorem dX4_joins_6 : decode cX4_joins 6 = .ok (.if_icmp .ne 23, 3) := by decide +kernel
theorem dX4_joins_9 : decode cX4_joins 9 = .ok (.aload_n 0, 1) := by decide +kernel
theorem dX4_joins_10 : decode cX4_joins 10 = .ok (.getfield 26, 3) := by decide +kernel
theorem dX4_joins_13 : decode cX4_joins 13 = .ok (.getfield 199, 3) := by decide +kernel
theorem dX4_joins_16 : decode cX4_joins 16 = .ok (.iload_n 1, 1) := by decide +kernel
theorem dX4_joins_17 : decode cX4_joins 17 = .ok (.iaload, 1) := by decide +kernel
theorem dX4_joins_18 : decode cX4_joins 18 = .ok (.iload_n 2, 1) := by decide +kernel
theorem dX4_joins_19 : decode cX4_joins 19 = .ok (.ishr, 1) := by decide +kernel
theorem dX4_joins_20 : decode cX4_joins 20 = .ok (.iconst 1, 1) := by decide +kernel
theorem dX4_joins_21 : decode cX4_joins 21 = .ok (.iand, 1) := by decide +kernel
theorem dX4_joins_22 : decode cX4_joins 22 = .ok (.ifCond .eq 7, 3) := by decide +kernel
theorem dX4_joins_25 : decode cX4_joins 25 = .ok (.iconst 1, 1) := by decide +kernel
theorem dX4_joins_26 : decode cX4_joins 26 = .ok (.goto 4, 3) := by decide +kernel
theorem dX4_joins_29 : decode cX4_joins 29 = .ok (.iconst 0, 1) := by decide +kernel
theorem dX4_joins_30 : decode cX4_joins 30 = .ok (.ireturn, 1) := by decide +kernel
theorem dX5_init_0 : decode cX5_init 0 = .ok (.aload_n 0, 1) := by decide +kernel
theorem dX5_init_1 : decode cX5_init 1 = .ok (.invokespecial 3, 3) := by decide +kernel
theorem dX5_init_4 : decode cX5_init 4 = .ok (.aload_n 0, 1) := by decide +kernel
theorem dX5_init_5 : decode cX5_init 5 = .ok (.sipush 300, 3) := by decide +kernel
theorem dX5_init_8 : decode cX5_init 8 = .ok (.newarray .int, 2) := by decide +kernel
theorem dX5_init_10 : decode cX5_init 10 = .ok (.putfield 11, 3) := by decide +kernel
theorem dX5_init_13 : decode cX5_init 13 = .ok (.aload_n 0, 1) := by decide +kernel
theorem dX5_init_14 : decode cX5_init 14 = .ok (.sipush 300, 3) := by decide +kernel
theorem dX5_init_17 : decode cX5_init 17 = .ok (.newarray .int, 2) := by decide +kernel
theorem dX5_init_19 : decode cX5_init 19 = .ok (.putfield 15, 3) := by decide +kernel
theorem dX5_init_22 : decode cX5_init 22 = .ok (.aload_n 0, 1) := by decide +kernel
theorem dX5_init_23 : decode cX5_init 23 = .ok (.sipush 300, 3) := by decide +kernel
theorem dX5_init_26 : decode cX5_init 26 = .ok (.newarray .int, 2) := by decide +kernel
theorem dX5_init_28 : decode cX5_init 28 = .ok (.putfield 18, 3) := by decide +kernel
theorem dX5_init_31 : decode cX5_init 31 = .ok (.aload_n 0, 1) := by decide +kernel
theorem dX5_init_32 : decode cX5_init 32 = .ok (.sipush 300, 3) := by decide +kernel
theorem dX5_init_35 : decode cX5_init 35 = .ok (.newarray .int, 2) := by decide +kernel
theorem dX5_init_37 : decode cX5_init 37 = .ok (.putfield 21, 3) := by decide +kernel
theorem dX5_init_40 : decode cX5_init 40 = .ok (.aload_n 0, 1) := by decide +kernel
theorem dX5_init_41 : decode cX5_init 41 = .ok (.sipush 300, 3) := by decide +kernel
theorem dX5_init_44 : decode cX5_init 44 = .ok (.newarray .int, 2) := by decide +kernel
theorem dX5_init_46 : decode cX5_init 46 = .ok (.putfield 24, 3) := by decide +kernel
theorem dX5_init_49 : decode cX5_init 49 = .ok (.aload_n 0, 1) := by decide +kernel
theorem dX5_init_50 : decode cX5_init 50 = .ok (.bipush 112, 2) := by decide +kernel
theorem dX5_init_52 : decode cX5_init 52 = .ok (.newarray .int, 2) := by decide +kernel
theorem dX5_init_54 : decode cX5_init 54 = .ok (.putfield 27, 3) := by decide +kernel
theorem dX5_init_57 : decode cX5_init 57 = .ok (.return_, 1) := by decide +kernel
theorem dX5_add_0 : decode cX5_add 0 = .ok (.aload_n 0, 1) := by decide +kernel
theorem dX5_add_1 : decode cX5_add 1 = .ok (.getfield 30, 3) := by decide +kernel
theorem dX5_add_4 : decode cX5_add 4 = .ok (.sipush 300, 3) := by decide +kernel
theorem dX5_add_7 : decode cX5_add 7 = .ok (.if_icmp .lt 5, 3) := by decide +kernel
theorem dX5_add_10 : decode cX5_add 10 = .ok (.iconst 0, 1) := by decide +kernel
theorem dX5_add_11 : decode cX5_add 11 = .ok (.ireturn, 1) := by decide +kernel
theorem dX5_add_12 : decode cX5_add 12 = .ok (.aload_n 0, 1) := by decide +kernel
theorem dX5_add_13 : decode cX5_add 13 = .ok (.getfield 11, 3) := by decide +kernel
theorem dX5_add_16 : decode cX5_add 16 = .ok (.aload_n 0, 1) := by decide +kernel
theorem dX5_add_17 : decode cX5_add 17 = .ok (.getfield 30, 3) := by decide +kernel
theorem dX5_add_20 : decode cX5_add 20 = .ok (.iload_n 1, 1) := by decide +kernel
theorem dX5_add_21 : decode cX5_add 21 = .ok (.iastore, 1) := by decide +kernel
theorem dX5_add_22 : decode cX5_add 22 = .ok (.aload_n 0, 1) := by decide +kernel
theorem dX5_add_23 : decode cX5_add 23 = .ok (.getfield 15, 3) := by decide +kernel
theorem dX5_add_26 : decode cX5_add 26 = .ok (.aload_n 0, 1) := by decide +kernel
theorem dX5_add_27 : decode cX5_add 27 = .ok (.getfield 30, 3) := by decide +kernel
theorem dX5_add_30 : decode cX5_add 30 = .ok (.iload_n 2, 1) := by decide +kernel
theorem dX5_add_31 : decode cX5_add 31 = .ok (.iastore, 1) := by decide +kernel
theorem dX5_add_32 : decode cX5_add 32 = .ok (.aload_n 0, 1) := by decide +kernel
theorem dX5_add_33 : decode cX5_add 33 = .ok (.getfield 18, 3) := by decide +kernel
theorem dX5_add_36 : decode cX5_add 36 = .ok (.aload_n 0, 1) := by decide +kernel
theorem dX5_add_37 : decode cX5_add 37 = .ok (.getfield 30, 3) := by decide +kernel
theorem dX5_add_40 : decode cX5_add 40 = .ok (.iload_n 3, 1) := by decide +kernel
theorem dX5_add_41 : decode cX5_add 41 = .ok (.iastore, 1) := by decide +kernel
theorem dX5_add_42 : decode cX5_add 42 = .ok (.aload_n 0, 1) := by decide +kernel
theorem dX5_add_43 : decode cX5_add 43 = .ok (.getfield 21, 3) := by decide +kernel
theorem dX5_add_46 : decode cX5_add 46 = .ok (.aload_n 0, 1) := by decide +kernel
theorem dX5_add_47 : decode cX5_add 47 = .ok (.getfield 30, 3) := by decide +kernel
theorem dX5_add_50 : decode cX5_add 50 = .ok (.iload 4, 2) := by decide +kernel
theorem dX5_add_52 : decode cX5_add 52 = .ok (.iastore, 1) := by decide +kernel
theorem dX5_add_53 : decode cX5_add 53 = .ok (.aload_n 0, 1) := by decide +kernel
theorem dX5_add_54 : decode cX5_add 54 = .ok (.getfield 24, 3) := by decide +kernel
theorem dX5_add_57 : decode cX5_add 57 = .ok (.aload_n 0, 1) := by decide +kernel
theorem dX5_add_58 : decode cX5_add 58 = .ok (.getfield 30, 3) := by decide +kernel
theorem dX5_add_61 : decode cX5_add 61 = .ok (.iload 5, 2) := by decide +kernel
theorem dX5_add_63 : decode cX5_add 63 = .ok (.iastore, 1) := by decide +kernel
theorem dX5_add_64 : decode cX5_add 64 = .ok (.aload_n 0, 1) := by decide +kernel
theorem dX5_add_65 : decode cX5_add 65 = .ok (.dup, 1) := by decide +kernel
theorem dX5_add_66 : decode cX5_add 66 = .ok (.getfield 30, 3) := by decide +kernel
theorem dX5_add_69 : decode cX5_add 69 = .ok (.iconst 1, 1) := by decide +kernel
theorem dX5_add_70 : decode cX5_add 70 = .ok (.iadd, 1) := by decide +kernel
theorem dX5_add_71 : decode cX5_add 71 = .ok (.putfield 30, 3) := by decide +kernel
theorem dX5_add_74 : decode cX5_add 74 = .ok (.iconst 1, 1) := by decide +kernel
theorem dX5_add_75 : decode cX5_add 75 = .ok (.ireturn, 1) := by decide +kernel
theorem dX5_learn_0 : decode cX5_learn 0 = .ok (.aload_n 0, 1) := by decide +kernel
theorem dX5_learn_1 : decode cX5_learn 1 = .ok (.getfield 27, 3) := by decide +kernel
theorem dX5_learn_4 : decode cX5_learn 4 = .ok (.iconst (-1), 1) := by decide +kernel
theorem dX5_learn_5 : decode cX5_learn 5 = .ok (.invokestatic 34, 3) := by decide +kernel
theorem dX5_learn_8 : decode cX5_learn 8 = .ok (.iconst 0, 1) := by decide +kernel
theorem dX5_learn_9 : decode cX5_learn 9 = .ok (.istore_n 2, 1) := by decide +kernel
theorem dX5_learn_10 : decode cX5_learn 10 = .ok (.iload_n 2, 1) := by decide +kernel
theorem dX5_learn_11 : decode cX5_learn 11 = .ok (.aload_n 0, 1) := by decide +kernel
theorem dX5_learn_12 : decode cX5_learn 12 = .ok (.getfield 30, 3) := by decide +kernel
theorem dX5_learn_15 : decode cX5_learn 15 = .ok (.if_icmp .ge 55, 3) := by decide +kernel
theorem dX5_learn_18 : decode cX5_learn 18 = .ok (.aload_n 0, 1) := by decide +kernel
theorem dX5_learn_19 : decode cX5_learn 19 = .ok (.getfield 24, 3) := by decide +kernel
theorem dX5_learn_22 : decode cX5_learn 22 = .ok (.iload_n 2, 1) := by decide +kernel
theorem dX5_learn_23 : decode cX5_learn 23 = .ok (.iaload, 1) := by decide +kernel
theorem dX5_learn_24 : decode cX5_learn 24 = .ok (.iload_n 1, 1) := by decide +kernel
theorem dX5_learn_25 : decode cX5_learn 25 = .ok (.if_icmp .gt 39, 3) := by decide +kernel
theorem dX5_learn_28 : decode cX5_learn 28 = .ok (.aload_n 0, 1) := by decide +kernel
theorem dX5_learn_29 : decode cX5_learn 29 = .ok (.getfield 27, 3) := by decide +kernel
theorem dX5_learn_32 : decode cX5_learn 32 = .ok (.aload_n 0, 1) := by decide +kernel
theorem dX5_learn_33 : decode cX5_learn 33 = .ok (.getfield 18, 3) := by decide +kernel
theorem dX5_learn_36 : decode cX5_learn 36 = .ok (.iload_n 2, 1) := by decide +kernel
theorem dX5_learn_37 : decode cX5_learn 37 = .ok (.iaload, 1) := by decide +kernel
theorem dX5_learn_38 : decode cX5_learn 38 = .ok (.iconst 4, 1) := by decide +kernel
theorem dX5_learn_39 : decode cX5_learn 39 = .ok (.imul, 1) := by decide +kernel
theorem dX5_learn_40 : decode cX5_learn 40 = .ok (.aload_n 0, 1) := by decide +kernel
theorem dX5_learn_41 : decode cX5_learn 41 = .ok (.getfield 11, 3) := by decide +kernel
theorem dX5_learn_44 : decode cX5_learn 44 = .ok (.iload_n 2, 1) := by decide +kernel
theorem dX5_learn_45 : decode cX5_learn 45 = .ok (.iaload, 1) := by decide +kernel
theorem dX5_learn_46 : decode cX5_learn 46 = .ok (.iadd, 1) := by decide +kernel
theorem dX5_learn_47 : decode cX5_learn 47 = .ok (.bipush 14, 2) := by decide +kernel
theorem dX5_learn_49 : decode cX5_learn 49 = .ok (.imul, 1) := by decide +kernel
theorem dX5_learn_50 : decode cX5_learn 50 = .ok (.aload_n 0, 1) := by decide +kernel
theorem dX5_learn_51 : decode cX5_learn 51 = .ok (.getfield 15, 3) := by decide +kernel
theorem dX5_learn_54 : decode cX5_learn 54 = .ok (.iload_n 2, 1) := by decide +kernel
theorem dX5_learn_55 : decode cX5_learn 55 = .ok (.iaload, 1) := by decide +kernel
theorem dX5_learn_56 : decode cX5_learn 56 = .ok (.iadd, 1) := by decide +kernel
theorem dX5_learn_57 : decode cX5_learn 57 = .ok (.aload_n 0, 1) := by decide +kernel
theorem dX5_learn_58 : decode cX5_learn 58 = .ok (.getfield 21, 3) := by decide +kernel
theorem dX5_learn_61 : decode cX5_learn 61 = .ok (.iload_n 2, 1) := by decide +kernel
theorem dX5_learn_62 : decode cX5_learn 62 = .ok (.iaload, 1) := by decide +kernel
theorem dX5_learn_63 : decode cX5_learn 63 = .ok (.iastore, 1) := by decide +kernel
theorem dX5_learn_64 : decode cX5_learn 64 = .ok (.iinc 2 1, 3) := by decide +kernel
theorem dX5_learn_67 : decode cX5_learn 67 = .ok (.goto (-57), 3) := by decide +kernel
theorem dX5_learn_70 : decode cX5_learn 70 = .ok (.return_, 1) := by decide +kernel
theorem dX5_scale_0 : decode cX5_scale 0 = .ok (.iload_n 3, 1) := by decide +kernel
theorem dX5_scale_1 : decode cX5_scale 1 = .ok (.iconst 4, 1) := by decide +kernel
theorem dX5_scale_2 : decode cX5_scale 2 = .ok (.imul, 1) := by decide +kernel
theorem dX5_scale_3 : decode cX5_scale 3 = .ok (.iload_n 1, 1) := by decide +kernel
theorem dX5_scale_4 : decode cX5_scale 4 = .ok (.iadd, 1) := by decide +kernel
theorem dX5_scale_5 : decode cX5_scale 5 = .ok (.bipush 14, 2) := by decide +kernel
theorem dX5_scale_7 : decode cX5_scale 7 = .ok (.imul, 1) := by decide +kernel
theorem dX5_scale_8 : decode cX5_scale 8 = .ok (.istore 4, 2) := by decide +kernel
theorem dX5_scale_10 : decode cX5_scale 10 = .ok (.aload_n 0, 1) := by decide +kernel
theorem dX5_scale_11 : decode cX5_scale 11 = .ok (.getfield 27, 3) := by decide +kernel
theorem dX5_scale_14 : decode cX5_scale 14 = .ok (.iload 4, 2) := by decide +kernel
theorem dX5_scale_16 : decode cX5_scale 16 = .ok (.iload_n 2, 1) := by decide +kernel
theorem dX5_scale_17 : decode cX5_scale 17 = .ok (.iadd, 1) := by decide +kernel
theorem dX5_scale_18 : decode cX5_scale 18 = .ok (.iaload, 1) := by decide +kernel
theorem dX5_scale_19 : decode cX5_scale 19 = .ok (.istore 5, 2) := by decide +kernel
theorem dX5_scale_21 : decode cX5_scale 21 = .ok (.iload 5, 2) := by decide +kernel
theorem dX5_scale_23 : decode cX5_scale 23 = .ok (.iconst (-1), 1) := by decide +kernel
theorem dX5_scale_24 : decode cX5_scale 24 = .ok (.if_icmp .ne 5, 3) := by decide +kernel
theorem dX5_scale_27 : decode cX5_scale 27 = .ok (.iconst (-1), 1) := by decide +kernel
theorem dX5_scale_28 : decode cX5_scale 28 = .ok (.ireturn, 1) := by decide +kernel
theorem dX5_scale_29 : decode cX5_scale 29 = .ok (.iconst 0, 1) := by decide +kernel
theorem dX5_scale_30 : decode cX5_scale 30 = .ok (.istore 6, 2) := by decide +kernel
theorem dX5_scale_32 : decode cX5_scale 32 = .ok (.iconst 0, 1) := by decide +kernel
theorem dX5_scale_33 : decode cX5_scale 33 = .ok (.istore 7, 2) := by decide +kernel
theorem dX5_scale_35 : decode cX5_scale 35 = .ok (.iconst 0, 1) := by decide +kernel
theorem dX5_scale_36 : decode cX5_scale 36 = .ok (.istore 8, 2) := by decide +kernel
theorem dX5_scale_38 : decode cX5_scale 38 = .ok (.iload 8, 2) := by decide +kernel
theorem dX5_scale_40 : decode cX5_scale 40 = .ok (.bipush 14, 2) := by decide +kernel
theorem dX5_scale_42 : decode cX5_scale 42 = .ok (.if_icmp .ge 50, 3) := by decide +kernel
theorem dX5_scale_45 : decode cX5_scale 45 = .ok (.iload 8, 2) := by decide +kernel
theorem dX5_scale_47 : decode cX5_scale 47 = .ok (.iload_n 2, 1) := by decide +kernel
theorem dX5_scale_48 : decode cX5_scale 48 = .ok (.if_icmp .eq 38, 3) := by decide +kernel
theorem dX5_scale_51 : decode cX5_scale 51 = .ok (.aload_n 0, 1) := by decide +kernel
theorem dX5_scale_52 : decode cX5_scale 52 = .ok (.getfield 27, 3) := by decide +kernel
theorem dX5_scale_55 : decode cX5_scale 55 = .ok (.iload 4, 2) := by decide +kernel
theorem dX5_scale_57 : decode cX5_scale 57 = .ok (.iload 8, 2) := by decide +kernel
theorem dX5_scale_59 : decode cX5_scale 59 = .ok (.iadd, 1) := by decide +kernel
theorem dX5_scale_60 : decode cX5_scale 60 = .ok (.iaload, 1) := by decide +kernel
theorem dX5_scale_61 : decode cX5_scale 61 = .ok (.iconst (-1), 1) := by decide +kernel
theorem dX5_scale_62 : decode cX5_scale 62 = .ok (.if_icmp .eq 24, 3) := by decide +kernel
theorem dX5_scale_65 : decode cX5_scale 65 = .ok (.iinc 7 1, 3) := by decide +kernel
theorem dX5_scale_68 : decode cX5_scale 68 = .ok (.aload_n 0, 1) := by decide +kernel
theorem dX5_scale_69 : decode cX5_scale 69 = .ok (.getfield 27, 3) := by decide +kernel
theorem dX5_scale_72 : decode cX5_scale 72 = .ok (.iload 4, 2) := by decide +kernel
theorem dX5_scale_74 : decode cX5_scale 74 = .ok (.iload 8, 2) := by decide +kernel
theorem dX5_scale_76 : decode cX5_scale 76 = .ok (.iadd, 1) := by decide +kernel
theorem dX5_scale_77 : decode cX5_scale 77 = .ok (.iaload, 1) := by decide +kernel
theorem dX5_scale_78 : decode cX5_scale 78 = .ok (.iload 5, 2) := by decide +kernel
theorem dX5_scale_80 : decode cX5_scale 80 = .ok (.if_icmp .ge 6, 3) := by decide +kernel
theorem dX5_scale_83 : decode cX5_scale 83 = .ok (.iinc 6 1, 3) := by decide +kernel
theorem dX5_scale_86 : decode cX5_scale 86 = .ok (.iinc 8 1, 3) := by decide +kernel
theorem dX5_scale_89 : decode cX5_scale 89 = .ok (.goto (-51), 3) := by decide +kernel
theorem dX5_scale_92 : decode cX5_scale 92 = .ok (.iload 7, 2) := by decide +kernel
theorem dX5_scale_94 : decode cX5_scale 94 = .ok (.ifCond .ne 7, 3) := by decide +kernel
theorem dX5_scale_97 : decode cX5_scale 97 = .ok (.iconst 5, 1) := by decide +kernel
theorem dX5_scale_98 : decode cX5_scale 98 = .ok (.goto 11, 3) := by decide +kernel
theorem dX5_scale_101 : decode cX5_scale 101 = .ok (.bipush 10, 2) := by decide +kernel
theorem dX5_scale_103 : decode cX5_scale 103 = .ok (.iload 6, 2) := by decide +kernel
theorem dX5_scale_105 : decode cX5_scale 105 = .ok (.imul, 1) := by decide +kernel
theorem dX5_scale_106 : decode cX5_scale 106 = .ok (.iload 7, 2) := by decide +kernel
theorem dX5_scale_108 : decode cX5_scale 108 = .ok (.idiv, 1) := by decide +kernel
theorem dX5_scale_109 : decode cX5_scale 109 = .ok (.ireturn, 1) := by decide +kernel
theorem dX5_overall_0 : decode cX5_overall 0 = .ok (.iconst 0, 1) := by decide +kernel
theorem dX5_overall_1 : decode cX5_overall 1 = .ok (.istore_n 3, 1) := by decide +kernel
theorem dX5_overall_2 : decode cX5_overall 2 = .ok (.iconst 0, 1) := by decide +kernel
theorem dX5_overall_3 : decode cX5_overall 3 = .ok (.istore 4, 2) := by decide +kernel
theorem dX5_overall_5 : decode cX5_overall 5 = .ok (.iconst 0, 1) := by decide +kernel
theorem dX5_overall_6 : decode cX5_overall 6 = .ok (.istore 5, 2) := by decide +kernel
theorem dX5_overall_8 : decode cX5_overall 8 = .ok (.iload 5, 2) := by decide +kernel
theorem dX5_overall_10 : decode cX5_overall 10 = .ok (.iconst 4, 1) := by decide +kernel
theorem dX5_overall_11 : decode cX5_overall 11 = .ok (.if_icmp .ge 33, 3) := by decide +kernel
theorem dX5_overall_14 : decode cX5_overall 14 = .ok (.aload_n 0, 1) := by decide +kernel
theorem dX5_overall_15 : decode cX5_overall 15 = .ok (.iload 5, 2) := by decide +kernel
theorem dX5_overall_17 : decode cX5_overall 17 = .ok (.iload_n 1, 1) := by decide +kernel
theorem dX5_overall_18 : decode cX5_overall 18 = .ok (.iload_n 2, 1) := by decide +kernel
theorem dX5_overall_19 : decode cX5_overall 19 = .ok (.invokevirtual 40, 3) := by decide +kernel
theorem dX5_overall_22 : decode cX5_overall 22 = .ok (.istore 6, 2) := by decide +kernel
theorem dX5_overall_24 : decode cX5_overall 24 = .ok (.iload 6, 2) := by decide +kernel
theorem dX5_overall_26 : decode cX5_overall 26 = .ok (.iconst (-1), 1) := by decide +kernel
theorem dX5_overall_27 : decode cX5_overall 27 = .ok (.if_icmp .eq 11, 3) := by decide +kernel
theorem dX5_overall_30 : decode cX5_overall 30 = .ok (.iload_n 3, 1) := by decide +kernel
theorem dX5_overall_31 : decode cX5_overall 31 = .ok (.iload 6, 2) := by decide +kernel
theorem dX5_overall_33 : decode cX5_overall 33 = .ok (.iadd, 1) := by decide +kernel
theorem dX5_overall_34 : decode cX5_overall 34 = .ok (.istore_n 3, 1) := by decide +kernel
theorem dX5_overall_35 : decode cX5_overall 35 = .ok (.iinc 4 1, 3) := by decide +kernel
theorem dX5_overall_38 : decode cX5_overall 38 = .ok (.iinc 5 1, 3) := by decide +kernel
theorem dX5_overall_41 : decode cX5_overall 41 = .ok (.goto (-33), 3) := by decide +kernel
theorem dX5_overall_44 : decode cX5_overall 44 = .ok (.iload 4, 2) := by decide +kernel
theorem dX5_overall_46 : decode cX5_overall 46 = .ok (.ifCond .ne 7, 3) := by decide +kernel
theorem dX5_overall_49 : decode cX5_overall 49 = .ok (.iconst (-1), 1) := by decide +kernel
theorem dX5_overall_50 : decode cX5_overall 50 = .ok (.goto 7, 3) := by decide +kernel
theorem dX5_overall_53 : decode cX5_overall 53 = .ok (.iload_n 3, 1) := by decide +kernel
theorem dX5_overall_54 : decode cX5_overall 54 = .ok (.iload 4, 2) := by decide +kernel
theorem dX5_overall_56 : decode cX5_overall 56 = .ok (.idiv, 1) := by decide +kernel
theorem dX5_overall_57 : decode cX5_overall 57 = .ok (.ireturn, 1) := by decide +kernel
theorem dX5_level_0 : decode cX5_level 0 = .ok (.aload_n 0, 1) := by decide +kernel
theorem dX5_level_1 : decode cX5_level 1 = .ok (.iload_n 1, 1) := by decide +kernel
theorem dX5_level_2 : decode cX5_level 2 = .ok (.iload_n 2, 1) := by decide +kernel
theorem dX5_level_3 : decode cX5_level 3 = .ok (.invokevirtual 44, 3) := by decide +kernel
theorem dX5_level_6 : decode cX5_level 6 = .ok (.istore_n 3, 1) := by decide +kernel
theorem dX5_level_7 : decode cX5_level 7 = .ok (.iload_n 3, 1) := by decide +kernel
theorem dX5_level_8 : decode cX5_level 8 = .ok (.iconst (-1), 1) := by decide +kernel
theorem dX5_level_9 : decode cX5_level 9 = .ok (.if_icmp .ne 7, 3) := by decide +kernel
theorem dX5_level_12 : decode cX5_level 12 = .ok (.iconst 5, 1) := by decide +kernel
theorem dX5_level_13 : decode cX5_level 13 = .ok (.goto 4, 3) := by decide +kernel
theorem dX5_level_16 : decode cX5_level 16 = .ok (.iload_n 3, 1) := by decide +kernel
theorem dX5_level_17 : decode cX5_level 17 = .ok (.ireturn, 1) := by decide +kernel
theorem dX6_init_0 : decode cX6_init 0 = .ok (.aload_n 0, 1) := by decide +kernel
theorem dX6_init_1 : decode cX6_init 1 = .ok (.invokespecial 3, 3) := by decide +kernel
theorem dX6_init_4 : decode cX6_init 4 = .ok (.aload_n 0, 1) := by decide +kernel
theorem dX6_init_5 : decode cX6_init 5 = .ok (.iconst (-1), 1) := by decide +kernel
theorem dX6_init_6 : decode cX6_init 6 = .ok (.putfield 9, 3) := by decide +kernel
theorem dX6_init_9 : decode cX6_init 9 = .ok (.aload_n 0, 1) := by decide +kernel
theorem dX6_init_10 : decode cX6_init 10 = .ok (.aload_n 1, 1) := by decide +kernel
theorem dX6_init_11 : decode cX6_init 11 = .ok (.putfield 15, 3) := by decide +kernel
theorem dX6_init_14 : decode cX6_init 14 = .ok (.return_, 1) := by decide +kernel
theorem dX6_reads_0 : decode cX6_reads 0 = .ok (.aload_n 0, 1) := by decide +kernel
theorem dX6_reads_1 : decode cX6_reads 1 = .ok (.aload_n 1, 1) := by decide +kernel
theorem dX6_reads_2 : decode cX6_reads 2 = .ok (.putfield 19, 3) := by decide +kernel
theorem dX6_reads_5 : decode cX6_reads 5 = .ok (.aload_n 0, 1) := by decide +kernel
theorem dX6_reads_6 : decode cX6_reads 6 = .ok (.getfield 19, 3) := by decide +kernel
theorem dX6_reads_9 : decode cX6_reads 9 = .ok (.invokevirtual 23, 3) := by decide +kernel
theorem dX6_reads_12 : decode cX6_reads 12 = .ok (.aload_n 0, 1) := by decide +kernel
theorem dX6_reads_13 : decode cX6_reads 13 = .ok (.iconst 0, 1) := by decide +kernel
theorem dX6_reads_14 : decode cX6_reads 14 = .ok (.putfield 28, 3) := by decide +kernel
theorem dX6_reads_17 : decode cX6_reads 17 = .ok (.aload_n 0, 1) := by decide +kernel
theorem dX6_reads_18 : decode cX6_reads 18 = .ok (.iconst (-1), 1) := by decide +kernel
theorem dX6_reads_19 : decode cX6_reads 19 = .ok (.putfield 9, 3) := by decide +kernel
theorem dX6_reads_22 : decode cX6_reads 22 = .ok (.aload_n 0, 1) := by decide +kernel
theorem dX6_reads_23 : decode cX6_reads 23 = .ok (.getfield 15, 3) := by decide +kernel
theorem dX6_reads_26 : decode cX6_reads 26 = .ok (.invokevirtual 31, 3) := by decide +kernel
theorem dX6_reads_29 : decode cX6_reads 29 = .ok (.aload_n 0, 1) := by decide +kernel
theorem dX6_reads_30 : decode cX6_reads 30 = .ok (.iconst (-1), 1) := by decide +kernel
theorem dX6_reads_31 : decode cX6_reads 31 = .ok (.putfield 36, 3) := by decide +kernel
theorem dX6_reads_34 : decode cX6_reads 34 = .ok (.aload_n 0, 1) := by decide +kernel
theorem dX6_reads_35 : decode cX6_reads 35 = .ok (.invokevirtual 39, 3) := by decide +kernel
theorem dX6_reads_38 : decode cX6_reads 38 = .ok (.iconst 0, 1) := by decide +kernel
theorem dX6_reads_39 : decode cX6_reads 39 = .ok (.istore_n 2, 1) := by decide +kernel
theorem dX6_reads_40 : decode cX6_reads 40 = .ok (.iload_n 2, 1) := by decide +kernel
theorem dX6_reads_41 : decode cX6_reads 41 = .ok (.bipush 16, 2) := by decide +kernel
theorem dX6_reads_43 : decode cX6_reads 43 = .ok (.if_icmp .gt 27, 3) := by decide +kernel
theorem dX6_reads_46 : decode cX6_reads 46 = .ok (.aload_n 0, 1) := by decide +kernel
theorem dX6_reads_47 : decode cX6_reads 47 = .ok (.getfield 42, 3) := by decide +kernel
theorem dX6_reads_50 : decode cX6_reads 50 = .ok (.iconst (-1), 1) := by decide +kernel
theorem dX6_reads_51 : decode cX6_reads 51 = .ok (.if_icmp .eq 19, 3) := by decide +kernel
theorem dX6_reads_54 : decode cX6_reads 54 = .ok (.aload_n 0, 1) := by decide +kernel
theorem dX6_reads_55 : decode cX6_reads 55 = .ok (.iload_n 2, 1) := by decide +kernel
theorem dX6_reads_56 : decode cX6_reads 56 = .ok (.invokevirtual 45, 3) := by decide +kernel
theorem dX6_reads_59 : decode cX6_reads 59 = .ok (.ifCond .ne 5, 3) := by decide +kernel
theorem dX6_reads_62 : decode cX6_reads 62 = .ok (.iconst 0, 1) := by decide +kernel
theorem dX6_reads_63 : decode cX6_reads 63 = .ok (.ireturn, 1) := by decide +kernel
theorem dX6_reads_64 : decode cX6_reads 64 = .ok (.iinc 2 1, 3) := by decide +kernel
theorem dX6_reads_67 : decode cX6_reads 67 = .ok (.goto (-27), 3) := by decide +kernel
theorem dX6_reads_70 : decode cX6_reads 70 = .ok (.iconst 1, 1) := by decide +kernel
theorem dX6_reads_71 : decode cX6_reads 71 = .ok (.ireturn, 1) := by decide +kernel
theorem dX6_next_0 : decode cX6_next 0 = .ok (.aload_n 0, 1) := by decide +kernel
theorem dX6_next_1 : decode cX6_next 1 = .ok (.getfield 36, 3) := by decide +kernel
theorem dX6_next_4 : decode cX6_next 4 = .ok (.iconst 1, 1) := by decide +kernel
theorem dX6_next_5 : decode cX6_next 5 = .ok (.iadd, 1) := by decide +kernel
theorem dX6_next_6 : decode cX6_next 6 = .ok (.aload_n 0, 1) := by decide +kernel
theorem dX6_next_7 : decode cX6_next 7 = .ok (.getfield 15, 3) := by decide +kernel
theorem dX6_next_10 : decode cX6_next 10 = .ok (.getfield 49, 3) := by decide +kernel
theorem dX6_next_13 : decode cX6_next 13 = .ok (.if_icmp .ge 61, 3) := by decide +kernel
theorem dX6_next_16 : decode cX6_next 16 = .ok (.aload_n 0, 1) := by decide +kernel
theorem dX6_next_17 : decode cX6_next 17 = .ok (.dup, 1) := by decide +kernel
theorem dX6_next_18 : decode cX6_next 18 = .ok (.getfield 36, 3) := by decide +kernel
theorem dX6_next_21 : decode cX6_next 21 = .ok (.iconst 1, 1) := by decide +kernel
theorem dX6_next_22 : decode cX6_next 22 = .ok (.iadd, 1) := by decide +kernel
theorem dX6_next_23 : decode cX6_next 23 = .ok (.putfield 36, 3) := by decide +kernel
theorem dX6_next_26 : decode cX6_next 26 = .ok (.aload_n 0, 1) := by decide +kernel
theorem dX6_next_27 : decode cX6_next 27 = .ok (.aload_n 0, 1) := by decide +kernel
theorem dX6_next_28 : decode cX6_next 28 = .ok (.getfield 15, 3) := by decide +kernel
theorem dX6_next_31 : decode cX6_next 31 = .ok (.getfield 52, 3) := by decide +kernel
theorem dX6_next_34 : decode cX6_next 34 = .ok (.aload_n 0, 1) := by decide +kernel
theorem dX6_next_35 : decode cX6_next 35 = .ok (.getfield 36, 3) := by decide +kernel
theorem dX6_next_38 : decode cX6_next 38 = .ok (.iaload, 1) := by decide +kernel
theorem dX6_next_39 : decode cX6_next 39 = .ok (.putfield 42, 3) := by decide +kernel
theorem dX6_next_42 : decode cX6_next 42 = .ok (.aload_n 0, 1) := by decide +kernel
theorem dX6_next_43 : decode cX6_next 43 = .ok (.aload_n 0, 1) := by decide +kernel
theorem dX6_next_44 : decode cX6_next 44 = .ok (.getfield 15, 3) := by decide +kernel
theorem dX6_next_47 : decode cX6_next 47 = .ok (.getfield 56, 3) := by decide +kernel
theorem dX6_next_50 : decode cX6_next 50 = .ok (.aload_n 0, 1) := by decide +kernel
theorem dX6_next_51 : decode cX6_next 51 = .ok (.getfield 36, 3) := by decide +kernel
theorem dX6_next_54 : decode cX6_next 54 = .ok (.iaload, 1) := by decide +kernel
theorem dX6_next_55 : decode cX6_next 55 = .ok (.putfield 59, 3) := by decide +kernel
theorem dX6_next_58 : decode cX6_next 58 = .ok (.aload_n 0, 1) := by decide +kernel
theorem dX6_next_59 : decode cX6_next 59 = .ok (.aload_n 0, 1) := by decide +kernel
theorem dX6_next_60 : decode cX6_next 60 = .ok (.getfield 15, 3) := by decide +kernel
theorem dX6_next_63 : decode cX6_next 63 = .ok (.getfield 62, 3) := by decide +kernel
theorem dX6_next_66 : decode cX6_next 66 = .ok (.aload_n 0, 1) := by decide +kernel
theorem dX6_next_67 : decode cX6_next 67 = .ok (.getfield 36, 3) := by decide +kernel
theorem dX6_next_70 : decode cX6_next 70 = .ok (.iaload, 1) := by decide +kernel
theorem dX6_next_71 : decode cX6_next 71 = .ok (.putfield 65, 3) := by decide +kernel
theorem dX6_next_74 : decode cX6_next 74 = .ok (.return_, 1) := by decide +kernel
theorem dX6_refuse_0 : decode cX6_refuse 0 = .ok (.aload_n 0, 1) := by decide +kernel
theorem dX6_refuse_1 : decode cX6_refuse 1 = .ok (.iload_n 1, 1) := by decide +kernel
theorem dX6_refuse_2 : decode cX6_refuse 2 = .ok (.putfield 28, 3) := by decide +kernel
theorem dX6_refuse_5 : decode cX6_refuse 5 = .ok (.aload_n 0, 1) := by decide +kernel
theorem dX6_refuse_6 : decode cX6_refuse 6 = .ok (.aload_n 0, 1) := by decide +kernel
theorem dX6_refuse_7 : decode cX6_refuse 7 = .ok (.getfield 59, 3) := by decide +kernel
theorem dX6_refuse_10 : decode cX6_refuse 10 = .ok (.putfield 9, 3) := by decide +kernel
theorem dX6_refuse_13 : decode cX6_refuse 13 = .ok (.iconst 0, 1) := by decide +kernel
theorem dX6_refuse_14 : decode cX6_refuse 14 = .ok (.ireturn, 1) := by decide +kernel
theorem dX6_readStatement_0 : decode cX6_readStatement 0 = .ok (.aload_n 0, 1) := by decide +kernel
theorem dX6_readStatement_1 : decode cX6_readStatement 1 = .ok (.getfield 42, 3) := by decide +kernel
theorem dX6_readStatement_4 : decode cX6_readStatement 4 = .ok (.istore_n 2, 1) := by decide +kernel
theorem dX6_readStatement_5 : decode cX6_readStatement 5 = .ok (.iload_n 2, 1) := by decide +kernel
theorem dX6_readStatement_6 : decode cX6_readStatement 6 = .ok (.bipush 8, 2) := by decide +kernel
theorem dX6_readStatement_8 : decode cX6_readStatement 8 = .ok (.bipush 16, 2) := by decide +kernel
theorem dX6_readStatement_10 : decode cX6_readStatement 10 = .ok (.invokestatic 68, 3) := by decide +kernel
theorem dX6_readStatement_13 : decode cX6_readStatement 13 = .ok (.ifCond .ne 9, 3) := by decide +kernel
theorem dX6_readStatement_16 : decode cX6_readStatement 16 = .ok (.aload_n 0, 1) := by decide +kernel
theorem dX6_readStatement_17 : decode cX6_readStatement 17 = .ok (.iconst 1, 1) := by decide +kernel
theorem dX6_readStatement_18 : decode cX6_readStatement 18 = .ok (.invokevirtual 72, 3) := by decide +kernel
theorem dX6_readStatement_21 : decode cX6_readStatement 21 = .ok (.ireturn, 1) := by decide +kernel
theorem dX6_readStatement_22 : decode cX6_readStatement 22 = .ok (.iload_n 1, 1) := by decide +kernel
theorem dX6_readStatement_23 : decode cX6_readStatement 23 = .ok (.bipush 16, 2) := by decide +kernel
theorem dX6_readStatement_25 : decode cX6_readStatement 25 = .ok (.if_icmp .lt 9, 3) := by decide +kernel
theorem dX6_readStatement_28 : decode cX6_readStatement 28 = .ok (.aload_n 0, 1) := by decide +kernel
theorem dX6_readStatement_29 : decode cX6_readStatement 29 = .ok (.iconst 3, 1) := by decide +kernel
theorem dX6_readStatement_30 : decode cX6_readStatement 30 = .ok (.invokevirtual 72, 3) := by decide +kernel
theorem dX6_readStatement_33 : decode cX6_readStatement 33 = .ok (.ireturn, 1) := by decide +kernel
theorem dX6_readStatement_34 : decode cX6_readStatement 34 = .ok (.aload_n 0, 1) := by decide +kernel
theorem dX6_readStatement_35 : decode cX6_readStatement 35 = .ok (.getfield 19, 3) := by decide +kernel
theorem dX6_readStatement_38 : decode cX6_readStatement 38 = .ok (.getfield 75, 3) := by decide +kernel
theorem dX6_readStatement_41 : decode cX6_readStatement 41 = .ok (.iload_n 1, 1) := by decide +kernel
theorem dX6_readStatement_42 : decode cX6_readStatement 42 = .ok (.iload_n 2, 1) := by decide +kernel
theorem dX6_readStatement_43 : decode cX6_readStatement 43 = .ok (.iastore, 1) := by decide +kernel
theorem dX6_readStatement_44 : decode cX6_readStatement 44 = .ok (.aload_n 0, 1) := by decide +kernel
theorem dX6_readStatement_45 : decode cX6_readStatement 45 = .ok (.getfield 19, 3) := by decide +kernel
theorem dX6_readStatement_48 : decode cX6_readStatement 48 = .ok (.iload_n 1, 1) := by decide +kernel
theorem dX6_readStatement_49 : decode cX6_readStatement 49 = .ok (.iconst 1, 1) := by decide +kernel
theorem dX6_readStatement_50 : decode cX6_readStatement 50 = .ok (.iadd, 1) := by decide +kernel
theorem dX6_readStatement_51 : decode cX6_readStatement 51 = .ok (.putfield 78, 3) := by decide +kernel
theorem dX6_readStatement_54 : decode cX6_readStatement 54 = .ok (.aload_n 0, 1) := by decide +kernel
theorem dX6_readStatement_55 : decode cX6_readStatement 55 = .ok (.invokevirtual 39, 3) := by decide +kernel
theorem dX6_readStatement_58 : decode cX6_readStatement 58 = .ok (.aload_n 0, 1) := by decide +kernel
theorem dX6_readStatement_59 : decode cX6_readStatement 59 = .ok (.iload_n 1, 1) := by decide +kernel
theorem dX6_readStatement_60 : decode cX6_readStatement 60 = .ok (.iload_n 2, 1) := by decide +kernel
theorem dX6_readStatement_61 : decode cX6_readStatement 61 = .ok (.invokevirtual 81, 3) := by decide +kernel
theorem dX6_readStatement_64 : decode cX6_readStatement 64 = .ok (.ifCond .eq 16, 3) := by decide +kernel
theorem dX6_readStatement_67 : decode cX6_readStatement 67 = .ok (.aload_n 0, 1) := by decide +kernel
theorem dX6_readStatement_68 : decode cX6_readStatement 68 = .ok (.bipush 59, 2) := by decide +kernel
theorem dX6_readStatement_70 : decode cX6_readStatement 70 = .ok (.invokevirtual 85, 3) := by decide +kernel
theorem dX6_readStatement_73 : decode cX6_readStatement 73 = .ok (.ifCond .eq 7, 3) := by decide +kernel
theorem dX6_readStatement_76 : decode cX6_readStatement 76 = .ok (.iconst 1, 1) := by decide +kernel
theorem dX6_readStatement_77 : decode cX6_readStatement 77 = .ok (.goto 4, 3) := by decide +kernel
theorem dX6_readStatement_80 : decode cX6_readStatement 80 = .ok (.iconst 0, 1) := by decide +kernel
theorem dX6_readStatement_81 : decode cX6_readStatement 81 = .ok (.ireturn, 1) := by decide +kernel
theorem dX6_readBody_0 : decode cX6_readBody 0 = .ok (.iload_n 2, 1) := by decide +kernel
theorem dX6_readBody_1 : decode cX6_readBody 1 = .ok (.tableswitch 197 8 16 #[51, 84, 197, 106, 197, 130, 167, 167, 191], 51) := by decide +kernel
theorem dX6_readBody_52 : decode cX6_readBody 52 = .ok (.aload_n 0, 1) := by decide +kernel
theorem dX6_readBody_53 : decode cX6_readBody 53 = .ok (.getfield 42, 3) := by decide +kernel
theorem dX6_readBody_56 : decode cX6_readBody 56 = .ok (.bipush 58, 2) := by decide +kernel
theorem dX6_readBody_58 : decode cX6_readBody 58 = .ok (.if_icmp .eq 13, 3) := by decide +kernel
theorem dX6_readBody_61 : decode cX6_readBody 61 = .ok (.aload_n 0, 1) := by decide +kernel
theorem dX6_readBody_62 : decode cX6_readBody 62 = .ok (.iconst 2, 1) := by decide +kernel
theorem dX6_readBody_63 : decode cX6_readBody 63 = .ok (.iload_n 1, 1) := by decide +kernel
theorem dX6_readBody_64 : decode cX6_readBody 64 = .ok (.imul, 1) := by decide +kernel
theorem dX6_readBody_65 : decode cX6_readBody 65 = .ok (.invokevirtual 88, 3) := by decide +kernel
theorem dX6_readBody_68 : decode cX6_readBody 68 = .ok (.ifCond .eq 15, 3) := by decide +kernel
theorem dX6_readBody_71 : decode cX6_readBody 71 = .ok (.aload_n 0, 1) := by decide +kernel
theorem dX6_readBody_72 : decode cX6_readBody 72 = .ok (.iload_n 1, 1) := by decide +kernel
theorem dX6_readBody_73 : decode cX6_readBody 73 = .ok (.invokevirtual 91, 3) := by decide +kernel
theorem dX6_readBody_76 : decode cX6_readBody 76 = .ok (.ifCond .eq 7, 3) := by decide +kernel
theorem dX6_readBody_79 : decode cX6_readBody 79 = .ok (.iconst 1, 1) := by decide +kernel
theorem dX6_readBody_80 : decode cX6_readBody 80 = .ok (.goto 4, 3) := by decide +kernel
theorem dX6_readBody_83 : decode cX6_readBody 83 = .ok (.iconst 0, 1) := by decide +kernel
theorem dX6_readBody_84 : decode cX6_readBody 84 = .ok (.ireturn, 1) := by decide +kernel
theorem dX6_readBody_85 : decode cX6_readBody 85 = .ok (.aload_n 0, 1) := by decide +kernel
theorem dX6_readBody_86 : decode cX6_readBody 86 = .ok (.iload_n 1, 1) := by decide +kernel
theorem dX6_readBody_87 : decode cX6_readBody 87 = .ok (.invokevirtual 94, 3) := by decide +kernel
theorem dX6_readBody_90 : decode cX6_readBody 90 = .ok (.ifCond .eq 15, 3) := by decide +kernel
theorem dX6_readBody_93 : decode cX6_readBody 93 = .ok (.aload_n 0, 1) := by decide +kernel
theorem dX6_readBody_94 : decode cX6_readBody 94 = .ok (.iload_n 1, 1) := by decide +kernel
theorem dX6_readBody_95 : decode cX6_readBody 95 = .ok (.invokevirtual 91, 3) := by decide +kernel
theorem dX6_readBody_98 : decode cX6_readBody 98 = .ok (.ifCond .eq 7, 3) := by decide +kernel
theorem dX6_readBody_101 : decode cX6_readBody 101 = .ok (.iconst 1, 1) := by decide +kernel
theorem dX6_readBody_102 : decode cX6_readBody 102 = .ok (.goto 4, 3) := by decide +kernel
theorem dX6_readBody_105 : decode cX6_readBody 105 = .ok (.iconst 0, 1) := by decide +kernel
theorem dX6_readBody_106 : decode cX6_readBody 106 = .ok (.ireturn, 1) := by decide +kernel
theorem dX6_readBody_107 : decode cX6_readBody 107 = .ok (.aload_n 0, 1) := by decide +kernel
theorem dX6_readBody_108 : decode cX6_readBody 108 = .ok (.iconst 2, 1) := by decide +kernel
theorem dX6_readBody_109 : decode cX6_readBody 109 = .ok (.iload_n 1, 1) := by decide +kernel
theorem dX6_readBody_110 : decode cX6_readBody 110 = .ok (.imul, 1) := by decide +kernel
theorem dX6_readBody_111 : decode cX6_readBody 111 = .ok (.invokevirtual 88, 3) := by decide +kernel
theorem dX6_readBody_114 : decode cX6_readBody 114 = .ok (.ifCond .eq 15, 3) := by decide +kernel
theorem dX6_readBody_117 : decode cX6_readBody 117 = .ok (.aload_n 0, 1) := by decide +kernel
theorem dX6_readBody_118 : decode cX6_readBody 118 = .ok (.iload_n 1, 1) := by decide +kernel
theorem dX6_readBody_119 : decode cX6_readBody 119 = .ok (.invokevirtual 91, 3) := by decide +kernel
theorem dX6_readBody_122 : decode cX6_readBody 122 = .ok (.ifCond .eq 7, 3) := by decide +kernel
theorem dX6_readBody_125 : decode cX6_readBody 125 = .ok (.iconst 1, 1) := by decide +kernel
theorem dX6_readBody_126 : decode cX6_readBody 126 = .ok (.goto 4, 3) := by decide +kernel
theorem dX6_readBody_129 : decode cX6_readBody 129 = .ok (.iconst 0, 1) := by decide +kernel
theorem dX6_readBody_130 : decode cX6_readBody 130 = .ok (.ireturn, 1) := by decide +kernel
theorem dX6_readBody_131 : decode cX6_readBody 131 = .ok (.aload_n 0, 1) := by decide +kernel
theorem dX6_readBody_132 : decode cX6_readBody 132 = .ok (.iconst 2, 1) := by decide +kernel
theorem dX6_readBody_133 : decode cX6_readBody 133 = .ok (.iload_n 1, 1) := by decide +kernel
theorem dX6_readBody_134 : decode cX6_readBody 134 = .ok (.imul, 1) := by decide +kernel
theorem dX6_readBody_135 : decode cX6_readBody 135 = .ok (.invokevirtual 88, 3) := by decide +kernel
theorem dX6_readBody_138 : decode cX6_readBody 138 = .ok (.ifCond .eq 28, 3) := by decide +kernel
theorem dX6_readBody_141 : decode cX6_readBody 141 = .ok (.aload_n 0, 1) := by decide +kernel
theorem dX6_readBody_142 : decode cX6_readBody 142 = .ok (.bipush 21, 2) := by decide +kernel
theorem dX6_readBody_144 : decode cX6_readBody 144 = .ok (.invokevirtual 85, 3) := by decide +kernel
theorem dX6_readBody_147 : decode cX6_readBody 147 = .ok (.ifCond .eq 19, 3) := by decide +kernel
theorem dX6_readBody_150 : decode cX6_readBody 150 = .ok (.aload_n 0, 1) := by decide +kernel
theorem dX6_readBody_151 : decode cX6_readBody 151 = .ok (.iconst 2, 1) := by decide +kernel
theorem dX6_readBody_152 : decode cX6_readBody 152 = .ok (.iload_n 1, 1) := by decide +kernel
theorem dX6_readBody_153 : decode cX6_readBody 153 = .ok (.imul, 1) := by decide +kernel
theorem dX6_readBody_154 : decode cX6_readBody 154 = .ok (.iconst 1, 1) := by decide +kernel
theorem dX6_readBody_155 : decode cX6_readBody 155 = .ok (.iadd, 1) := by decide +kernel
theorem dX6_readBody_156 : decode cX6_readBody 156 = .ok (.invokevirtual 88, 3) := by decide +kernel
theorem dX6_readBody_159 : decode cX6_readBody 159 = .ok (.ifCond .eq 7, 3) := by decide +kernel
theorem dX6_readBody_162 : decode cX6_readBody 162 = .ok (.iconst 1, 1) := by decide +kernel
theorem dX6_readBody_163 : decode cX6_readBody 163 = .ok (.goto 4, 3) := by decide +kernel
theorem dX6_readBody_166 : decode cX6_readBody 166 = .ok (.iconst 0, 1) := by decide +kernel
theorem dX6_readBody_167 : decode cX6_readBody 167 = .ok (.ireturn, 1) := by decide +kernel
theorem dX6_readBody_168 : decode cX6_readBody 168 = .ok (.aload_n 0, 1) := by decide +kernel
theorem dX6_readBody_169 : decode cX6_readBody 169 = .ok (.iload_n 1, 1) := by decide +kernel
theorem dX6_readBody_170 : decode cX6_readBody 170 = .ok (.invokevirtual 97, 3) := by decide +kernel
theorem dX6_readBody_173 : decode cX6_readBody 173 = .ok (.ifCond .eq 17, 3) := by decide +kernel
theorem dX6_readBody_176 : decode cX6_readBody 176 = .ok (.aload_n 0, 1) := by decide +kernel
theorem dX6_readBody_177 : decode cX6_readBody 177 = .ok (.iconst 2, 1) := by decide +kernel
theorem dX6_readBody_178 : decode cX6_readBody 178 = .ok (.iload_n 1, 1) := by decide +kernel
theorem dX6_readBody_179 : decode cX6_readBody 179 = .ok (.imul, 1) := by decide +kernel
theorem dX6_readBody_180 : decode cX6_readBody 180 = .ok (.invokevirtual 88, 3) := by decide +kernel
theorem dX6_readBody_183 : decode cX6_readBody 183 = .ok (.ifCond .eq 7, 3) := by decide +kernel
theorem dX6_readBody_186 : decode cX6_readBody 186 = .ok (.iconst 1, 1) := by decide +kernel
theorem dX6_readBody_187 : decode cX6_readBody 187 = .ok (.goto 4, 3) := by decide +kernel
theorem dX6_readBody_190 : decode cX6_readBody 190 = .ok (.iconst 0, 1) := by decide +kernel
theorem dX6_readBody_191 : decode cX6_readBody 191 = .ok (.ireturn, 1) := by decide +kernel
theorem dX6_readBody_192 : decode cX6_readBody 192 = .ok (.aload_n 0, 1) := by decide +kernel
theorem dX6_readBody_193 : decode cX6_readBody 193 = .ok (.iload_n 1, 1) := by decide +kernel
theorem dX6_readBody_194 : decode cX6_readBody 194 = .ok (.invokevirtual 100, 3) := by decide +kernel
theorem dX6_readBody_197 : decode cX6_readBody 197 = .ok (.ireturn, 1) := by decide +kernel
theorem dX6_readBody_198 : decode cX6_readBody 198 = .ok (.aload_n 0, 1) := by decide +kernel
theorem dX6_readBody_199 : decode cX6_readBody 199 = .ok (.iload_n 1, 1) := by decide +kernel
theorem dX6_readBody_200 : decode cX6_readBody 200 = .ok (.invokevirtual 91, 3) := by decide +kernel
theorem dX6_readBody_203 : decode cX6_readBody 203 = .ok (.ireturn, 1) := by decide +kernel
theorem dX6_readCode_0 : decode cX6_readCode 0 = .ok (.aload_n 0, 1) := by decide +kernel
theorem dX6_readCode_1 : decode cX6_readCode 1 = .ok (.getfield 42, 3) := by decide +kernel
theorem dX6_readCode_4 : decode cX6_readCode 4 = .ok (.iload_n 1, 1) := by decide +kernel
theorem dX6_readCode_5 : decode cX6_readCode 5 = .ok (.if_icmp .eq 9, 3) := by decide +kernel
theorem dX6_readCode_8 : decode cX6_readCode 8 = .ok (.aload_n 0, 1) := by decide +kernel
theorem dX6_readCode_9 : decode cX6_readCode 9 = .ok (.iconst 1, 1) := by decide +kernel
theorem dX6_readCode_10 : decode cX6_readCode 10 = .ok (.invokevirtual 72, 3) := by decide +kernel
theorem dX6_readCode_13 : decode cX6_readCode 13 = .ok (.ireturn, 1) := by decide +kernel
theorem dX6_readCode_14 : decode cX6_readCode 14 = .ok (.aload_n 0, 1) := by decide +kernel
theorem dX6_readCode_15 : decode cX6_readCode 15 = .ok (.invokevirtual 39, 3) := by decide +kernel
theorem dX6_readCode_18 : decode cX6_readCode 18 = .ok (.iconst 1, 1) := by decide +kernel
theorem dX6_readCode_19 : decode cX6_readCode 19 = .ok (.ireturn, 1) := by decide +kernel
theorem dX6_readNumber_0 : decode cX6_readNumber 0 = .ok (.aload_n 0, 1) := by decide +kernel
theorem dX6_readNumber_1 : decode cX6_readNumber 1 = .ok (.getfield 19, 3) := by decide +kernel
theorem dX6_readNumber_4 : decode cX6_readNumber 4 = .ok (.getfield 103, 3) := by decide +kernel
theorem dX6_readNumber_7 : decode cX6_readNumber 7 = .ok (.iload_n 1, 1) := by decide +kernel
theorem dX6_readNumber_8 : decode cX6_readNumber 8 = .ok (.aload_n 0, 1) := by decide +kernel
theorem dX6_readNumber_9 : decode cX6_readNumber 9 = .ok (.getfield 65, 3) := by decide +kernel
theorem dX6_readNumber_12 : decode cX6_readNumber 12 = .ok (.iastore, 1) := by decide +kernel
theorem dX6_readNumber_13 : decode cX6_readNumber 13 = .ok (.aload_n 0, 1) := by decide +kernel
theorem dX6_readNumber_14 : decode cX6_readNumber 14 = .ok (.bipush (-3), 2) := by decide +kernel
theorem dX6_readNumber_16 : decode cX6_readNumber 16 = .ok (.invokevirtual 85, 3) := by decide +kernel
theorem dX6_readNumber_19 : decode cX6_readNumber 19 = .ok (.ireturn, 1) := by decide +kernel
theorem dX6_readWeight_0 : decode cX6_readWeight 0 = .ok (.aload_n 0, 1) := by decide +kernel
theorem dX6_readWeight_1 : decode cX6_readWeight 1 = .ok (.bipush 58, 2) := by decide +kernel
theorem dX6_readWeight_3 : decode cX6_readWeight 3 = .ok (.invokevirtual 85, 3) := by decide +kernel
theorem dX6_readWeight_6 : decode cX6_readWeight 6 = .ok (.ifCond .eq 15, 3) := by decide +kernel
theorem dX6_readWeight_9 : decode cX6_readWeight 9 = .ok (.aload_n 0, 1) := by decide +kernel
theorem dX6_readWeight_10 : decode cX6_readWeight 10 = .ok (.iload_n 1, 1) := by decide +kernel
theorem dX6_readWeight_11 : decode cX6_readWeight 11 = .ok (.invokevirtual 97, 3) := by decide +kernel
theorem dX6_readWeight_14 : decode cX6_readWeight 14 = .ok (.ifCond .eq 7, 3) := by decide +kernel
theorem dX6_readWeight_17 : decode cX6_readWeight 17 = .ok (.iconst 1, 1) := by decide +kernel
theorem dX6_readWeight_18 : decode cX6_readWeight 18 = .ok (.goto 4, 3) := by decide +kernel
theorem dX6_readWeight_21 : decode cX6_readWeight 21 = .ok (.iconst 0, 1) := by decide +kernel
theorem dX6_readWeight_22 : decode cX6_readWeight 22 = .ok (.ireturn, 1) := by decide +kernel
theorem dX6_readTrait_0 : decode cX6_readTrait 0 = .ok (.aload_n 0, 1) := by decide +kernel
theorem dX6_readTrait_1 : decode cX6_readTrait 1 = .ok (.getfield 19, 3) := by decide +kernel
theorem dX6_readTrait_4 : decode cX6_readTrait 4 = .ok (.getfield 104, 3) := by decide +kernel
theorem dX6_readTrait_7 : decode cX6_readTrait 7 = .ok (.iload_n 1, 1) := by decide +kernel
theorem dX6_readTrait_8 : decode cX6_readTrait 8 = .ok (.aload_n 0, 1) := by decide +kernel
theorem dX6_readTrait_9 : decode cX6_readTrait 9 = .ok (.getfield 42, 3) := by decide +kernel
theorem dX6_readTrait_12 : decode cX6_readTrait 12 = .ok (.iastore, 1) := by decide +kernel
theorem dX6_readTrait_13 : decode cX6_readTrait 13 = .ok (.aload_n 0, 1) := by decide +kernel
theorem dX6_readTrait_14 : decode cX6_readTrait 14 = .ok (.aload_n 0, 1) := by decide +kernel
theorem dX6_readTrait_15 : decode cX6_readTrait 15 = .ok (.getfield 42, 3) := by decide +kernel
theorem dX6_readTrait_18 : decode cX6_readTrait 18 = .ok (.iconst 0, 1) := by decide +kernel
theorem dX6_readTrait_19 : decode cX6_readTrait 19 = .ok (.bipush 6, 2) := by decide +kernel
theorem dX6_readTrait_21 : decode cX6_readTrait 21 = .ok (.invokestatic 68, 3) := by decide +kernel
theorem dX6_readTrait_24 : decode cX6_readTrait 24 = .ok (.ifCond .eq 10, 3) := by decide +kernel
theorem dX6_readTrait_27 : decode cX6_readTrait 27 = .ok (.aload_n 0, 1) := by decide +kernel
theorem dX6_readTrait_28 : decode cX6_readTrait 28 = .ok (.getfield 42, 3) := by decide +kernel
theorem dX6_readTrait_31 : decode cX6_readTrait 31 = .ok (.goto 4, 3) := by decide +kernel
theorem dX6_readTrait_34 : decode cX6_readTrait 34 = .ok (.iconst 0, 1) := by decide +kernel
theorem dX6_readTrait_35 : decode cX6_readTrait 35 = .ok (.invokevirtual 85, 3) := by decide +kernel
theorem dX6_readTrait_38 : decode cX6_readTrait 38 = .ok (.ireturn, 1) := by decide +kernel
theorem dX6_readHow_0 : decode cX6_readHow 0 = .ok (.aload_n 0, 1) := by decide +kernel
theorem dX6_readHow_1 : decode cX6_readHow 1 = .ok (.getfield 19, 3) := by decide +kernel
theorem dX6_readHow_4 : decode cX6_readHow 4 = .ok (.getfield 104, 3) := by decide +kernel
theorem dX6_readHow_7 : decode cX6_readHow 7 = .ok (.iload_n 1, 1) := by decide +kernel
theorem dX6_readHow_8 : decode cX6_readHow 8 = .ok (.aload_n 0, 1) := by decide +kernel
theorem dX6_readHow_9 : decode cX6_readHow 9 = .ok (.getfield 42, 3) := by decide +kernel
theorem dX6_readHow_12 : decode cX6_readHow 12 = .ok (.iastore, 1) := by decide +kernel
theorem dX6_readHow_13 : decode cX6_readHow 13 = .ok (.aload_n 0, 1) := by decide +kernel
theorem dX6_readHow_14 : decode cX6_readHow 14 = .ok (.aload_n 0, 1) := by decide +kernel
theorem dX6_readHow_15 : decode cX6_readHow 15 = .ok (.getfield 42, 3) := by decide +kernel
theorem dX6_readHow_18 : decode cX6_readHow 18 = .ok (.bipush 13, 2) := by decide +kernel
theorem dX6_readHow_20 : decode cX6_readHow 20 = .ok (.if_icmp .eq 12, 3) := by decide +kernel
theorem dX6_readHow_23 : decode cX6_readHow 23 = .ok (.aload_n 0, 1) := by decide +kernel
theorem dX6_readHow_24 : decode cX6_readHow 24 = .ok (.getfield 42, 3) := by decide +kernel
theorem dX6_readHow_27 : decode cX6_readHow 27 = .ok (.bipush 17, 2) := by decide +kernel
theorem dX6_readHow_29 : decode cX6_readHow 29 = .ok (.if_icmp .ne 10, 3) := by decide +kernel
theorem dX6_readHow_32 : decode cX6_readHow 32 = .ok (.aload_n 0, 1) := by decide +kernel
theorem dX6_readHow_33 : decode cX6_readHow 33 = .ok (.getfield 42, 3) := by decide +kernel
theorem dX6_readHow_36 : decode cX6_readHow 36 = .ok (.goto 5, 3) := by decide +kernel
theorem dX6_readHow_39 : decode cX6_readHow 39 = .ok (.bipush 18, 2) := by decide +kernel
theorem dX6_readHow_41 : decode cX6_readHow 41 = .ok (.invokevirtual 85, 3) := by decide +kernel
theorem dX6_readHow_44 : decode cX6_readHow 44 = .ok (.ireturn, 1) := by decide +kernel
theorem dX6_readTerms_0 : decode cX6_readTerms 0 = .ok (.iconst 0, 1) := by decide +kernel
theorem dX6_readTerms_1 : decode cX6_readTerms 1 = .ok (.istore_n 2, 1) := by decide +kernel
theorem dX6_readTerms_2 : decode cX6_readTerms 2 = .ok (.iload_n 2, 1) := by decide +kernel
theorem dX6_readTerms_3 : decode cX6_readTerms 3 = .ok (.iconst 4, 1) := by decide +kernel
theorem dX6_readTerms_4 : decode cX6_readTerms 4 = .ok (.if_icmp .gt 89, 3) := by decide +kernel
theorem dX6_readTerms_7 : decode cX6_readTerms 7 = .ok (.aload_n 0, 1) := by decide +kernel
theorem dX6_readTerms_8 : decode cX6_readTerms 8 = .ok (.getfield 42, 3) := by decide +kernel
theorem dX6_readTerms_11 : decode cX6_readTerms 11 = .ok (.bipush 19, 2) := by decide +kernel
theorem dX6_readTerms_13 : decode cX6_readTerms 13 = .ok (.if_icmp .eq 22, 3) := by decide +kernel
theorem dX6_readTerms_16 : decode cX6_readTerms 16 = .ok (.aload_n 0, 1) := by decide +kernel
theorem dX6_readTerms_17 : decode cX6_readTerms 17 = .ok (.getfield 42, 3) := by decide +kernel
theorem dX6_readTerms_20 : decode cX6_readTerms 20 = .ok (.iconst 0, 1) := by decide +kernel
theorem dX6_readTerms_21 : decode cX6_readTerms 21 = .ok (.bipush 7, 2) := by decide +kernel
theorem dX6_readTerms_23 : decode cX6_readTerms 23 = .ok (.invokestatic 68, 3) := by decide +kernel
theorem dX6_readTerms_26 : decode cX6_readTerms 26 = .ok (.ifCond .ne 9, 3) := by decide +kernel
theorem dX6_readTerms_29 : decode cX6_readTerms 29 = .ok (.aload_n 0, 1) := by decide +kernel
theorem dX6_readTerms_30 : decode cX6_readTerms 30 = .ok (.iconst 1, 1) := by decide +kernel
theorem dX6_readTerms_31 : decode cX6_readTerms 31 = .ok (.invokevirtual 72, 3) := by decide +kernel
theorem dX6_readTerms_34 : decode cX6_readTerms 34 = .ok (.ireturn, 1) := by decide +kernel
theorem dX6_readTerms_35 : decode cX6_readTerms 35 = .ok (.iload_n 2, 1) := by decide +kernel
theorem dX6_readTerms_36 : decode cX6_readTerms 36 = .ok (.iconst 4, 1) := by decide +kernel
theorem dX6_readTerms_37 : decode cX6_readTerms 37 = .ok (.if_icmp .lt 9, 3) := by decide +kernel
theorem dX6_readTerms_40 : decode cX6_readTerms 40 = .ok (.aload_n 0, 1) := by decide +kernel
theorem dX6_readTerms_41 : decode cX6_readTerms 41 = .ok (.iconst 3, 1) := by decide +kernel
theorem dX6_readTerms_42 : decode cX6_readTerms 42 = .ok (.invokevirtual 72, 3) := by decide +kernel
theorem dX6_readTerms_45 : decode cX6_readTerms 45 = .ok (.ireturn, 1) := by decide +kernel
theorem dX6_readTerms_46 : decode cX6_readTerms 46 = .ok (.aload_n 0, 1) := by decide +kernel
theorem dX6_readTerms_47 : decode cX6_readTerms 47 = .ok (.iload_n 1, 1) := by decide +kernel
theorem dX6_readTerms_48 : decode cX6_readTerms 48 = .ok (.iconst 4, 1) := by decide +kernel
theorem dX6_readTerms_49 : decode cX6_readTerms 49 = .ok (.imul, 1) := by decide +kernel
theorem dX6_readTerms_50 : decode cX6_readTerms 50 = .ok (.iload_n 2, 1) := by decide +kernel
theorem dX6_readTerms_51 : decode cX6_readTerms 51 = .ok (.iadd, 1) := by decide +kernel
theorem dX6_readTerms_52 : decode cX6_readTerms 52 = .ok (.invokevirtual 107, 3) := by decide +kernel
theorem dX6_readTerms_55 : decode cX6_readTerms 55 = .ok (.ifCond .ne 5, 3) := by decide +kernel
theorem dX6_readTerms_58 : decode cX6_readTerms 58 = .ok (.iconst 0, 1) := by decide +kernel
theorem dX6_readTerms_59 : decode cX6_readTerms 59 = .ok (.ireturn, 1) := by decide +kernel
theorem dX6_readTerms_60 : decode cX6_readTerms 60 = .ok (.aload_n 0, 1) := by decide +kernel
theorem dX6_readTerms_61 : decode cX6_readTerms 61 = .ok (.getfield 19, 3) := by decide +kernel
theorem dX6_readTerms_64 : decode cX6_readTerms 64 = .ok (.getfield 110, 3) := by decide +kernel
theorem dX6_readTerms_67 : decode cX6_readTerms 67 = .ok (.iload_n 1, 1) := by decide +kernel
theorem dX6_readTerms_68 : decode cX6_readTerms 68 = .ok (.iload_n 2, 1) := by decide +kernel
theorem dX6_readTerms_69 : decode cX6_readTerms 69 = .ok (.iconst 1, 1) := by decide +kernel
theorem dX6_readTerms_70 : decode cX6_readTerms 70 = .ok (.iadd, 1) := by decide +kernel
theorem dX6_readTerms_71 : decode cX6_readTerms 71 = .ok (.iastore, 1) := by decide +kernel
theorem dX6_readTerms_72 : decode cX6_readTerms 72 = .ok (.aload_n 0, 1) := by decide +kernel
theorem dX6_readTerms_73 : decode cX6_readTerms 73 = .ok (.getfield 42, 3) := by decide +kernel
theorem dX6_readTerms_76 : decode cX6_readTerms 76 = .ok (.bipush 20, 2) := by decide +kernel
theorem dX6_readTerms_78 : decode cX6_readTerms 78 = .ok (.if_icmp .eq 5, 3) := by decide +kernel
theorem dX6_readTerms_81 : decode cX6_readTerms 81 = .ok (.iconst 1, 1) := by decide +kernel
theorem dX6_readTerms_82 : decode cX6_readTerms 82 = .ok (.ireturn, 1) := by decide +kernel
theorem dX6_readTerms_83 : decode cX6_readTerms 83 = .ok (.aload_n 0, 1) := by decide +kernel
theorem dX6_readTerms_84 : decode cX6_readTerms 84 = .ok (.invokevirtual 39, 3) := by decide +kernel
theorem dX6_readTerms_87 : decode cX6_readTerms 87 = .ok (.iinc 2 1, 3) := by decide +kernel
theorem dX6_readTerms_90 : decode cX6_readTerms 90 = .ok (.goto (-88), 3) := by decide +kernel
theorem dX6_readTerms_93 : decode cX6_readTerms 93 = .ok (.iconst 0, 1) := by decide +kernel
theorem dX6_readTerms_94 : decode cX6_readTerms 94 = .ok (.ireturn, 1) := by decide +kernel
theorem dX6_readTerm_0 : decode cX6_readTerm 0 = .ok (.aload_n 0, 1) := by decide +kernel
theorem dX6_readTerm_1 : decode cX6_readTerm 1 = .ok (.getfield 19, 3) := by decide +kernel
theorem dX6_readTerm_4 : decode cX6_readTerm 4 = .ok (.getfield 113, 3) := by decide +kernel
theorem dX6_readTerm_7 : decode cX6_readTerm 7 = .ok (.iload_n 1, 1) := by decide +kernel
theorem dX6_readTerm_8 : decode cX6_readTerm 8 = .ok (.aload_n 0, 1) := by decide +kernel
theorem dX6_readTerm_9 : decode cX6_readTerm 9 = .ok (.getfield 42, 3) := by decide +kernel
theorem dX6_readTerm_12 : decode cX6_readTerm 12 = .ok (.bipush 19, 2) := by decide +kernel
theorem dX6_readTerm_14 : decode cX6_readTerm 14 = .ok (.if_icmp .ne 7, 3) := by decide +kernel
theorem dX6_readTerm_17 : decode cX6_readTerm 17 = .ok (.iconst 1, 1) := by decide +kernel
theorem dX6_readTerm_18 : decode cX6_readTerm 18 = .ok (.goto 4, 3) := by decide +kernel
theorem dX6_readTerm_21 : decode cX6_readTerm 21 = .ok (.iconst 0, 1) := by decide +kernel
theorem dX6_readTerm_22 : decode cX6_readTerm 22 = .ok (.bastore, 1) := by decide +kernel
theorem dX6_readTerm_23 : decode cX6_readTerm 23 = .ok (.aload_n 0, 1) := by decide +kernel
theorem dX6_readTerm_24 : decode cX6_readTerm 24 = .ok (.getfield 42, 3) := by decide +kernel
theorem dX6_readTerm_27 : decode cX6_readTerm 27 = .ok (.bipush 19, 2) := by decide +kernel
theorem dX6_readTerm_29 : decode cX6_readTerm 29 = .ok (.if_icmp .ne 7, 3) := by decide +kernel
theorem dX6_readTerm_32 : decode cX6_readTerm 32 = .ok (.aload_n 0, 1) := by decide +kernel
theorem dX6_readTerm_33 : decode cX6_readTerm 33 = .ok (.invokevirtual 39, 3) := by decide +kernel
theorem dX6_readTerm_36 : decode cX6_readTerm 36 = .ok (.aload_n 0, 1) := by decide +kernel
theorem dX6_readTerm_37 : decode cX6_readTerm 37 = .ok (.getfield 42, 3) := by decide +kernel
theorem dX6_readTerm_40 : decode cX6_readTerm 40 = .ok (.istore_n 2, 1) := by decide +kernel
theorem dX6_readTerm_41 : decode cX6_readTerm 41 = .ok (.iload_n 2, 1) := by decide +kernel
theorem dX6_readTerm_42 : decode cX6_readTerm 42 = .ok (.iconst 0, 1) := by decide +kernel
theorem dX6_readTerm_43 : decode cX6_readTerm 43 = .ok (.bipush 7, 2) := by decide +kernel
theorem dX6_readTerm_45 : decode cX6_readTerm 45 = .ok (.invokestatic 68, 3) := by decide +kernel
theorem dX6_readTerm_48 : decode cX6_readTerm 48 = .ok (.ifCond .ne 9, 3) := by decide +kernel
theorem dX6_readTerm_51 : decode cX6_readTerm 51 = .ok (.aload_n 0, 1) := by decide +kernel
theorem dX6_readTerm_52 : decode cX6_readTerm 52 = .ok (.iconst 1, 1) := by decide +kernel
theorem dX6_readTerm_53 : decode cX6_readTerm 53 = .ok (.invokevirtual 72, 3) := by decide +kernel
theorem dX6_readTerm_56 : decode cX6_readTerm 56 = .ok (.ireturn, 1) := by decide +kernel
theorem dX6_readTerm_57 : decode cX6_readTerm 57 = .ok (.aload_n 0, 1) := by decide +kernel
theorem dX6_readTerm_58 : decode cX6_readTerm 58 = .ok (.getfield 19, 3) := by decide +kernel
theorem dX6_readTerm_61 : decode cX6_readTerm 61 = .ok (.getfield 117, 3) := by decide +kernel
theorem dX6_readTerm_64 : decode cX6_readTerm 64 = .ok (.iload_n 1, 1) := by decide +kernel
theorem dX6_readTerm_65 : decode cX6_readTerm 65 = .ok (.iload_n 2, 1) := by decide +kernel
theorem dX6_readTerm_66 : decode cX6_readTerm 66 = .ok (.iastore, 1) := by decide +kernel
theorem dX6_readTerm_67 : decode cX6_readTerm 67 = .ok (.aload_n 0, 1) := by decide +kernel
theorem dX6_readTerm_68 : decode cX6_readTerm 68 = .ok (.invokevirtual 39, 3) := by decide +kernel
theorem dX6_readTerm_71 : decode cX6_readTerm 71 = .ok (.iload_n 2, 1) := by decide +kernel
theorem dX6_readTerm_72 : decode cX6_readTerm 72 = .ok (.bipush 7, 2) := by decide +kernel
theorem dX6_readTerm_74 : decode cX6_readTerm 74 = .ok (.if_icmp .eq 52, 3) := by decide +kernel
theorem dX6_readTerm_77 : decode cX6_readTerm 77 = .ok (.aload_n 0, 1) := by decide +kernel
theorem dX6_readTerm_78 : decode cX6_readTerm 78 = .ok (.getfield 19, 3) := by decide +kernel
theorem dX6_readTerm_81 : decode cX6_readTerm 81 = .ok (.getfield 120, 3) := by decide +kernel
theorem dX6_readTerm_84 : decode cX6_readTerm 84 = .ok (.iload_n 1, 1) := by decide +kernel
theorem dX6_readTerm_85 : decode cX6_readTerm 85 = .ok (.aload_n 0, 1) := by decide +kernel
theorem dX6_readTerm_86 : decode cX6_readTerm 86 = .ok (.getfield 42, 3) := by decide +kernel
theorem dX6_readTerm_89 : decode cX6_readTerm 89 = .ok (.iastore, 1) := by decide +kernel
theorem dX6_readTerm_90 : decode cX6_readTerm 90 = .ok (.aload_n 0, 1) := by decide +kernel
theorem dX6_readTerm_91 : decode cX6_readTerm 91 = .ok (.aload_n 0, 1) := by decide +kernel
theorem dX6_readTerm_92 : decode cX6_readTerm 92 = .ok (.getfield 42, 3) := by decide +kernel
theorem dX6_readTerm_95 : decode cX6_readTerm 95 = .ok (.bipush 60, 2) := by decide +kernel
theorem dX6_readTerm_97 : decode cX6_readTerm 97 = .ok (.if_icmp .eq 12, 3) := by decide +kernel
theorem dX6_readTerm_100 : decode cX6_readTerm 100 = .ok (.aload_n 0, 1) := by decide +kernel
theorem dX6_readTerm_101 : decode cX6_readTerm 101 = .ok (.getfield 42, 3) := by decide +kernel
theorem dX6_readTerm_104 : decode cX6_readTerm 104 = .ok (.bipush 62, 2) := by decide +kernel
theorem dX6_readTerm_106 : decode cX6_readTerm 106 = .ok (.if_icmp .ne 10, 3) := by decide +kernel
theorem dX6_readTerm_109 : decode cX6_readTerm 109 = .ok (.aload_n 0, 1) := by decide +kernel
theorem dX6_readTerm_110 : decode cX6_readTerm 110 = .ok (.getfield 42, 3) := by decide +kernel
theorem dX6_readTerm_113 : decode cX6_readTerm 113 = .ok (.goto 5, 3) := by decide +kernel
theorem dX6_readTerm_116 : decode cX6_readTerm 116 = .ok (.bipush 61, 2) := by decide +kernel
theorem dX6_readTerm_118 : decode cX6_readTerm 118 = .ok (.invokevirtual 85, 3) := by decide +kernel
theorem dX6_readTerm_121 : decode cX6_readTerm 121 = .ok (.ifCond .ne 5, 3) := by decide +kernel
theorem dX6_readTerm_124 : decode cX6_readTerm 124 = .ok (.iconst 0, 1) := by decide +kernel
theorem dX6_readTerm_125 : decode cX6_readTerm 125 = .ok (.ireturn, 1) := by decide +kernel
theorem dX6_readTerm_126 : decode cX6_readTerm 126 = .ok (.iload_n 2, 1) := by decide +kernel
theorem dX6_readTerm_127 : decode cX6_readTerm 127 = .ok (.bipush 7, 2) := by decide +kernel
theorem dX6_readTerm_129 : decode cX6_readTerm 129 = .ok (.if_icmp .ne 27, 3) := by decide +kernel
theorem dX6_readTerm_132 : decode cX6_readTerm 132 = .ok (.aload_n 0, 1) := by decide +kernel
theorem dX6_readTerm_133 : decode cX6_readTerm 133 = .ok (.getfield 42, 3) := by decide +kernel
theorem dX6_readTerm_136 : decode cX6_readTerm 136 = .ok (.bipush (-3), 2) := by decide +kernel
theorem dX6_readTerm_138 : decode cX6_readTerm 138 = .ok (.if_icmp .ne 18, 3) := by decide +kernel
theorem dX6_readTerm_141 : decode cX6_readTerm 141 = .ok (.aload_n 0, 1) := by decide +kernel
theorem dX6_readTerm_142 : decode cX6_readTerm 142 = .ok (.getfield 65, 3) := by decide +kernel
theorem dX6_readTerm_145 : decode cX6_readTerm 145 = .ok (.bipush 7, 2) := by decide +kernel
theorem dX6_readTerm_147 : decode cX6_readTerm 147 = .ok (.if_icmp .le 9, 3) := by decide +kernel
theorem dX6_readTerm_150 : decode cX6_readTerm 150 = .ok (.aload_n 0, 1) := by decide +kernel
theorem dX6_readTerm_151 : decode cX6_readTerm 151 = .ok (.iconst 2, 1) := by decide +kernel
theorem dX6_readTerm_152 : decode cX6_readTerm 152 = .ok (.invokevirtual 72, 3) := by decide +kernel
theorem dX6_readTerm_155 : decode cX6_readTerm 155 = .ok (.ireturn, 1) := by decide +kernel
theorem dX6_readTerm_156 : decode cX6_readTerm 156 = .ok (.aload_n 0, 1) := by decide +kernel
theorem dX6_readTerm_157 : decode cX6_readTerm 157 = .ok (.getfield 19, 3) := by decide +kernel
theorem dX6_readTerm_160 : decode cX6_readTerm 160 = .ok (.getfield 123, 3) := by decide +kernel
theorem dX6_readTerm_163 : decode cX6_readTerm 163 = .ok (.iload_n 1, 1) := by decide +kernel
theorem dX6_readTerm_164 : decode cX6_readTerm 164 = .ok (.aload_n 0, 1) := by decide +kernel
theorem dX6_readTerm_165 : decode cX6_readTerm 165 = .ok (.getfield 65, 3) := by decide +kernel
theorem dX6_readTerm_168 : decode cX6_readTerm 168 = .ok (.iastore, 1) := by decide +kernel
theorem dX6_readTerm_169 : decode cX6_readTerm 169 = .ok (.aload_n 0, 1) := by decide +kernel
theorem dX6_readTerm_170 : decode cX6_readTerm 170 = .ok (.bipush (-3), 2) := by decide +kernel
theorem dX6_readTerm_172 : decode cX6_readTerm 172 = .ok (.invokevirtual 85, 3) := by decide +kernel
theorem dX6_readTerm_175 : decode cX6_readTerm 175 = .ok (.ireturn, 1) := by decide +kernel
theorem dX7_init_0 : decode cX7_init 0 = .ok (.aload_n 0, 1) := by decide +kernel
theorem dX7_init_1 : decode cX7_init 1 = .ok (.invokespecial 3, 3) := by decide +kernel
theorem dX7_init_4 : decode cX7_init 4 = .ok (.aload_n 0, 1) := by decide +kernel
theorem dX7_init_5 : decode cX7_init 5 = .ok (.bipush 16, 2) := by decide +kernel
theorem dX7_init_7 : decode cX7_init 7 = .ok (.newarray .int, 2) := by decide +kernel
theorem dX7_init_9 : decode cX7_init 9 = .ok (.putfield 11, 3) := by decide +kernel
theorem dX7_init_12 : decode cX7_init 12 = .ok (.aload_n 0, 1) := by decide +kernel
theorem dX7_init_13 : decode cX7_init 13 = .ok (.bipush 16, 2) := by decide +kernel
theorem dX7_init_15 : decode cX7_init 15 = .ok (.newarray .int, 2) := by decide +kernel
theorem dX7_init_17 : decode cX7_init 17 = .ok (.putfield 15, 3) := by decide +kernel
theorem dX7_init_20 : decode cX7_init 20 = .ok (.aload_n 0, 1) := by decide +kernel
theorem dX7_init_21 : decode cX7_init 21 = .ok (.bipush 16, 2) := by decide +kernel
theorem dX7_init_23 : decode cX7_init 23 = .ok (.newarray .int, 2) := by decide +kernel
theorem dX7_init_25 : decode cX7_init 25 = .ok (.putfield 18, 3) := by decide +kernel
theorem dX7_init_28 : decode cX7_init 28 = .ok (.aload_n 0, 1) := by decide +kernel
theorem dX7_init_29 : decode cX7_init 29 = .ok (.bipush 32, 2) := by decide +kernel
theorem dX7_init_31 : decode cX7_init 31 = .ok (.newarray .int, 2) := by decide +kernel
theorem dX7_init_33 : decode cX7_init 33 = .ok (.putfield 21, 3) := by decide +kernel
theorem dX7_init_36 : decode cX7_init 36 = .ok (.aload_n 0, 1) := by decide +kernel
theorem dX7_init_37 : decode cX7_init 37 = .ok (.sipush 128, 3) := by decide +kernel
theorem dX7_init_40 : decode cX7_init 40 = .ok (.newarray .boolean, 2) := by decide +kernel
theorem dX7_init_42 : decode cX7_init 42 = .ok (.putfield 24, 3) := by decide +kernel
theorem dX7_init_45 : decode cX7_init 45 = .ok (.aload_n 0, 1) := by decide +kernel
theorem dX7_init_46 : decode cX7_init 46 = .ok (.sipush 128, 3) := by decide +kernel
theorem dX7_init_49 : decode cX7_init 49 = .ok (.newarray .int, 2) := by decide +kernel
theorem dX7_init_51 : decode cX7_init 51 = .ok (.putfield 28, 3) := by decide +kernel
theorem dX7_init_54 : decode cX7_init 54 = .ok (.aload_n 0, 1) := by decide +kernel
theorem dX7_init_55 : decode cX7_init 55 = .ok (.sipush 128, 3) := by decide +kernel
theorem dX7_init_58 : decode cX7_init 58 = .ok (.newarray .int, 2) := by decide +kernel
theorem dX7_init_60 : decode cX7_init 60 = .ok (.putfield 31, 3) := by decide +kernel
theorem dX7_init_63 : decode cX7_init 63 = .ok (.aload_n 0, 1) := by decide +kernel
theorem dX7_init_64 : decode cX7_init 64 = .ok (.sipush 128, 3) := by decide +kernel
theorem dX7_init_67 : decode cX7_init 67 = .ok (.newarray .int, 2) := by decide +kernel
theorem dX7_init_69 : decode cX7_init 69 = .ok (.putfield 34, 3) := by decide +kernel
theorem dX7_init_72 : decode cX7_init 72 = .ok (.return_, 1) := by decide +kernel
theorem dX7_clear_0 : decode cX7_clear 0 = .ok (.aload_n 0, 1) := by decide +kernel
theorem dX7_clear_1 : decode cX7_clear 1 = .ok (.iconst 0, 1) := by decide +kernel
theorem dX7_clear_2 : decode cX7_clear 2 = .ok (.putfield 37, 3) := by decide +kernel
theorem dX7_clear_5 : decode cX7_clear 5 = .ok (.aload_n 0, 1) := by decide +kernel
theorem dX7_clear_6 : decode cX7_clear 6 = .ok (.getfield 21, 3) := by decide +kernel
theorem dX7_clear_9 : decode cX7_clear 9 = .ok (.iconst 0, 1) := by decide +kernel
theorem dX7_clear_10 : decode cX7_clear 10 = .ok (.invokestatic 41, 3) := by decide +kernel
theorem dX7_clear_13 : decode cX7_clear 13 = .ok (.return_, 1) := by decide +kernel
theorem dX7_takesTerms_0 : decode cX7_takesTerms 0 = .ok (.aload_n 0, 1) := by decide +kernel
theorem dX7_takesTerms_1 : decode cX7_takesTerms 1 = .ok (.getfield 11, 3) := by decide +kernel
theorem dX7_takesTerms_4 : decode cX7_takesTerms 4 = .ok (.iload_n 1, 1) := by decide +kernel
theorem dX7_takesTerms_5 : decode cX7_takesTerms 5 = .ok (.iaload, 1) := by decide +kernel
theorem dX7_takesTerms_6 : decode cX7_takesTerms 6 = .ok (.tableswitch 58 8 15 #[48, 58, 58, 48, 58, 46, 48, 48], 46) := by decide +kernel
theorem dX7_takesTerms_52 : decode cX7_takesTerms 52 = .ok (.iconst 1, 1) := by decide +kernel
theorem dX7_takesTerms_53 : decode cX7_takesTerms 53 = .ok (.ireturn, 1) := by decide +kernel
theorem dX7_takesTerms_54 : decode cX7_takesTerms 54 = .ok (.iload_n 2, 1) := by decide +kernel
theorem dX7_takesTerms_55 : decode cX7_takesTerms 55 = .ok (.ifCond .ne 7, 3) := by decide +kernel
theorem dX7_takesTerms_58 : decode cX7_takesTerms 58 = .ok (.iconst 1, 1) := by decide +kernel
theorem dX7_takesTerms_59 : decode cX7_takesTerms 59 = .ok (.goto 4, 3) := by decide +kernel
theorem dX7_takesTerms_62 : decode cX7_takesTerms 62 = .ok (.iconst 0, 1) := by decide +kernel
theorem dX7_takesTerms_63 : decode cX7_takesTerms 63 = .ok (.ireturn, 1) := by decide +kernel
theorem dX7_takesTerms_64 : decode cX7_takesTerms 64 = .ok (.iconst 0, 1) := by decide +kernel
theorem dX7_takesTerms_65 : decode cX7_takesTerms 65 = .ok (.ireturn, 1) := by decide +kernel
theorem dX7_twinsHow_0 : decode cX7_twinsHow 0 = .ok (.bipush 18, 2) := by decide +kernel
theorem dX7_twinsHow_2 : decode cX7_twinsHow 2 = .ok (.istore_n 1, 1) := by decide +kernel
theorem dX7_twinsHow_3 : decode cX7_twinsHow 3 = .ok (.iconst 0, 1) := by decide +kernel
theorem dX7_twinsHow_4 : decode cX7_twinsHow 4 = .ok (.istore_n 2, 1) := by decide +kernel
theorem dX7_twinsHow_5 : decode cX7_twinsHow 5 = .ok (.iload_n 2, 1) := by decide +kernel
theorem dX7_twinsHow_6 : decode cX7_twinsHow 6 = .ok (.aload_n 0, 1) := by decide +kernel
theorem dX7_twinsHow_7 : decode cX7_twinsHow 7 = .ok (.getfield 37, 3) := by decide +kernel
theorem dX7_twinsHow_10 : decode cX7_twinsHow 10 = .ok (.if_icmp .ge 27, 3) := by decide +kernel
theorem dX7_twinsHow_13 : decode cX7_twinsHow 13 = .ok (.aload_n 0, 1) := by decide +kernel
theorem dX7_twinsHow_14 : decode cX7_twinsHow 14 = .ok (.getfield 11, 3) := by decide +kernel
theorem dX7_twinsHow_17 : decode cX7_twinsHow 17 = .ok (.iload_n 2, 1) := by decide +kernel
theorem dX7_twinsHow_18 : decode cX7_twinsHow 18 = .ok (.iaload, 1) := by decide +kernel
theorem dX7_twinsHow_19 : decode cX7_twinsHow 19 = .ok (.bipush 16, 2) := by decide +kernel
theorem dX7_twinsHow_21 : decode cX7_twinsHow 21 = .ok (.if_icmp .ne 10, 3) := by decide +kernel
theorem dX7_twinsHow_24 : decode cX7_twinsHow 24 = .ok (.aload_n 0, 1) := by decide +kernel
theorem dX7_twinsHow_25 : decode cX7_twinsHow 25 = .ok (.getfield 18, 3) := by decide +kernel
theorem dX7_twinsHow_28 : decode cX7_twinsHow 28 = .ok (.iload_n 2, 1) := by decide +kernel
theorem dX7_twinsHow_29 : decode cX7_twinsHow 29 = .ok (.iaload, 1) := by decide +kernel
theorem dX7_twinsHow_30 : decode cX7_twinsHow 30 = .ok (.istore_n 1, 1) := by decide +kernel
theorem dX7_twinsHow_31 : decode cX7_twinsHow 31 = .ok (.iinc 2 1, 3) := by decide +kernel
theorem dX7_twinsHow_34 : decode cX7_twinsHow 34 = .ok (.goto (-29), 3) := by decide +kernel
theorem dX7_twinsHow_37 : decode cX7_twinsHow 37 = .ok (.iload_n 1, 1) := by decide +kernel
theorem dX7_twinsHow_38 : decode cX7_twinsHow 38 = .ok (.ireturn, 1) := by decide +kernel
theorem dX7_uses_0 : decode cX7_uses 0 = .ok (.iconst 0, 1) := by decide +kernel
theorem dX7_uses_1 : decode cX7_uses 1 = .ok (.istore_n 2, 1) := by decide +kernel
theorem dX7_uses_2 : decode cX7_uses 2 = .ok (.iload_n 2, 1) := by decide +kernel
theorem dX7_uses_3 : decode cX7_uses 3 = .ok (.aload_n 0, 1) := by decide +kernel
theorem dX7_uses_4 : decode cX7_uses 4 = .ok (.getfield 37, 3) := by decide +kernel
theorem dX7_uses_7 : decode cX7_uses 7 = .ok (.if_icmp .ge 56, 3) := by decide +kernel
theorem dX7_uses_10 : decode cX7_uses 10 = .ok (.aload_n 0, 1) := by decide +kernel
theorem dX7_uses_11 : decode cX7_uses 11 = .ok (.getfield 11, 3) := by decide +kernel
theorem dX7_uses_14 : decode cX7_uses 14 = .ok (.iload_n 2, 1) := by decide +kernel
theorem dX7_uses_15 : decode cX7_uses 15 = .ok (.iaload, 1) := by decide +kernel
theorem dX7_uses_16 : decode cX7_uses 16 = .ok (.bipush 9, 2) := by decide +kernel
theorem dX7_uses_18 : decode cX7_uses 18 = .ok (.if_icmp .ne 13, 3) := by decide +kernel
theorem dX7_uses_21 : decode cX7_uses 21 = .ok (.aload_n 0, 1) := by decide +kernel
theorem dX7_uses_22 : decode cX7_uses 22 = .ok (.getfield 18, 3) := by decide +kernel
theorem dX7_uses_25 : decode cX7_uses 25 = .ok (.iload_n 2, 1) := by decide +kernel
theorem dX7_uses_26 : decode cX7_uses 26 = .ok (.iaload, 1) := by decide +kernel
theorem dX7_uses_27 : decode cX7_uses 27 = .ok (.iload_n 1, 1) := by decide +kernel
theorem dX7_uses_28 : decode cX7_uses 28 = .ok (.if_icmp .eq 27, 3) := by decide +kernel
theorem dX7_uses_31 : decode cX7_uses 31 = .ok (.aload_n 0, 1) := by decide +kernel
theorem dX7_uses_32 : decode cX7_uses 32 = .ok (.iconst 2, 1) := by decide +kernel
theorem dX7_uses_33 : decode cX7_uses 33 = .ok (.iload_n 2, 1) := by decide +kernel
theorem dX7_uses_34 : decode cX7_uses 34 = .ok (.imul, 1) := by decide +kernel
theorem dX7_uses_35 : decode cX7_uses 35 = .ok (.iload_n 1, 1) := by decide +kernel
theorem dX7_uses_36 : decode cX7_uses 36 = .ok (.invokevirtual 47, 3) := by decide +kernel
theorem dX7_uses_39 : decode cX7_uses 39 = .ok (.ifCond .ne 16, 3) := by decide +kernel
theorem dX7_uses_42 : decode cX7_uses 42 = .ok (.aload_n 0, 1) := by decide +kernel
theorem dX7_uses_43 : decode cX7_uses 43 = .ok (.iconst 2, 1) := by decide +kernel
theorem dX7_uses_44 : decode cX7_uses 44 = .ok (.iload_n 2, 1) := by decide +kernel
theorem dX7_uses_45 : decode cX7_uses 45 = .ok (.imul, 1) := by decide +kernel
theorem dX7_uses_46 : decode cX7_uses 46 = .ok (.iconst 1, 1) := by decide +kernel
theorem dX7_uses_47 : decode cX7_uses 47 = .ok (.iadd, 1) := by decide +kernel
theorem dX7_uses_48 : decode cX7_uses 48 = .ok (.iload_n 1, 1) := by decide +kernel
theorem dX7_uses_49 : decode cX7_uses 49 = .ok (.invokevirtual 47, 3) := by decide +kernel
theorem dX7_uses_52 : decode cX7_uses 52 = .ok (.ifCond .eq 5, 3) := by decide +kernel
theorem dX7_uses_55 : decode cX7_uses 55 = .ok (.iconst 1, 1) := by decide +kernel
theorem dX7_uses_56 : decode cX7_uses 56 = .ok (.ireturn, 1) := by decide +kernel
theorem dX7_uses_57 : decode cX7_uses 57 = .ok (.iinc 2 1, 3) := by decide +kernel
theorem dX7_uses_60 : decode cX7_uses 60 = .ok (.goto (-58), 3) := by decide +kernel
theorem dX7_uses_63 : decode cX7_uses 63 = .ok (.iconst 0, 1) := by decide +kernel
theorem dX7_uses_64 : decode cX7_uses 64 = .ok (.ireturn, 1) := by decide +kernel
theorem dX7_termsUse_0 : decode cX7_termsUse 0 = .ok (.iconst 0, 1) := by decide +kernel
theorem dX7_termsUse_1 : decode cX7_termsUse 1 = .ok (.istore_n 3, 1) := by decide +kernel
theorem dX7_termsUse_2 : decode cX7_termsUse 2 = .ok (.iload_n 3, 1) := by decide +kernel
theorem dX7_termsUse_3 : decode cX7_termsUse 3 = .ok (.aload_n 0, 1) := by decide +kernel
theorem dX7_termsUse_4 : decode cX7_termsUse 4 = .ok (.getfield 21, 3) := by decide +kernel
theorem dX7_termsUse_7 : decode cX7_termsUse 7 = .ok (.iload_n 1, 1) := by decide +kernel
theorem dX7_termsUse_8 : decode cX7_termsUse 8 = .ok (.iaload, 1) := by decide +kernel
theorem dX7_termsUse_9 : decode cX7_termsUse 9 = .ok (.if_icmp .ge 25, 3) := by decide +kernel
theorem dX7_termsUse_12 : decode cX7_termsUse 12 = .ok (.aload_n 0, 1) := by decide +kernel
theorem dX7_termsUse_13 : decode cX7_termsUse 13 = .ok (.getfield 28, 3) := by decide +kernel
theorem dX7_termsUse_16 : decode cX7_termsUse 16 = .ok (.iload_n 1, 1) := by decide +kernel
theorem dX7_termsUse_17 : decode cX7_termsUse 17 = .ok (.iconst 4, 1) := by decide +kernel
theorem dX7_termsUse_18 : decode cX7_termsUse 18 = .ok (.imul, 1) := by decide +kernel
theorem dX7_termsUse_19 : decode cX7_termsUse 19 = .ok (.iload_n 3, 1) := by decide +kernel
theorem dX7_termsUse_20 : decode cX7_termsUse 20 = .ok (.iadd, 1) := by decide +kernel
theorem dX7_termsUse_21 : decode cX7_termsUse 21 = .ok (.iaload, 1) := by decide +kernel
theorem dX7_termsUse_22 : decode cX7_termsUse 22 = .ok (.iload_n 2, 1) := by decide +kernel
theorem dX7_termsUse_23 : decode cX7_termsUse 23 = .ok (.if_icmp .ne 5, 3) := by decide +kernel
theorem dX7_termsUse_26 : decode cX7_termsUse 26 = .ok (.iconst 1, 1) := by decide +kernel
theorem dX7_termsUse_27 : decode cX7_termsUse 27 = .ok (.ireturn, 1) := by decide +kernel
theorem dX7_termsUse_28 : decode cX7_termsUse 28 = .ok (.iinc 3 1, 3) := by decide +kernel
theorem dX7_termsUse_31 : decode cX7_termsUse 31 = .ok (.goto (-29), 3) := by decide +kernel
theorem dX7_termsUse_34 : decode cX7_termsUse 34 = .ok (.iconst 0, 1) := by decide +kernel
theorem dX7_termsUse_35 : decode cX7_termsUse 35 = .ok (.ireturn, 1) := by decide +kernel
theorem dX8_init_0 : decode cX8_init 0 = .ok (.aload_n 0, 1) := by decide +kernel
theorem dX8_init_1 : decode cX8_init 1 = .ok (.invokespecial 5, 3) := by decide +kernel
theorem dX8_init_4 : decode cX8_init 4 = .ok (.aload_n 0, 1) := by decide +kernel
theorem dX8_init_5 : decode cX8_init 5 = .ok (.bipush 9, 2) := by decide +kernel
theorem dX8_init_7 : decode cX8_init 7 = .ok (.newarray .int, 2) := by decide +kernel
theorem dX8_init_9 : decode cX8_init 9 = .ok (.putfield 11, 3) := by decide +kernel
theorem dX8_init_12 : decode cX8_init 12 = .ok (.aload_n 0, 1) := by decide +kernel
theorem dX8_init_13 : decode cX8_init 13 = .ok (.bipush 9, 2) := by decide +kernel
theorem dX8_init_15 : decode cX8_init 15 = .ok (.newarray .int, 2) := by decide +kernel
theorem dX8_init_17 : decode cX8_init 17 = .ok (.putfield 15, 3) := by decide +kernel
theorem dX8_init_20 : decode cX8_init 20 = .ok (.aload_n 0, 1) := by decide +kernel
theorem dX8_init_21 : decode cX8_init 21 = .ok (.bipush 9, 2) := by decide +kernel
theorem dX8_init_23 : decode cX8_init 23 = .ok (.newarray .int, 2) := by decide +kernel
theorem dX8_init_25 : decode cX8_init 25 = .ok (.putfield 18, 3) := by decide +kernel
theorem dX8_init_28 : decode cX8_init 28 = .ok (.aload_n 0, 1) := by decide +kernel
theorem dX8_init_29 : decode cX8_init 29 = .ok (.sipush 512, 3) := by decide +kernel
theorem dX8_init_32 : decode cX8_init 32 = .ok (.newarray .int, 2) := by decide +kernel
theorem dX8_init_34 : decode cX8_init 34 = .ok (.putfield 21, 3) := by decide +kernel
theorem dX8_init_37 : decode cX8_init 37 = .ok (.aload_n 0, 1) := by decide +kernel
theorem dX8_init_38 : decode cX8_init 38 = .ok (.sipush 512, 3) := by decide +kernel
theorem dX8_init_41 : decode cX8_init 41 = .ok (.newarray .int, 2) := by decide +kernel
theorem dX8_init_43 : decode cX8_init 43 = .ok (.putfield 24, 3) := by decide +kernel
theorem dX8_init_46 : decode cX8_init 46 = .ok (.aload_n 0, 1) := by decide +kernel
theorem dX8_init_47 : decode cX8_init 47 = .ok (.sipush 512, 3) := by decide +kernel
theorem dX8_init_50 : decode cX8_init 50 = .ok (.newarray .int, 2) := by decide +kernel
theorem dX8_init_52 : decode cX8_init 52 = .ok (.putfield 27, 3) := by decide +kernel
theorem dX8_init_55 : decode cX8_init 55 = .ok (.aload_n 0, 1) := by decide +kernel
theorem dX8_init_56 : decode cX8_init 56 = .ok (.bipush 16, 2) := by decide +kernel
theorem dX8_init_58 : decode cX8_init 58 = .ok (.newarray .int, 2) := by decide +kernel
theorem dX8_init_60 : decode cX8_init 60 = .ok (.putfield 32, 3) := by decide +kernel
theorem dX8_init_63 : decode cX8_init 63 = .ok (.aload_n 0, 1) := by decide +kernel
theorem dX8_init_64 : decode cX8_init 64 = .ok (.sipush 144, 3) := by decide +kernel
theorem dX8_init_67 : decode cX8_init 67 = .ok (.newarray .int, 2) := by decide +kernel
theorem dX8_init_69 : decode cX8_init 69 = .ok (.putfield 35, 3) := by decide +kernel
theorem dX8_init_72 : decode cX8_init 72 = .ok (.aload_n 0, 1) := by decide +kernel
theorem dX8_init_73 : decode cX8_init 73 = .ok (.bipush 48, 2) := by decide +kernel
theorem dX8_init_75 : decode cX8_init 75 = .ok (.newarray .int, 2) := by decide +kernel
theorem dX8_init_77 : decode cX8_init 77 = .ok (.putfield 38, 3) := by decide +kernel
theorem dX8_init_80 : decode cX8_init 80 = .ok (.aload_n 0, 1) := by decide +kernel
theorem dX8_init_81 : decode cX8_init 81 = .ok (.iconst 3, 1) := by decide +kernel
theorem dX8_init_82 : decode cX8_init 82 = .ok (.newarray .int, 2) := by decide +kernel
theorem dX8_init_84 : decode cX8_init 84 = .ok (.putfield 41, 3) := by decide +kernel
theorem dX8_init_87 : decode cX8_init 87 = .ok (.aload_n 0, 1) := by decide +kernel
theorem dX8_init_88 : decode cX8_init 88 = .ok (.bipush 9, 2) := by decide +kernel
theorem dX8_init_90 : decode cX8_init 90 = .ok (.newarray .int, 2) := by decide +kernel
theorem dX8_init_92 : decode cX8_init 92 = .ok (.putfield 44, 3) := by decide +kernel
theorem dX8_init_95 : decode cX8_init 95 = .ok (.aload_n 0, 1) := by decide +kernel
theorem dX8_init_96 : decode cX8_init 96 = .ok (.bipush 9, 2) := by decide +kernel
theorem dX8_init_98 : decode cX8_init 98 = .ok (.newarray .int, 2) := by decide +kernel
theorem dX8_init_100 : decode cX8_init 100 = .ok (.putfield 47, 3) := by decide +kernel
theorem dX8_init_103 : decode cX8_init 103 = .ok (.aload_n 0, 1) := by decide +kernel
theorem dX8_init_104 : decode cX8_init 104 = .ok (.aload_n 1, 1) := by decide +kernel
theorem dX8_init_105 : decode cX8_init 105 = .ok (.putfield 50, 3) := by decide +kernel
theorem dX8_init_108 : decode cX8_init 108 = .ok (.aload_n 0, 1) := by decide +kernel
theorem dX8_init_109 : decode cX8_init 109 = .ok (.aload_n 2, 1) := by decide +kernel
theorem dX8_init_110 : decode cX8_init 110 = .ok (.putfield 54, 3) := by decide +kernel
theorem dX8_init_113 : decode cX8_init 113 = .ok (.return_, 1) := by decide +kernel
theorem dX8_begin_0 : decode cX8_begin 0 = .ok (.aload_n 0, 1) := by decide +kernel
theorem dX8_begin_1 : decode cX8_begin 1 = .ok (.iconst 0, 1) := by decide +kernel
theorem dX8_begin_2 : decode cX8_begin 2 = .ok (.putfield 58, 3) := by decide +kernel
theorem dX8_begin_5 : decode cX8_begin 5 = .ok (.aload_n 0, 1) := by decide +kernel
theorem dX8_begin_6 : decode cX8_begin 6 = .ok (.iconst 0, 1) := by decide +kernel
theorem dX8_begin_7 : decode cX8_begin 7 = .ok (.putfield 62, 3) := by decide +kernel
theorem dX8_begin_10 : decode cX8_begin 10 = .ok (.return_, 1) := by decide +kernel
theorem dX8_admit_0 : decode cX8_admit 0 = .ok (.aload_n 0, 1) := by decide +kernel
theorem dX8_admit_1 : decode cX8_admit 1 = .ok (.getfield 58, 3) := by decide +kernel
theorem dX8_admit_4 : decode cX8_admit 4 = .ok (.bipush 9, 2) := by decide +kernel
theorem dX8_admit_6 : decode cX8_admit 6 = .ok (.if_icmp .ge 33, 3) := by decide +kernel
theorem dX8_admit_9 : decode cX8_admit 9 = .ok (.aload_n 0, 1) := by decide +kernel
theorem dX8_admit_10 : decode cX8_admit 10 = .ok (.getfield 11, 3) := by decide +kernel
theorem dX8_admit_13 : decode cX8_admit 13 = .ok (.aload_n 0, 1) := by decide +kernel
theorem dX8_admit_14 : decode cX8_admit 14 = .ok (.getfield 58, 3) := by decide +kernel
theorem dX8_admit_17 : decode cX8_admit 17 = .ok (.iload_n 1, 1) := by decide +kernel
theorem dX8_admit_18 : decode cX8_admit 18 = .ok (.iastore, 1) := by decide +kernel
theorem dX8_admit_19 : decode cX8_admit 19 = .ok (.aload_n 0, 1) := by decide +kernel
theorem dX8_admit_20 : decode cX8_admit 20 = .ok (.getfield 15, 3) := by decide +kernel
theorem dX8_admit_23 : decode cX8_admit 23 = .ok (.aload_n 0, 1) := by decide +kernel
theorem dX8_admit_24 : decode cX8_admit 24 = .ok (.getfield 58, 3) := by decide +kernel
theorem dX8_admit_27 : decode cX8_admit 27 = .ok (.iload_n 2, 1) := by decide +kernel
theorem dX8_admit_28 : decode cX8_admit 28 = .ok (.iastore, 1) := by decide +kernel
theorem dX8_admit_29 : decode cX8_admit 29 = .ok (.aload_n 0, 1) := by decide +kernel
theorem dX8_admit_30 : decode cX8_admit 30 = .ok (.dup, 1) := by decide +kernel
theorem dX8_admit_31 : decode cX8_admit 31 = .ok (.getfield 58, 3) := by decide +kernel
theorem dX8_admit_34 : decode cX8_admit 34 = .ok (.iconst 1, 1) := by decide +kernel
theorem dX8_admit_35 : decode cX8_admit 35 = .ok (.iadd, 1) := by decide +kernel
theorem dX8_admit_36 : decode cX8_admit 36 = .ok (.putfield 58, 3) := by decide +kernel
theorem dX8_admit_39 : decode cX8_admit 39 = .ok (.return_, 1) := by decide +kernel
theorem dX8_run_0 : decode cX8_run 0 = .ok (.aload_n 0, 1) := by decide +kernel
theorem dX8_run_1 : decode cX8_run 1 = .ok (.invokevirtual 66, 3) := by decide +kernel
theorem dX8_run_4 : decode cX8_run 4 = .ok (.aload_n 0, 1) := by decide +kernel
theorem dX8_run_5 : decode cX8_run 5 = .ok (.invokevirtual 69, 3) := by decide +kernel
theorem dX8_run_8 : decode cX8_run 8 = .ok (.aload_n 0, 1) := by decide +kernel
theorem dX8_run_9 : decode cX8_run 9 = .ok (.invokevirtual 72, 3) := by decide +kernel
theorem dX8_run_12 : decode cX8_run 12 = .ok (.aload_n 0, 1) := by decide +kernel
theorem dX8_run_13 : decode cX8_run 13 = .ok (.getfield 41, 3) := by decide +kernel
theorem dX8_run_16 : decode cX8_run 16 = .ok (.iconst 0, 1) := by decide +kernel
theorem dX8_run_17 : decode cX8_run 17 = .ok (.invokestatic 75, 3) := by decide +kernel
theorem dX8_run_20 : decode cX8_run 20 = .ok (.aload_n 0, 1) := by decide +kernel
theorem dX8_run_21 : decode cX8_run 21 = .ok (.iconst 0, 1) := by decide +kernel
theorem dX8_run_22 : decode cX8_run 22 = .ok (.putfield 81, 3) := by decide +kernel
theorem dX8_run_25 : decode cX8_run 25 = .ok (.aload_n 0, 1) := by decide +kernel
theorem dX8_run_26 : decode cX8_run 26 = .ok (.iconst 0, 1) := by decide +kernel
theorem dX8_run_27 : decode cX8_run 27 = .ok (.putfield 84, 3) := by decide +kernel
theorem dX8_run_30 : decode cX8_run 30 = .ok (.aload_n 0, 1) := by decide +kernel
theorem dX8_run_31 : decode cX8_run 31 = .ok (.iconst 0, 1) := by decide +kernel
theorem dX8_run_32 : decode cX8_run 32 = .ok (.putfield 87, 3) := by decide +kernel
theorem dX8_run_35 : decode cX8_run 35 = .ok (.aload_n 0, 1) := by decide +kernel
theorem dX8_run_36 : decode cX8_run 36 = .ok (.iconst 0, 1) := by decide +kernel
theorem dX8_run_37 : decode cX8_run 37 = .ok (.invokestatic 90, 3) := by decide +kernel
theorem dX8_run_40 : decode cX8_run 40 = .ok (.return_, 1) := by decide +kernel
theorem dX8_seatOf_0 : decode cX8_seatOf 0 = .ok (.iconst 0, 1) := by decide +kernel
theorem dX8_seatOf_1 : decode cX8_seatOf 1 = .ok (.istore_n 2, 1) := by decide +kernel
theorem dX8_seatOf_2 : decode cX8_seatOf 2 = .ok (.iload_n 2, 1) := by decide +kernel
theorem dX8_seatOf_3 : decode cX8_seatOf 3 = .ok (.aload_n 0, 1) := by decide +kernel
theorem dX8_seatOf_4 : decode cX8_seatOf 4 = .ok (.getfield 58, 3) := by decide +kernel
theorem dX8_seatOf_7 : decode cX8_seatOf 7 = .ok (.if_icmp .ge 26, 3) := by decide +kernel
theorem dX8_seatOf_10 : decode cX8_seatOf 10 = .ok (.aload_n 0, 1) := by decide +kernel
theorem dX8_seatOf_11 : decode cX8_seatOf 11 = .ok (.getfield 11, 3) := by decide +kernel
theorem dX8_seatOf_14 : decode cX8_seatOf 14 = .ok (.iload_n 2, 1) := by decide +kernel
theorem dX8_seatOf_15 : decode cX8_seatOf 15 = .ok (.iaload, 1) := by decide +kernel
theorem dX8_seatOf_16 : decode cX8_seatOf 16 = .ok (.iload_n 1, 1) := by decide +kernel
theorem dX8_seatOf_17 : decode cX8_seatOf 17 = .ok (.if_icmp .ne 10, 3) := by decide +kernel
theorem dX8_seatOf_20 : decode cX8_seatOf 20 = .ok (.aload_n 0, 1) := by decide +kernel
theorem dX8_seatOf_21 : decode cX8_seatOf 21 = .ok (.getfield 47, 3) := by decide +kernel
theorem dX8_seatOf_24 : decode cX8_seatOf 24 = .ok (.iload_n 2, 1) := by decide +kernel
theorem dX8_seatOf_25 : decode cX8_seatOf 25 = .ok (.iaload, 1) := by decide +kernel
theorem dX8_seatOf_26 : decode cX8_seatOf 26 = .ok (.ireturn, 1) := by decide +kernel
theorem dX8_seatOf_27 : decode cX8_seatOf 27 = .ok (.iinc 2 1, 3) := by decide +kernel
theorem dX8_seatOf_30 : decode cX8_seatOf 30 = .ok (.goto (-28), 3) := by decide +kernel
theorem dX8_seatOf_33 : decode cX8_seatOf 33 = .ok (.iconst (-1), 1) := by decide +kernel
theorem dX8_seatOf_34 : decode cX8_seatOf 34 = .ok (.ireturn, 1) := by decide +kernel
theorem dX8_groupOf_0 : decode cX8_groupOf 0 = .ok (.aload_n 0, 1) := by decide +kernel
theorem dX8_groupOf_1 : decode cX8_groupOf 1 = .ok (.iload_n 1, 1) := by decide +kernel
theorem dX8_groupOf_2 : decode cX8_groupOf 2 = .ok (.invokevirtual 94, 3) := by decide +kernel
theorem dX8_groupOf_5 : decode cX8_groupOf 5 = .ok (.istore_n 2, 1) := by decide +kernel
theorem dX8_groupOf_6 : decode cX8_groupOf 6 = .ok (.iconst 0, 1) := by decide +kernel
theorem dX8_groupOf_7 : decode cX8_groupOf 7 = .ok (.istore_n 3, 1) := by decide +kernel
theorem dX8_groupOf_8 : decode cX8_groupOf 8 = .ok (.iconst 0, 1) := by decide +kernel
theorem dX8_groupOf_9 : decode cX8_groupOf 9 = .ok (.istore 4, 2) := by decide +kernel
theorem dX8_groupOf_11 : decode cX8_groupOf 11 = .ok (.iload 4, 2) := by decide +kernel
theorem dX8_groupOf_13 : decode cX8_groupOf 13 = .ok (.aload_n 0, 1) := by decide +kernel
theorem dX8_groupOf_14 : decode cX8_groupOf 14 = .ok (.getfield 58, 3) := by decide +kernel
theorem dX8_groupOf_17 : decode cX8_groupOf 17 = .ok (.if_icmp .ge 32, 3) := by decide +kernel
theorem dX8_groupOf_20 : decode cX8_groupOf 20 = .ok (.aload_n 0, 1) := by decide +kernel
theorem dX8_groupOf_21 : decode cX8_groupOf 21 = .ok (.getfield 47, 3) := by decide +kernel
theorem dX8_groupOf_24 : decode cX8_groupOf 24 = .ok (.iload 4, 2) := by decide +kernel
theorem dX8_groupOf_26 : decode cX8_groupOf 26 = .ok (.iaload, 1) := by decide +kernel
theorem dX8_groupOf_27 : decode cX8_groupOf 27 = .ok (.iload_n 2, 1) := by decide +kernel
theorem dX8_groupOf_28 : decode cX8_groupOf 28 = .ok (.if_icmp .ne 15, 3) := by decide +kernel
theorem dX8_groupOf_31 : decode cX8_groupOf 31 = .ok (.iload_n 3, 1) := by decide +kernel
theorem dX8_groupOf_32 : decode cX8_groupOf 32 = .ok (.iconst 1, 1) := by decide +kernel
theorem dX8_groupOf_33 : decode cX8_groupOf 33 = .ok (.aload_n 0, 1) := by decide +kernel
theorem dX8_groupOf_34 : decode cX8_groupOf 34 = .ok (.getfield 11, 3) := by decide +kernel
theorem dX8_groupOf_37 : decode cX8_groupOf 37 = .ok (.iload 4, 2) := by decide +kernel
theorem dX8_groupOf_39 : decode cX8_groupOf 39 = .ok (.iaload, 1) := by decide +kernel
theorem dX8_groupOf_40 : decode cX8_groupOf 40 = .ok (.ishl, 1) := by decide +kernel
theorem dX8_groupOf_41 : decode cX8_groupOf 41 = .ok (.ior, 1) := by decide +kernel
theorem dX8_groupOf_42 : decode cX8_groupOf 42 = .ok (.istore_n 3, 1) := by decide +kernel
theorem dX8_groupOf_43 : decode cX8_groupOf 43 = .ok (.iinc 4 1, 3) := by decide +kernel
theorem dX8_groupOf_46 : decode cX8_groupOf 46 = .ok (.goto (-35), 3) := by decide +kernel
theorem dX8_groupOf_49 : decode cX8_groupOf 49 = .ok (.iload_n 3, 1) := by decide +kernel
theorem dX8_groupOf_50 : decode cX8_groupOf 50 = .ok (.ireturn, 1) := by decide +kernel
theorem dX8_readSets_0 : decode cX8_readSets 0 = .ok (.iconst 0, 1) := by decide +kernel
theorem dX8_readSets_1 : decode cX8_readSets 1 = .ok (.istore_n 1, 1) := by decide +kernel
theorem dX8_readSets_2 : decode cX8_readSets 2 = .ok (.iload_n 1, 1) := by decide +kernel
theorem dX8_readSets_3 : decode cX8_readSets 3 = .ok (.iconst 1, 1) := by decide +kernel
theorem dX8_readSets_4 : decode cX8_readSets 4 = .ok (.aload_n 0, 1) := by decide +kernel
theorem dX8_readSets_5 : decode cX8_readSets 5 = .ok (.getfield 58, 3) := by decide +kernel
theorem dX8_readSets_8 : decode cX8_readSets 8 = .ok (.ishl, 1) := by decide +kernel
theorem dX8_readSets_9 : decode cX8_readSets 9 = .ok (.if_icmp .ge 173, 3) := by decide +kernel
theorem dX8_readSets_12 : decode cX8_readSets 12 = .ok (.iconst 0, 1) := by decide +kernel
theorem dX8_readSets_13 : decode cX8_readSets 13 = .ok (.istore_n 2, 1) := by decide +kernel
theorem dX8_readSets_14 : decode cX8_readSets 14 = .ok (.iconst 0, 1) := by decide +kernel
theorem dX8_readSets_15 : decode cX8_readSets 15 = .ok (.istore_n 3, 1) := by decide +kernel
theorem dX8_readSets_16 : decode cX8_readSets 16 = .ok (.iload_n 3, 1) := by decide +kernel
theorem dX8_readSets_17 : decode cX8_readSets 17 = .ok (.aload_n 0, 1) := by decide +kernel
theorem dX8_readSets_18 : decode cX8_readSets 18 = .ok (.getfield 58, 3) := by decide +kernel
theorem dX8_readSets_21 : decode cX8_readSets 21 = .ok (.if_icmp .ge 28, 3) := by decide +kernel
theorem dX8_readSets_24 : decode cX8_readSets 24 = .ok (.iload_n 1, 1) := by decide +kernel
theorem dX8_readSets_25 : decode cX8_readSets 25 = .ok (.iload_n 3, 1) := by decide +kernel
theorem dX8_readSets_26 : decode cX8_readSets 26 = .ok (.ishr, 1) := by decide +kernel
theorem dX8_readSets_27 : decode cX8_readSets 27 = .ok (.iconst 1, 1) := by decide +kernel
theorem dX8_readSets_28 : decode cX8_readSets 28 = .ok (.iand, 1) := by decide +kernel
theorem dX8_readSets_29 : decode cX8_readSets 29 = .ok (.ifCond .eq 14, 3) := by decide +kernel
theorem dX8_readSets_32 : decode cX8_readSets 32 = .ok (.iload_n 2, 1) := by decide +kernel
theorem dX8_readSets_33 : decode cX8_readSets 33 = .ok (.iconst 1, 1) := by decide +kernel
theorem dX8_readSets_34 : decode cX8_readSets 34 = .ok (.aload_n 0, 1) := by decide +kernel
theorem dX8_readSets_35 : decode cX8_readSets 35 = .ok (.getfield 11, 3) := by decide +kernel
theorem dX8_readSets_38 : decode cX8_readSets 38 = .ok (.iload_n 3, 1) := by decide +kernel
theorem dX8_readSets_39 : decode cX8_readSets 39 = .ok (.iaload, 1) := by decide +kernel
theorem dX8_readSets_40 : decode cX8_readSets 40 = .ok (.ishl, 1) := by decide +kernel
theorem dX8_readSets_41 : decode cX8_readSets 41 = .ok (.ior, 1) := by decide +kernel
theorem dX8_readSets_42 : decode cX8_readSets 42 = .ok (.istore_n 2, 1) := by decide +kernel
theorem dX8_readSets_43 : decode cX8_readSets 43 = .ok (.iinc 3 1, 3) := by decide +kernel
theorem dX8_readSets_46 : decode cX8_readSets 46 = .ok (.goto (-30), 3) := by decide +kernel
theorem dX8_readSets_49 : decode cX8_readSets 49 = .ok (.aload_n 0, 1) := by decide +kernel
theorem dX8_readSets_50 : decode cX8_readSets 50 = .ok (.getfield 21, 3) := by decide +kernel
theorem dX8_readSets_53 : decode cX8_readSets 53 = .ok (.iload_n 1, 1) := by decide +kernel
theorem dX8_readSets_54 : decode cX8_readSets 54 = .ok (.iconst 0, 1) := by decide +kernel
theorem dX8_readSets_55 : decode cX8_readSets 55 = .ok (.iastore, 1) := by decide +kernel
theorem dX8_readSets_56 : decode cX8_readSets 56 = .ok (.iconst 0, 1) := by decide +kernel
theorem dX8_readSets_57 : decode cX8_readSets 57 = .ok (.istore_n 3, 1) := by decide +kernel
theorem dX8_readSets_58 : decode cX8_readSets 58 = .ok (.iload_n 3, 1) := by decide +kernel
theorem dX8_readSets_59 : decode cX8_readSets 59 = .ok (.aload_n 0, 1) := by decide +kernel
theorem dX8_readSets_60 : decode cX8_readSets 60 = .ok (.getfield 50, 3) := by decide +kernel
theorem dX8_readSets_63 : decode cX8_readSets 63 = .ok (.getfield 98, 3) := by decide +kernel
theorem dX8_readSets_66 : decode cX8_readSets 66 = .ok (.if_icmp .ge 33, 3) := by decide +kernel
theorem dX8_readSets_69 : decode cX8_readSets 69 = .ok (.aload_n 0, 1) := by decide +kernel
theorem dX8_readSets_70 : decode cX8_readSets 70 = .ok (.getfield 54, 3) := by decide +kernel
theorem dX8_readSets_73 : decode cX8_readSets 73 = .ok (.iload_n 3, 1) := by decide +kernel
theorem dX8_readSets_74 : decode cX8_readSets 74 = .ok (.iload_n 2, 1) := by decide +kernel
theorem dX8_readSets_75 : decode cX8_readSets 75 = .ok (.invokevirtual 103, 3) := by decide +kernel
theorem dX8_readSets_78 : decode cX8_readSets 78 = .ok (.ifCond .eq 15, 3) := by decide +kernel
theorem dX8_readSets_81 : decode cX8_readSets 81 = .ok (.aload_n 0, 1) := by decide +kernel
theorem dX8_readSets_82 : decode cX8_readSets 82 = .ok (.getfield 21, 3) := by decide +kernel
theorem dX8_readSets_85 : decode cX8_readSets 85 = .ok (.iload_n 1, 1) := by decide +kernel
theorem dX8_readSets_86 : decode cX8_readSets 86 = .ok (.dup2, 1) := by decide +kernel
theorem dX8_readSets_87 : decode cX8_readSets 87 = .ok (.iaload, 1) := by decide +kernel
theorem dX8_readSets_88 : decode cX8_readSets 88 = .ok (.iconst 1, 1) := by decide +kernel
theorem dX8_readSets_89 : decode cX8_readSets 89 = .ok (.iload_n 3, 1) := by decide +kernel
theorem dX8_readSets_90 : decode cX8_readSets 90 = .ok (.ishl, 1) := by decide +kernel
theorem dX8_readSets_91 : decode cX8_readSets 91 = .ok (.ior, 1) := by decide +kernel
theorem dX8_readSets_92 : decode cX8_readSets 92 = .ok (.iastore, 1) := by decide +kernel
theorem dX8_readSets_93 : decode cX8_readSets 93 = .ok (.iinc 3 1, 3) := by decide +kernel
theorem dX8_readSets_96 : decode cX8_readSets 96 = .ok (.goto (-38), 3) := by decide +kernel
theorem dX8_readSets_99 : decode cX8_readSets 99 = .ok (.aload_n 0, 1) := by decide +kernel
theorem dX8_readSets_100 : decode cX8_readSets 100 = .ok (.getfield 24, 3) := by decide +kernel
theorem dX8_readSets_103 : decode cX8_readSets 103 = .ok (.iload_n 1, 1) := by decide +kernel
theorem dX8_readSets_104 : decode cX8_readSets 104 = .ok (.iconst 0, 1) := by decide +kernel
theorem dX8_readSets_105 : decode cX8_readSets 105 = .ok (.iastore, 1) := by decide +kernel
theorem dX8_readSets_106 : decode cX8_readSets 106 = .ok (.aload_n 0, 1) := by decide +kernel
theorem dX8_readSets_107 : decode cX8_readSets 107 = .ok (.getfield 27, 3) := by decide +kernel
theorem dX8_readSets_110 : decode cX8_readSets 110 = .ok (.iload_n 1, 1) := by decide +kernel
theorem dX8_readSets_111 : decode cX8_readSets 111 = .ok (.iconst 0, 1) := by decide +kernel
theorem dX8_readSets_112 : decode cX8_readSets 112 = .ok (.iastore, 1) := by decide +kernel
theorem dX8_readSets_113 : decode cX8_readSets 113 = .ok (.aload_n 0, 1) := by decide +kernel
theorem dX8_readSets_114 : decode cX8_readSets 114 = .ok (.getfield 21, 3) := by decide +kernel
theorem dX8_readSets_117 : decode cX8_readSets 117 = .ok (.iload_n 1, 1) := by decide +kernel
theorem dX8_readSets_118 : decode cX8_readSets 118 = .ok (.iaload, 1) := by decide +kernel
theorem dX8_readSets_119 : decode cX8_readSets 119 = .ok (.ifCond .eq 57, 3) := by decide +kernel
theorem dX8_readSets_122 : decode cX8_readSets 122 = .ok (.aload_n 0, 1) := by decide +kernel
theorem dX8_readSets_123 : decode cX8_readSets 123 = .ok (.getfield 27, 3) := by decide +kernel
theorem dX8_readSets_126 : decode cX8_readSets 126 = .ok (.iload_n 1, 1) := by decide +kernel
theorem dX8_readSets_127 : decode cX8_readSets 127 = .ok (.aload_n 0, 1) := by decide +kernel
theorem dX8_readSets_128 : decode cX8_readSets 128 = .ok (.getfield 54, 3) := by decide +kernel
theorem dX8_readSets_131 : decode cX8_readSets 131 = .ok (.iload_n 2, 1) := by decide +kernel
theorem dX8_readSets_132 : decode cX8_readSets 132 = .ok (.invokevirtual 109, 3) := by decide +kernel
theorem dX8_readSets_135 : decode cX8_readSets 135 = .ok (.iastore, 1) := by decide +kernel
theorem dX8_readSets_136 : decode cX8_readSets 136 = .ok (.iconst 0, 1) := by decide +kernel
theorem dX8_readSets_137 : decode cX8_readSets 137 = .ok (.istore_n 3, 1) := by decide +kernel
theorem dX8_readSets_138 : decode cX8_readSets 138 = .ok (.iload_n 3, 1) := by decide +kernel
theorem dX8_readSets_139 : decode cX8_readSets 139 = .ok (.aload_n 0, 1) := by decide +kernel
theorem dX8_readSets_140 : decode cX8_readSets 140 = .ok (.getfield 54, 3) := by decide +kernel
theorem dX8_readSets_143 : decode cX8_readSets 143 = .ok (.getfield 112, 3) := by decide +kernel
theorem dX8_readSets_146 : decode cX8_readSets 146 = .ok (.getfield 116, 3) := by decide +kernel
theorem dX8_readSets_149 : decode cX8_readSets 149 = .ok (.if_icmp .ge 27, 3) := by decide +kernel
theorem dX8_readSets_152 : decode cX8_readSets 152 = .ok (.aload_n 0, 1) := by decide +kernel
theorem dX8_readSets_153 : decode cX8_readSets 153 = .ok (.getfield 24, 3) := by decide +kernel
theorem dX8_readSets_156 : decode cX8_readSets 156 = .ok (.iload_n 1, 1) := by decide +kernel
theorem dX8_readSets_157 : decode cX8_readSets 157 = .ok (.dup2, 1) := by decide +kernel
theorem dX8_readSets_158 : decode cX8_readSets 158 = .ok (.iaload, 1) := by decide +kernel
theorem dX8_readSets_159 : decode cX8_readSets 159 = .ok (.aload_n 0, 1) := by decide +kernel
theorem dX8_readSets_160 : decode cX8_readSets 160 = .ok (.getfield 54, 3) := by decide +kernel
theorem dX8_readSets_163 : decode cX8_readSets 163 = .ok (.iload_n 3, 1) := by decide +kernel
theorem dX8_readSets_164 : decode cX8_readSets 164 = .ok (.iload_n 2, 1) := by decide +kernel
theorem dX8_readSets_165 : decode cX8_readSets 165 = .ok (.invokevirtual 119, 3) := by decide +kernel
theorem dX8_readSets_168 : decode cX8_readSets 168 = .ok (.iadd, 1) := by decide +kernel
theorem dX8_readSets_169 : decode cX8_readSets 169 = .ok (.iastore, 1) := by decide +kernel
theorem dX8_readSets_170 : decode cX8_readSets 170 = .ok (.iinc 3 1, 3) := by decide +kernel
theorem dX8_readSets_173 : decode cX8_readSets 173 = .ok (.goto (-35), 3) := by decide +kernel
theorem dX8_readSets_176 : decode cX8_readSets 176 = .ok (.iinc 1 1, 3) := by decide +kernel
theorem dX8_readSets_179 : decode cX8_readSets 179 = .ok (.goto (-177), 3) := by decide +kernel
theorem dX8_readSets_182 : decode cX8_readSets 182 = .ok (.return_, 1) := by decide +kernel
theorem dX8_readTwins_0 : decode cX8_readTwins 0 = .ok (.iconst 0, 1) := by decide +kernel
theorem dX8_readTwins_1 : decode cX8_readTwins 1 = .ok (.istore_n 1, 1) := by decide +kernel
theorem dX8_readTwins_2 : decode cX8_readTwins 2 = .ok (.iload_n 1, 1) := by decide +kernel
theorem dX8_readTwins_3 : decode cX8_readTwins 3 = .ok (.aload_n 0, 1) := by decide +kernel
theorem dX8_readTwins_4 : decode cX8_readTwins 4 = .ok (.getfield 58, 3) := by decide +kernel
theorem dX8_readTwins_7 : decode cX8_readTwins 7 = .ok (.if_icmp .ge 63, 3) := by decide +kernel
theorem dX8_readTwins_10 : decode cX8_readTwins 10 = .ok (.aload_n 0, 1) := by decide +kernel
theorem dX8_readTwins_11 : decode cX8_readTwins 11 = .ok (.getfield 18, 3) := by decide +kernel
theorem dX8_readTwins_14 : decode cX8_readTwins 14 = .ok (.iload_n 1, 1) := by decide +kernel
theorem dX8_readTwins_15 : decode cX8_readTwins 15 = .ok (.iconst 0, 1) := by decide +kernel
theorem dX8_readTwins_16 : decode cX8_readTwins 16 = .ok (.iastore, 1) := by decide +kernel
theorem dX8_readTwins_17 : decode cX8_readTwins 17 = .ok (.iconst 0, 1) := by decide +kernel
theorem dX8_readTwins_18 : decode cX8_readTwins 18 = .ok (.istore_n 2, 1) := by decide +kernel
theorem dX8_readTwins_19 : decode cX8_readTwins 19 = .ok (.iload_n 2, 1) := by decide +kernel
theorem dX8_readTwins_20 : decode cX8_readTwins 20 = .ok (.iload_n 1, 1) := by decide +kernel
theorem dX8_readTwins_21 : decode cX8_readTwins 21 = .ok (.if_icmp .ge 43, 3) := by decide +kernel
theorem dX8_readTwins_24 : decode cX8_readTwins 24 = .ok (.aload_n 0, 1) := by decide +kernel
theorem dX8_readTwins_25 : decode cX8_readTwins 25 = .ok (.getfield 54, 3) := by decide +kernel
theorem dX8_readTwins_28 : decode cX8_readTwins 28 = .ok (.aload_n 0, 1) := by decide +kernel
theorem dX8_readTwins_29 : decode cX8_readTwins 29 = .ok (.getfield 11, 3) := by decide +kernel
theorem dX8_readTwins_32 : decode cX8_readTwins 32 = .ok (.iload_n 1, 1) := by decide +kernel
theorem dX8_readTwins_33 : decode cX8_readTwins 33 = .ok (.iaload, 1) := by decide +kernel
theorem dX8_readTwins_34 : decode cX8_readTwins 34 = .ok (.aload_n 0, 1) := by decide +kernel
theorem dX8_readTwins_35 : decode cX8_readTwins 35 = .ok (.getfield 11, 3) := by decide +kernel
theorem dX8_readTwins_38 : decode cX8_readTwins 38 = .ok (.iload_n 2, 1) := by decide +kernel
theorem dX8_readTwins_39 : decode cX8_readTwins 39 = .ok (.iaload, 1) := by decide +kernel
theorem dX8_readTwins_40 : decode cX8_readTwins 40 = .ok (.invokevirtual 123, 3) := by decide +kernel
theorem dX8_readTwins_43 : decode cX8_readTwins 43 = .ok (.ifCond .eq 15, 3) := by decide +kernel
theorem dX8_readTwins_46 : decode cX8_readTwins 46 = .ok (.aload_n 0, 1) := by decide +kernel
theorem dX8_readTwins_47 : decode cX8_readTwins 47 = .ok (.getfield 18, 3) := by decide +kernel
theorem dX8_readTwins_50 : decode cX8_readTwins 50 = .ok (.iload_n 1, 1) := by decide +kernel
theorem dX8_readTwins_51 : decode cX8_readTwins 51 = .ok (.dup2, 1) := by decide +kernel
theorem dX8_readTwins_52 : decode cX8_readTwins 52 = .ok (.iaload, 1) := by decide +kernel
theorem dX8_readTwins_53 : decode cX8_readTwins 53 = .ok (.iconst 1, 1) := by decide +kernel
theorem dX8_readTwins_54 : decode cX8_readTwins 54 = .ok (.iload_n 2, 1) := by decide +kernel
theorem dX8_readTwins_55 : decode cX8_readTwins 55 = .ok (.ishl, 1) := by decide +kernel
theorem dX8_readTwins_56 : decode cX8_readTwins 56 = .ok (.ior, 1) := by decide +kernel
theorem dX8_readTwins_57 : decode cX8_readTwins 57 = .ok (.iastore, 1) := by decide +kernel
theorem dX8_readTwins_58 : decode cX8_readTwins 58 = .ok (.iinc 2 1, 3) := by decide +kernel
theorem dX8_readTwins_61 : decode cX8_readTwins 61 = .ok (.goto (-42), 3) := by decide +kernel
theorem dX8_readTwins_64 : decode cX8_readTwins 64 = .ok (.iinc 1 1, 3) := by decide +kernel
theorem dX8_readTwins_67 : decode cX8_readTwins 67 = .ok (.goto (-65), 3) := by decide +kernel
theorem dX8_readTwins_70 : decode cX8_readTwins 70 = .ok (.return_, 1) := by decide +kernel
theorem dX8_readSpreads_0 : decode cX8_readSpreads 0 = .ok (.aload_n 0, 1) := by decide +kernel
theorem dX8_readSpreads_1 : decode cX8_readSpreads 1 = .ok (.iconst 0, 1) := by decide +kernel
theorem dX8_readSpreads_2 : decode cX8_readSpreads 2 = .ok (.putfield 126, 3) := by decide +kernel
theorem dX8_readSpreads_5 : decode cX8_readSpreads 5 = .ok (.aload_n 0, 1) := by decide +kernel
theorem dX8_readSpreads_6 : decode cX8_readSpreads 6 = .ok (.getfield 38, 3) := by decide +kernel
theorem dX8_readSpreads_9 : decode cX8_readSpreads 9 = .ok (.iconst 0, 1) := by decide +kernel
theorem dX8_readSpreads_10 : decode cX8_readSpreads 10 = .ok (.invokestatic 75, 3) := by decide +kernel
theorem dX8_readSpreads_13 : decode cX8_readSpreads 13 = .ok (.iconst 0, 1) := by decide +kernel
theorem dX8_readSpreads_14 : decode cX8_readSpreads 14 = .ok (.istore_n 1, 1) := by decide +kernel
theorem dX8_readSpreads_15 : decode cX8_readSpreads 15 = .ok (.iload_n 1, 1) := by decide +kernel
theorem dX8_readSpreads_16 : decode cX8_readSpreads 16 = .ok (.aload_n 0, 1) := by decide +kernel
theorem dX8_readSpreads_17 : decode cX8_readSpreads 17 = .ok (.getfield 54, 3) := by decide +kernel
theorem dX8_readSpreads_20 : decode cX8_readSpreads 20 = .ok (.getfield 112, 3) := by decide +kernel
theorem dX8_readSpreads_23 : decode cX8_readSpreads 23 = .ok (.getfield 116, 3) := by decide +kernel
theorem dX8_readSpreads_26 : decode cX8_readSpreads 26 = .ok (.if_icmp .ge 95, 3) := by decide +kernel
theorem dX8_readSpreads_29 : decode cX8_readSpreads 29 = .ok (.aload_n 0, 1) := by decide +kernel
theorem dX8_readSpreads_30 : decode cX8_readSpreads 30 = .ok (.getfield 54, 3) := by decide +kernel
theorem dX8_readSpreads_33 : decode cX8_readSpreads 33 = .ok (.iload_n 1, 1) := by decide +kernel
theorem dX8_readSpreads_34 : decode cX8_readSpreads 34 = .ok (.invokevirtual 129, 3) := by decide +kernel
theorem dX8_readSpreads_37 : decode cX8_readSpreads 37 = .ok (.ifCond .eq 78, 3) := by decide +kernel
theorem dX8_readSpreads_40 : decode cX8_readSpreads 40 = .ok (.aload_n 0, 1) := by decide +kernel
theorem dX8_readSpreads_41 : decode cX8_readSpreads 41 = .ok (.getfield 32, 3) := by decide +kernel
theorem dX8_readSpreads_44 : decode cX8_readSpreads 44 = .ok (.aload_n 0, 1) := by decide +kernel
theorem dX8_readSpreads_45 : decode cX8_readSpreads 45 = .ok (.getfield 126, 3) := by decide +kernel
theorem dX8_readSpreads_48 : decode cX8_readSpreads 48 = .ok (.aload_n 0, 1) := by decide +kernel
theorem dX8_readSpreads_49 : decode cX8_readSpreads 49 = .ok (.getfield 54, 3) := by decide +kernel
theorem dX8_readSpreads_52 : decode cX8_readSpreads 52 = .ok (.getfield 112, 3) := by decide +kernel
theorem dX8_readSpreads_55 : decode cX8_readSpreads 55 = .ok (.getfield 133, 3) := by decide +kernel
theorem dX8_readSpreads_58 : decode cX8_readSpreads 58 = .ok (.iload_n 1, 1) := by decide +kernel
theorem dX8_readSpreads_59 : decode cX8_readSpreads 59 = .ok (.iaload, 1) := by decide +kernel
theorem dX8_readSpreads_60 : decode cX8_readSpreads 60 = .ok (.iastore, 1) := by decide +kernel
theorem dX8_readSpreads_61 : decode cX8_readSpreads 61 = .ok (.iconst 0, 1) := by decide +kernel
theorem dX8_readSpreads_62 : decode cX8_readSpreads 62 = .ok (.istore_n 2, 1) := by decide +kernel
theorem dX8_readSpreads_63 : decode cX8_readSpreads 63 = .ok (.iload_n 2, 1) := by decide +kernel
theorem dX8_readSpreads_64 : decode cX8_readSpreads 64 = .ok (.aload_n 0, 1) := by decide +kernel
theorem dX8_readSpreads_65 : decode cX8_readSpreads 65 = .ok (.getfield 58, 3) := by decide +kernel
theorem dX8_readSpreads_68 : decode cX8_readSpreads 68 = .ok (.if_icmp .ge 37, 3) := by decide +kernel
theorem dX8_readSpreads_71 : decode cX8_readSpreads 71 = .ok (.aload_n 0, 1) := by decide +kernel
theorem dX8_readSpreads_72 : decode cX8_readSpreads 72 = .ok (.getfield 35, 3) := by decide +kernel
theorem dX8_readSpreads_75 : decode cX8_readSpreads 75 = .ok (.aload_n 0, 1) := by decide +kernel
theorem dX8_readSpreads_76 : decode cX8_readSpreads 76 = .ok (.getfield 126, 3) := by decide +kernel
theorem dX8_readSpreads_79 : decode cX8_readSpreads 79 = .ok (.bipush 9, 2) := by decide +kernel
theorem dX8_readSpreads_81 : decode cX8_readSpreads 81 = .ok (.imul, 1) := by decide +kernel
theorem dX8_readSpreads_82 : decode cX8_readSpreads 82 = .ok (.iload_n 2, 1) := by decide +kernel
theorem dX8_readSpreads_83 : decode cX8_readSpreads 83 = .ok (.iadd, 1) := by decide +kernel
theorem dX8_readSpreads_84 : decode cX8_readSpreads 84 = .ok (.aload_n 0, 1) := by decide +kernel
theorem dX8_readSpreads_85 : decode cX8_readSpreads 85 = .ok (.getfield 54, 3) := by decide +kernel
theorem dX8_readSpreads_88 : decode cX8_readSpreads 88 = .ok (.iload_n 1, 1) := by decide +kernel
theorem dX8_readSpreads_89 : decode cX8_readSpreads 89 = .ok (.aload_n 0, 1) := by decide +kernel
theorem dX8_readSpreads_90 : decode cX8_readSpreads 90 = .ok (.getfield 11, 3) := by decide +kernel
theorem dX8_readSpreads_93 : decode cX8_readSpreads 93 = .ok (.iload_n 2, 1) := by decide +kernel
theorem dX8_readSpreads_94 : decode cX8_readSpreads 94 = .ok (.iaload, 1) := by decide +kernel
theorem dX8_readSpreads_95 : decode cX8_readSpreads 95 = .ok (.invokevirtual 136, 3) := by decide +kernel
theorem dX8_readSpreads_98 : decode cX8_readSpreads 98 = .ok (.iastore, 1) := by decide +kernel
theorem dX8_readSpreads_99 : decode cX8_readSpreads 99 = .ok (.iinc 2 1, 3) := by decide +kernel
theorem dX8_readSpreads_102 : decode cX8_readSpreads 102 = .ok (.goto (-39), 3) := by decide +kernel
theorem dX8_readSpreads_105 : decode cX8_readSpreads 105 = .ok (.aload_n 0, 1) := by decide +kernel
theorem dX8_readSpreads_106 : decode cX8_readSpreads 106 = .ok (.dup, 1) := by decide +kernel
theorem dX8_readSpreads_107 : decode cX8_readSpreads 107 = .ok (.getfield 126, 3) := by decide +kernel
theorem dX8_readSpreads_110 : decode cX8_readSpreads 110 = .ok (.iconst 1, 1) := by decide +kernel
theorem dX8_readSpreads_111 : decode cX8_readSpreads 111 = .ok (.iadd, 1) := by decide +kernel
theorem dX8_readSpreads_112 : decode cX8_readSpreads 112 = .ok (.putfield 126, 3) := by decide +kernel
theorem dX8_readSpreads_115 : decode cX8_readSpreads 115 = .ok (.iinc 1 1, 3) := by decide +kernel
theorem dX8_readSpreads_118 : decode cX8_readSpreads 118 = .ok (.goto (-103), 3) := by decide +kernel
theorem dX8_readSpreads_121 : decode cX8_readSpreads 121 = .ok (.return_, 1) := by decide +kernel
theorem dX8_assign_0 : decode cX8_assign 0 = .ok (.iload_n 1, 1) := by decide +kernel
theorem dX8_assign_1 : decode cX8_assign 1 = .ok (.aload_n 0, 1) := by decide +kernel
theorem dX8_assign_2 : decode cX8_assign 2 = .ok (.getfield 58, 3) := by decide +kernel
theorem dX8_assign_5 : decode cX8_assign 5 = .ok (.if_icmp .lt 8, 3) := by decide +kernel
theorem dX8_assign_8 : decode cX8_assign 8 = .ok (.aload_n 0, 1) := by decide +kernel
theorem dX8_assign_9 : decode cX8_assign 9 = .ok (.invokevirtual 139, 3) := by decide +kernel
theorem dX8_assign_12 : decode cX8_assign 12 = .ok (.return_, 1) := by decide +kernel
theorem dX8_assign_13 : decode cX8_assign 13 = .ok (.iconst 0, 1) := by decide +kernel
theorem dX8_assign_14 : decode cX8_assign 14 = .ok (.istore_n 2, 1) := by decide +kernel
theorem dX8_assign_15 : decode cX8_assign 15 = .ok (.iload_n 2, 1) := by decide +kernel
theorem dX8_assign_16 : decode cX8_assign 16 = .ok (.aload_n 0, 1) := by decide +kernel
theorem dX8_assign_17 : decode cX8_assign 17 = .ok (.getfield 50, 3) := by decide +kernel
theorem dX8_assign_20 : decode cX8_assign 20 = .ok (.getfield 98, 3) := by decide +kernel
theorem dX8_assign_23 : decode cX8_assign 23 = .ok (.if_icmp .ge 54, 3) := by decide +kernel
theorem dX8_assign_26 : decode cX8_assign 26 = .ok (.aload_n 0, 1) := by decide +kernel
theorem dX8_assign_27 : decode cX8_assign 27 = .ok (.invokevirtual 142, 3) := by decide +kernel
theorem dX8_assign_30 : decode cX8_assign 30 = .ok (.ifCond .ne 47, 3) := by decide +kernel
theorem dX8_assign_33 : decode cX8_assign 33 = .ok (.aload_n 0, 1) := by decide +kernel
theorem dX8_assign_34 : decode cX8_assign 34 = .ok (.iload_n 2, 1) := by decide +kernel
theorem dX8_assign_35 : decode cX8_assign 35 = .ok (.invokevirtual 146, 3) := by decide +kernel
theorem dX8_assign_38 : decode cX8_assign 38 = .ok (.ifCond .ne 33, 3) := by decide +kernel
theorem dX8_assign_41 : decode cX8_assign 41 = .ok (.aload_n 0, 1) := by decide +kernel
theorem dX8_assign_42 : decode cX8_assign 42 = .ok (.iload_n 1, 1) := by decide +kernel
theorem dX8_assign_43 : decode cX8_assign 43 = .ok (.iload_n 2, 1) := by decide +kernel
theorem dX8_assign_44 : decode cX8_assign 44 = .ok (.invokevirtual 149, 3) := by decide +kernel
theorem dX8_assign_47 : decode cX8_assign 47 = .ok (.ifCond .eq 24, 3) := by decide +kernel
theorem dX8_assign_50 : decode cX8_assign 50 = .ok (.aload_n 0, 1) := by decide +kernel
theorem dX8_assign_51 : decode cX8_assign 51 = .ok (.iload_n 1, 1) := by decide +kernel
theorem dX8_assign_52 : decode cX8_assign 52 = .ok (.iload_n 2, 1) := by decide +kernel
theorem dX8_assign_53 : decode cX8_assign 53 = .ok (.iconst 1, 1) := by decide +kernel
theorem dX8_assign_54 : decode cX8_assign 54 = .ok (.invokevirtual 152, 3) := by decide +kernel
theorem dX8_assign_57 : decode cX8_assign 57 = .ok (.aload_n 0, 1) := by decide +kernel
theorem dX8_assign_58 : decode cX8_assign 58 = .ok (.iload_n 1, 1) := by decide +kernel
theorem dX8_assign_59 : decode cX8_assign 59 = .ok (.iconst 1, 1) := by decide +kernel
theorem dX8_assign_60 : decode cX8_assign 60 = .ok (.iadd, 1) := by decide +kernel
theorem dX8_assign_61 : decode cX8_assign 61 = .ok (.invokestatic 90, 3) := by decide +kernel
theorem dX8_assign_64 : decode cX8_assign 64 = .ok (.aload_n 0, 1) := by decide +kernel
theorem dX8_assign_65 : decode cX8_assign 65 = .ok (.iload_n 1, 1) := by decide +kernel
theorem dX8_assign_66 : decode cX8_assign 66 = .ok (.iload_n 2, 1) := by decide +kernel
theorem dX8_assign_67 : decode cX8_assign 67 = .ok (.iconst (-1), 1) := by decide +kernel
theorem dX8_assign_68 : decode cX8_assign 68 = .ok (.invokevirtual 152, 3) := by decide +kernel
theorem dX8_assign_71 : decode cX8_assign 71 = .ok (.iinc 2 1, 3) := by decide +kernel
theorem dX8_assign_74 : decode cX8_assign 74 = .ok (.goto (-59), 3) := by decide +kernel
theorem dX8_assign_77 : decode cX8_assign 77 = .ok (.return_, 1) := by decide +kernel
theorem dX8_isPerfect_0 : decode cX8_isPerfect 0 = .ok (.aload_n 0, 1) := by decide +kernel
theorem dX8_isPerfect_1 : decode cX8_isPerfect 1 = .ok (.getfield 62, 3) := by decide +kernel
theorem dX8_isPerfect_4 : decode cX8_isPerfect 4 = .ok (.ifCond .eq 21, 3) := by decide +kernel
theorem dX8_isPerfect_7 : decode cX8_isPerfect 7 = .ok (.aload_n 0, 1) := by decide +kernel
theorem dX8_isPerfect_8 : decode cX8_isPerfect 8 = .ok (.getfield 84, 3) := by decide +kernel
theorem dX8_isPerfect_11 : decode cX8_isPerfect 11 = .ok (.ifCond .ne 14, 3) := by decide +kernel
theorem dX8_isPerfect_14 : decode cX8_isPerfect 14 = .ok (.aload_n 0, 1) := by decide +kernel
theorem dX8_isPerfect_15 : decode cX8_isPerfect 15 = .ok (.getfield 87, 3) := by decide +kernel
theorem dX8_isPerfect_18 : decode cX8_isPerfect 18 = .ok (.ifCond .ne 7, 3) := by decide +kernel
theorem dX8_isPerfect_21 : decode cX8_isPerfect 21 = .ok (.iconst 1, 1) := by decide +kernel
theorem dX8_isPerfect_22 : decode cX8_isPerfect 22 = .ok (.goto 4, 3) := by decide +kernel
theorem dX8_isPerfect_25 : decode cX8_isPerfect 25 = .ok (.iconst 0, 1) := by decide +kernel
theorem dX8_isPerfect_26 : decode cX8_isPerfect 26 = .ok (.ireturn, 1) := by decide +kernel
theorem dX8_isRepeat_0 : decode cX8_isRepeat 0 = .ok (.aload_n 0, 1) := by decide +kernel
theorem dX8_isRepeat_1 : decode cX8_isRepeat 1 = .ok (.getfield 41, 3) := by decide +kernel
theorem dX8_isRepeat_4 : decode cX8_isRepeat 4 = .ok (.iload_n 1, 1) := by decide +kernel
theorem dX8_isRepeat_5 : decode cX8_isRepeat 5 = .ok (.iaload, 1) := by decide +kernel
theorem dX8_isRepeat_6 : decode cX8_isRepeat 6 = .ok (.ifCond .ne 13, 3) := by decide +kernel
theorem dX8_isRepeat_9 : decode cX8_isRepeat 9 = .ok (.aload_n 0, 1) := by decide +kernel
theorem dX8_isRepeat_10 : decode cX8_isRepeat 10 = .ok (.getfield 15, 3) := by decide +kernel
theorem dX8_isRepeat_13 : decode cX8_isRepeat 13 = .ok (.iconst 0, 1) := by decide +kernel
theorem dX8_isRepeat_14 : decode cX8_isRepeat 14 = .ok (.iaload, 1) := by decide +kernel
theorem dX8_isRepeat_15 : decode cX8_isRepeat 15 = .ok (.iconst (-1), 1) := by decide +kernel
theorem dX8_isRepeat_16 : decode cX8_isRepeat 16 = .ok (.if_icmp .eq 5, 3) := by decide +kernel
theorem dX8_isRepeat_19 : decode cX8_isRepeat 19 = .ok (.iconst 0, 1) := by decide +kernel
theorem dX8_isRepeat_20 : decode cX8_isRepeat 20 = .ok (.ireturn, 1) := by decide +kernel
theorem dX8_isRepeat_21 : decode cX8_isRepeat 21 = .ok (.iconst 0, 1) := by decide +kernel
theorem dX8_isRepeat_22 : decode cX8_isRepeat 22 = .ok (.istore_n 2, 1) := by decide +kernel
theorem dX8_isRepeat_23 : decode cX8_isRepeat 23 = .ok (.iload_n 2, 1) := by decide +kernel
theorem dX8_isRepeat_24 : decode cX8_isRepeat 24 = .ok (.iload_n 1, 1) := by decide +kernel
theorem dX8_isRepeat_25 : decode cX8_isRepeat 25 = .ok (.if_icmp .ge 62, 3) := by decide +kernel
theorem dX8_isRepeat_28 : decode cX8_isRepeat 28 = .ok (.aload_n 0, 1) := by decide +kernel
theorem dX8_isRepeat_29 : decode cX8_isRepeat 29 = .ok (.getfield 41, 3) := by decide +kernel
theorem dX8_isRepeat_32 : decode cX8_isRepeat 32 = .ok (.iload_n 2, 1) := by decide +kernel
theorem dX8_isRepeat_33 : decode cX8_isRepeat 33 = .ok (.iaload, 1) := by decide +kernel
theorem dX8_isRepeat_34 : decode cX8_isRepeat 34 = .ok (.ifCond .ne 47, 3) := by decide +kernel
theorem dX8_isRepeat_37 : decode cX8_isRepeat 37 = .ok (.aload_n 0, 1) := by decide +kernel
theorem dX8_isRepeat_38 : decode cX8_isRepeat 38 = .ok (.getfield 50, 3) := by decide +kernel
theorem dX8_isRepeat_41 : decode cX8_isRepeat 41 = .ok (.getfield 156, 3) := by decide +kernel
theorem dX8_isRepeat_44 : decode cX8_isRepeat 44 = .ok (.iload_n 2, 1) := by decide +kernel
theorem dX8_isRepeat_45 : decode cX8_isRepeat 45 = .ok (.iaload, 1) := by decide +kernel
theorem dX8_isRepeat_46 : decode cX8_isRepeat 46 = .ok (.aload_n 0, 1) := by decide +kernel
theorem dX8_isRepeat_47 : decode cX8_isRepeat 47 = .ok (.getfield 50, 3) := by decide +kernel
theorem dX8_isRepeat_50 : decode cX8_isRepeat 50 = .ok (.getfield 156, 3) := by decide +kernel
theorem dX8_isRepeat_53 : decode cX8_isRepeat 53 = .ok (.iload_n 1, 1) := by decide +kernel
theorem dX8_isRepeat_54 : decode cX8_isRepeat 54 = .ok (.iaload, 1) := by decide +kernel
theorem dX8_isRepeat_55 : decode cX8_isRepeat 55 = .ok (.if_icmp .ne 26, 3) := by decide +kernel
theorem dX8_isRepeat_58 : decode cX8_isRepeat 58 = .ok (.aload_n 0, 1) := by decide +kernel
theorem dX8_isRepeat_59 : decode cX8_isRepeat 59 = .ok (.getfield 50, 3) := by decide +kernel
theorem dX8_isRepeat_62 : decode cX8_isRepeat 62 = .ok (.getfield 159, 3) := by decide +kernel
theorem dX8_isRepeat_65 : decode cX8_isRepeat 65 = .ok (.iload_n 2, 1) := by decide +kernel
theorem dX8_isRepeat_66 : decode cX8_isRepeat 66 = .ok (.iaload, 1) := by decide +kernel
theorem dX8_isRepeat_67 : decode cX8_isRepeat 67 = .ok (.aload_n 0, 1) := by decide +kernel
theorem dX8_isRepeat_68 : decode cX8_isRepeat 68 = .ok (.getfield 50, 3) := by decide +kernel
theorem dX8_isRepeat_71 : decode cX8_isRepeat 71 = .ok (.getfield 159, 3) := by decide +kernel
theorem dX8_isRepeat_74 : decode cX8_isRepeat 74 = .ok (.iload_n 1, 1) := by decide +kernel
theorem dX8_isRepeat_75 : decode cX8_isRepeat 75 = .ok (.iaload, 1) := by decide +kernel
theorem dX8_isRepeat_76 : decode cX8_isRepeat 76 = .ok (.if_icmp .ne 5, 3) := by decide +kernel
theorem dX8_isRepeat_79 : decode cX8_isRepeat 79 = .ok (.iconst 1, 1) := by decide +kernel
theorem dX8_isRepeat_80 : decode cX8_isRepeat 80 = .ok (.ireturn, 1) := by decide +kernel
theorem dX8_isRepeat_81 : decode cX8_isRepeat 81 = .ok (.iinc 2 1, 3) := by decide +kernel
theorem dX8_isRepeat_84 : decode cX8_isRepeat 84 = .ok (.goto (-61), 3) := by decide +kernel
theorem dX8_isRepeat_87 : decode cX8_isRepeat 87 = .ok (.iconst 0, 1) := by decide +kernel
theorem dX8_isRepeat_88 : decode cX8_isRepeat 88 = .ok (.ireturn, 1) := by decide +kernel
theorem dX8_movesOf_0 : decode cX8_movesOf 0 = .ok (.aload_n 0, 1) := by decide +kernel
theorem dX8_movesOf_1 : decode cX8_movesOf 1 = .ok (.getfield 15, 3) := by decide +kernel
theorem dX8_movesOf_4 : decode cX8_movesOf 4 = .ok (.iload_n 1, 1) := by decide +kernel
theorem dX8_movesOf_5 : decode cX8_movesOf 5 = .ok (.iaload, 1) := by decide +kernel
theorem dX8_movesOf_6 : decode cX8_movesOf 6 = .ok (.iconst (-1), 1) := by decide +kernel
theorem dX8_movesOf_7 : decode cX8_movesOf 7 = .ok (.if_icmp .eq 13, 3) := by decide +kernel
theorem dX8_movesOf_10 : decode cX8_movesOf 10 = .ok (.aload_n 0, 1) := by decide +kernel
theorem dX8_movesOf_11 : decode cX8_movesOf 11 = .ok (.getfield 15, 3) := by decide +kernel
theorem dX8_movesOf_14 : decode cX8_movesOf 14 = .ok (.iload_n 1, 1) := by decide +kernel
theorem dX8_movesOf_15 : decode cX8_movesOf 15 = .ok (.iaload, 1) := by decide +kernel
theorem dX8_movesOf_16 : decode cX8_movesOf 16 = .ok (.iload_n 2, 1) := by decide +kernel
theorem dX8_movesOf_17 : decode cX8_movesOf 17 = .ok (.if_icmp .ne 7, 3) := by decide +kernel
theorem dX8_movesOf_20 : decode cX8_movesOf 20 = .ok (.iconst 0, 1) := by decide +kernel
theorem dX8_movesOf_21 : decode cX8_movesOf 21 = .ok (.goto 4, 3) := by decide +kernel
theorem dX8_movesOf_24 : decode cX8_movesOf 24 = .ok (.iconst 1, 1) := by decide +kernel
theorem dX8_movesOf_25 : decode cX8_movesOf 25 = .ok (.ireturn, 1) := by decide +kernel
theorem dX8_mayJoin_0 : decode cX8_mayJoin 0 = .ok (.aload_n 0, 1) := by decide +kernel
theorem dX8_mayJoin_1 : decode cX8_mayJoin 1 = .ok (.getfield 41, 3) := by decide +kernel
theorem dX8_mayJoin_4 : decode cX8_mayJoin 4 = .ok (.iload_n 2, 1) := by decide +kernel
theorem dX8_mayJoin_5 : decode cX8_mayJoin 5 = .ok (.iaload, 1) := by decide +kernel
theorem dX8_mayJoin_6 : decode cX8_mayJoin 6 = .ok (.iconst 1, 1) := by decide +kernel
theorem dX8_mayJoin_7 : decode cX8_mayJoin 7 = .ok (.iload_n 1, 1) := by decide +kernel
theorem dX8_mayJoin_8 : decode cX8_mayJoin 8 = .ok (.ishl, 1) := by decide +kernel
theorem dX8_mayJoin_9 : decode cX8_mayJoin 9 = .ok (.ior, 1) := by decide +kernel
theorem dX8_mayJoin_10 : decode cX8_mayJoin 10 = .ok (.istore_n 3, 1) := by decide +kernel
theorem dX8_mayJoin_11 : decode cX8_mayJoin 11 = .ok (.aload_n 0, 1) := by decide +kernel
theorem dX8_mayJoin_12 : decode cX8_mayJoin 12 = .ok (.getfield 21, 3) := by decide +kernel
theorem dX8_mayJoin_15 : decode cX8_mayJoin 15 = .ok (.iload_n 3, 1) := by decide +kernel
theorem dX8_mayJoin_16 : decode cX8_mayJoin 16 = .ok (.iaload, 1) := by decide +kernel
theorem dX8_mayJoin_17 : decode cX8_mayJoin 17 = .ok (.iload_n 2, 1) := by decide +kernel
theorem dX8_mayJoin_18 : decode cX8_mayJoin 18 = .ok (.ishr, 1) := by decide +kernel
theorem dX8_mayJoin_19 : decode cX8_mayJoin 19 = .ok (.iconst 1, 1) := by decide +kernel
theorem dX8_mayJoin_20 : decode cX8_mayJoin 20 = .ok (.iand, 1) := by decide +kernel
theorem dX8_mayJoin_21 : decode cX8_mayJoin 21 = .ok (.ifCond .eq 45, 3) := by decide +kernel
theorem dX8_mayJoin_24 : decode cX8_mayJoin 24 = .ok (.aload_n 0, 1) := by decide +kernel
theorem dX8_mayJoin_25 : decode cX8_mayJoin 25 = .ok (.getfield 18, 3) := by decide +kernel
theorem dX8_mayJoin_28 : decode cX8_mayJoin 28 = .ok (.iload_n 1, 1) := by decide +kernel
theorem dX8_mayJoin_29 : decode cX8_mayJoin 29 = .ok (.iaload, 1) := by decide +kernel
theorem dX8_mayJoin_30 : decode cX8_mayJoin 30 = .ok (.iload_n 3, 1) := by decide +kernel
theorem dX8_mayJoin_31 : decode cX8_mayJoin 31 = .ok (.iconst (-1), 1) := by decide +kernel
theorem dX8_mayJoin_32 : decode cX8_mayJoin 32 = .ok (.ixor, 1) := by decide +kernel
theorem dX8_mayJoin_33 : decode cX8_mayJoin 33 = .ok (.iand, 1) := by decide +kernel
theorem dX8_mayJoin_34 : decode cX8_mayJoin 34 = .ok (.ifCond .ne 32, 3) := by decide +kernel
theorem dX8_mayJoin_37 : decode cX8_mayJoin 37 = .ok (.aload_n 0, 1) := by decide +kernel
theorem dX8_mayJoin_38 : decode cX8_mayJoin 38 = .ok (.getfield 62, 3) := by decide +kernel
theorem dX8_mayJoin_41 : decode cX8_mayJoin 41 = .ok (.ifCond .eq 21, 3) := by decide +kernel
theorem dX8_mayJoin_44 : decode cX8_mayJoin 44 = .ok (.aload_n 0, 1) := by decide +kernel
theorem dX8_mayJoin_45 : decode cX8_mayJoin 45 = .ok (.getfield 81, 3) := by decide +kernel
theorem dX8_mayJoin_48 : decode cX8_mayJoin 48 = .ok (.aload_n 0, 1) := by decide +kernel
theorem dX8_mayJoin_49 : decode cX8_mayJoin 49 = .ok (.iload_n 1, 1) := by decide +kernel
theorem dX8_mayJoin_50 : decode cX8_mayJoin 50 = .ok (.iload_n 2, 1) := by decide +kernel
theorem dX8_mayJoin_51 : decode cX8_mayJoin 51 = .ok (.invokevirtual 162, 3) := by decide +kernel
theorem dX8_mayJoin_54 : decode cX8_mayJoin 54 = .ok (.iadd, 1) := by decide +kernel
theorem dX8_mayJoin_55 : decode cX8_mayJoin 55 = .ok (.aload_n 0, 1) := by decide +kernel
theorem dX8_mayJoin_56 : decode cX8_mayJoin 56 = .ok (.getfield 84, 3) := by decide +kernel
theorem dX8_mayJoin_59 : decode cX8_mayJoin 59 = .ok (.if_icmp .gt 7, 3) := by decide +kernel
theorem dX8_mayJoin_62 : decode cX8_mayJoin 62 = .ok (.iconst 1, 1) := by decide +kernel
theorem dX8_mayJoin_63 : decode cX8_mayJoin 63 = .ok (.goto 4, 3) := by decide +kernel
theorem dX8_mayJoin_66 : decode cX8_mayJoin 66 = .ok (.iconst 0, 1) := by decide +kernel
theorem dX8_mayJoin_67 : decode cX8_mayJoin 67 = .ok (.ireturn, 1) := by decide +kernel
theorem dX8_put_0 : decode cX8_put 0 = .ok (.aload_n 0, 1) := by decide +kernel
theorem dX8_put_1 : decode cX8_put 1 = .ok (.getfield 44, 3) := by decide +kernel
theorem dX8_put_4 : decode cX8_put 4 = .ok (.iload_n 1, 1) := by decide +kernel
theorem dX8_put_5 : decode cX8_put 5 = .ok (.iload_n 2, 1) := by decide +kernel
theorem dX8_put_6 : decode cX8_put 6 = .ok (.iastore, 1) := by decide +kernel
theorem dX8_put_7 : decode cX8_put 7 = .ok (.aload_n 0, 1) := by decide +kernel
theorem dX8_put_8 : decode cX8_put 8 = .ok (.getfield 41, 3) := by decide +kernel
theorem dX8_put_11 : decode cX8_put 11 = .ok (.iload_n 2, 1) := by decide +kernel
theorem dX8_put_12 : decode cX8_put 12 = .ok (.dup2, 1) := by decide +kernel
theorem dX8_put_13 : decode cX8_put 13 = .ok (.iaload, 1) := by decide +kernel
theorem dX8_put_14 : decode cX8_put 14 = .ok (.iconst 1, 1) := by decide +kernel
theorem dX8_put_15 : decode cX8_put 15 = .ok (.iload_n 1, 1) := by decide +kernel
theorem dX8_put_16 : decode cX8_put 16 = .ok (.ishl, 1) := by decide +kernel
theorem dX8_put_17 : decode cX8_put 17 = .ok (.ixor, 1) := by decide +kernel
theorem dX8_put_18 : decode cX8_put 18 = .ok (.iastore, 1) := by decide +kernel
theorem dX8_put_19 : decode cX8_put 19 = .ok (.aload_n 0, 1) := by decide +kernel
theorem dX8_put_20 : decode cX8_put 20 = .ok (.dup, 1) := by decide +kernel
theorem dX8_put_21 : decode cX8_put 21 = .ok (.getfield 81, 3) := by decide +kernel
theorem dX8_put_24 : decode cX8_put 24 = .ok (.iload_n 3, 1) := by decide +kernel
theorem dX8_put_25 : decode cX8_put 25 = .ok (.aload_n 0, 1) := by decide +kernel
theorem dX8_put_26 : decode cX8_put 26 = .ok (.iload_n 1, 1) := by decide +kernel
theorem dX8_put_27 : decode cX8_put 27 = .ok (.iload_n 2, 1) := by decide +kernel
theorem dX8_put_28 : decode cX8_put 28 = .ok (.invokevirtual 162, 3) := by decide +kernel
theorem dX8_put_31 : decode cX8_put 31 = .ok (.imul, 1) := by decide +kernel
theorem dX8_put_32 : decode cX8_put 32 = .ok (.iadd, 1) := by decide +kernel
theorem dX8_put_33 : decode cX8_put 33 = .ok (.putfield 81, 3) := by decide +kernel
theorem dX8_put_36 : decode cX8_put 36 = .ok (.iconst 0, 1) := by decide +kernel
theorem dX8_put_37 : decode cX8_put 37 = .ok (.istore 4, 2) := by decide +kernel
theorem dX8_put_39 : decode cX8_put 39 = .ok (.iload 4, 2) := by decide +kernel
theorem dX8_put_41 : decode cX8_put 41 = .ok (.aload_n 0, 1) := by decide +kernel
theorem dX8_put_42 : decode cX8_put 42 = .ok (.getfield 126, 3) := by decide +kernel
theorem dX8_put_45 : decode cX8_put 45 = .ok (.if_icmp .ge 37, 3) := by decide +kernel
theorem dX8_put_48 : decode cX8_put 48 = .ok (.aload_n 0, 1) := by decide +kernel
theorem dX8_put_49 : decode cX8_put 49 = .ok (.getfield 38, 3) := by decide +kernel
theorem dX8_put_52 : decode cX8_put 52 = .ok (.iload 4, 2) := by decide +kernel
theorem dX8_put_54 : decode cX8_put 54 = .ok (.iconst 3, 1) := by decide +kernel
theorem dX8_put_55 : decode cX8_put 55 = .ok (.imul, 1) := by decide +kernel
theorem dX8_put_56 : decode cX8_put 56 = .ok (.iload_n 2, 1) := by decide +kernel
theorem dX8_put_57 : decode cX8_put 57 = .ok (.iadd, 1) := by decide +kernel
theorem dX8_put_58 : decode cX8_put 58 = .ok (.dup2, 1) := by decide +kernel
theorem dX8_put_59 : decode cX8_put 59 = .ok (.iaload, 1) := by decide +kernel
theorem dX8_put_60 : decode cX8_put 60 = .ok (.iload_n 3, 1) := by decide +kernel
theorem dX8_put_61 : decode cX8_put 61 = .ok (.aload_n 0, 1) := by decide +kernel
theorem dX8_put_62 : decode cX8_put 62 = .ok (.getfield 35, 3) := by decide +kernel
theorem dX8_put_65 : decode cX8_put 65 = .ok (.iload 4, 2) := by decide +kernel
theorem dX8_put_67 : decode cX8_put 67 = .ok (.bipush 9, 2) := by decide +kernel
theorem dX8_put_69 : decode cX8_put 69 = .ok (.imul, 1) := by decide +kernel
theorem dX8_put_70 : decode cX8_put 70 = .ok (.iload_n 1, 1) := by decide +kernel
theorem dX8_put_71 : decode cX8_put 71 = .ok (.iadd, 1) := by decide +kernel
theorem dX8_put_72 : decode cX8_put 72 = .ok (.iaload, 1) := by decide +kernel
theorem dX8_put_73 : decode cX8_put 73 = .ok (.imul, 1) := by decide +kernel
theorem dX8_put_74 : decode cX8_put 74 = .ok (.iadd, 1) := by decide +kernel
theorem dX8_put_75 : decode cX8_put 75 = .ok (.iastore, 1) := by decide +kernel
theorem dX8_put_76 : decode cX8_put 76 = .ok (.iinc 4 1, 3) := by decide +kernel
theorem dX8_put_79 : decode cX8_put 79 = .ok (.goto (-40), 3) := by decide +kernel
theorem dX8_put_82 : decode cX8_put 82 = .ok (.return_, 1) := by decide +kernel
theorem dX8_weigh_0 : decode cX8_weigh 0 = .ok (.iconst 0, 1) := by decide +kernel
theorem dX8_weigh_1 : decode cX8_weigh 1 = .ok (.istore_n 1, 1) := by decide +kernel
theorem dX8_weigh_2 : decode cX8_weigh 2 = .ok (.iconst 0, 1) := by decide +kernel
theorem dX8_weigh_3 : decode cX8_weigh 3 = .ok (.istore_n 2, 1) := by decide +kernel
theorem dX8_weigh_4 : decode cX8_weigh 4 = .ok (.iconst 0, 1) := by decide +kernel
theorem dX8_weigh_5 : decode cX8_weigh 5 = .ok (.istore_n 3, 1) := by decide +kernel
theorem dX8_weigh_6 : decode cX8_weigh 6 = .ok (.iload_n 3, 1) := by decide +kernel
theorem dX8_weigh_7 : decode cX8_weigh 7 = .ok (.aload_n 0, 1) := by decide +kernel
theorem dX8_weigh_8 : decode cX8_weigh 8 = .ok (.getfield 50, 3) := by decide +kernel
theorem dX8_weigh_11 : decode cX8_weigh 11 = .ok (.getfield 98, 3) := by decide +kernel
theorem dX8_weigh_14 : decode cX8_weigh 14 = .ok (.if_icmp .ge 37, 3) := by decide +kernel
theorem dX8_weigh_17 : decode cX8_weigh 17 = .ok (.iload_n 1, 1) := by decide +kernel
theorem dX8_weigh_18 : decode cX8_weigh 18 = .ok (.aload_n 0, 1) := by decide +kernel
theorem dX8_weigh_19 : decode cX8_weigh 19 = .ok (.getfield 24, 3) := by decide +kernel
theorem dX8_weigh_22 : decode cX8_weigh 22 = .ok (.aload_n 0, 1) := by decide +kernel
theorem dX8_weigh_23 : decode cX8_weigh 23 = .ok (.getfield 41, 3) := by decide +kernel
theorem dX8_weigh_26 : decode cX8_weigh 26 = .ok (.iload_n 3, 1) := by decide +kernel
theorem dX8_weigh_27 : decode cX8_weigh 27 = .ok (.iaload, 1) := by decide +kernel
theorem dX8_weigh_28 : decode cX8_weigh 28 = .ok (.iaload, 1) := by decide +kernel
theorem dX8_weigh_29 : decode cX8_weigh 29 = .ok (.iadd, 1) := by decide +kernel
theorem dX8_weigh_30 : decode cX8_weigh 30 = .ok (.istore_n 1, 1) := by decide +kernel
theorem dX8_weigh_31 : decode cX8_weigh 31 = .ok (.iload_n 2, 1) := by decide +kernel
theorem dX8_weigh_32 : decode cX8_weigh 32 = .ok (.aload_n 0, 1) := by decide +kernel
theorem dX8_weigh_33 : decode cX8_weigh 33 = .ok (.getfield 27, 3) := by decide +kernel
theorem dX8_weigh_36 : decode cX8_weigh 36 = .ok (.aload_n 0, 1) := by decide +kernel
theorem dX8_weigh_37 : decode cX8_weigh 37 = .ok (.getfield 41, 3) := by decide +kernel
theorem dX8_weigh_40 : decode cX8_weigh 40 = .ok (.iload_n 3, 1) := by decide +kernel
theorem dX8_weigh_41 : decode cX8_weigh 41 = .ok (.iaload, 1) := by decide +kernel
theorem dX8_weigh_42 : decode cX8_weigh 42 = .ok (.iaload, 1) := by decide +kernel
theorem dX8_weigh_43 : decode cX8_weigh 43 = .ok (.iadd, 1) := by decide +kernel
theorem dX8_weigh_44 : decode cX8_weigh 44 = .ok (.istore_n 2, 1) := by decide +kernel
theorem dX8_weigh_45 : decode cX8_weigh 45 = .ok (.iinc 3 1, 3) := by decide +kernel
theorem dX8_weigh_48 : decode cX8_weigh 48 = .ok (.goto (-42), 3) := by decide +kernel
theorem dX8_weigh_51 : decode cX8_weigh 51 = .ok (.aload_n 0, 1) := by decide +kernel
theorem dX8_weigh_52 : decode cX8_weigh 52 = .ok (.getfield 62, 3) := by decide +kernel
theorem dX8_weigh_55 : decode cX8_weigh 55 = .ok (.ifCond .eq 14, 3) := by decide +kernel
theorem dX8_weigh_58 : decode cX8_weigh 58 = .ok (.aload_n 0, 1) := by decide +kernel
theorem dX8_weigh_59 : decode cX8_weigh 59 = .ok (.getfield 81, 3) := by decide +kernel
theorem dX8_weigh_62 : decode cX8_weigh 62 = .ok (.aload_n 0, 1) := by decide +kernel
theorem dX8_weigh_63 : decode cX8_weigh 63 = .ok (.getfield 84, 3) := by decide +kernel
theorem dX8_weigh_66 : decode cX8_weigh 66 = .ok (.if_icmp .ge 7, 3) := by decide +kernel
theorem dX8_weigh_69 : decode cX8_weigh 69 = .ok (.iconst 1, 1) := by decide +kernel
theorem dX8_weigh_70 : decode cX8_weigh 70 = .ok (.goto 4, 3) := by decide +kernel
theorem dX8_weigh_73 : decode cX8_weigh 73 = .ok (.iconst 0, 1) := by decide +kernel
theorem dX8_weigh_74 : decode cX8_weigh 74 = .ok (.istore_n 3, 1) := by decide +kernel
theorem dX8_weigh_75 : decode cX8_weigh 75 = .ok (.iconst 0, 1) := by decide +kernel
theorem dX8_weigh_76 : decode cX8_weigh 76 = .ok (.istore 4, 2) := by decide +kernel
theorem dX8_weigh_78 : decode cX8_weigh 78 = .ok (.iload 4, 2) := by decide +kernel
theorem dX8_weigh_80 : decode cX8_weigh 80 = .ok (.aload_n 0, 1) := by decide +kernel
theorem dX8_weigh_81 : decode cX8_weigh 81 = .ok (.getfield 126, 3) := by decide +kernel
theorem dX8_weigh_84 : decode cX8_weigh 84 = .ok (.if_icmp .ge 44, 3) := by decide +kernel
theorem dX8_weigh_87 : decode cX8_weigh 87 = .ok (.iload_n 2, 1) := by decide +kernel
theorem dX8_weigh_88 : decode cX8_weigh 88 = .ok (.ifCond .ne 40, 3) := by decide +kernel
theorem dX8_weigh_91 : decode cX8_weigh 91 = .ok (.iload_n 3, 1) := by decide +kernel
theorem dX8_weigh_92 : decode cX8_weigh 92 = .ok (.ifCond .ne 11, 3) := by decide +kernel
theorem dX8_weigh_95 : decode cX8_weigh 95 = .ok (.iload_n 1, 1) := by decide +kernel
theorem dX8_weigh_96 : decode cX8_weigh 96 = .ok (.aload_n 0, 1) := by decide +kernel
theorem dX8_weigh_97 : decode cX8_weigh 97 = .ok (.getfield 87, 3) := by decide +kernel
theorem dX8_weigh_100 : decode cX8_weigh 100 = .ok (.if_icmp .ge 28, 3) := by decide +kernel
theorem dX8_weigh_103 : decode cX8_weigh 103 = .ok (.iload_n 1, 1) := by decide +kernel
theorem dX8_weigh_104 : decode cX8_weigh 104 = .ok (.aload_n 0, 1) := by decide +kernel
theorem dX8_weigh_105 : decode cX8_weigh 105 = .ok (.getfield 32, 3) := by decide +kernel
theorem dX8_weigh_108 : decode cX8_weigh 108 = .ok (.iload 4, 2) := by decide +kernel
theorem dX8_weigh_110 : decode cX8_weigh 110 = .ok (.iaload, 1) := by decide +kernel
theorem dX8_weigh_111 : decode cX8_weigh 111 = .ok (.aload_n 0, 1) := by decide +kernel
theorem dX8_weigh_112 : decode cX8_weigh 112 = .ok (.iload 4, 2) := by decide +kernel
theorem dX8_weigh_114 : decode cX8_weigh 114 = .ok (.iconst 3, 1) := by decide +kernel
theorem dX8_weigh_115 : decode cX8_weigh 115 = .ok (.imul, 1) := by decide +kernel
theorem dX8_weigh_116 : decode cX8_weigh 116 = .ok (.invokevirtual 165, 3) := by decide +kernel
theorem dX8_weigh_119 : decode cX8_weigh 119 = .ok (.imul, 1) := by decide +kernel
theorem dX8_weigh_120 : decode cX8_weigh 120 = .ok (.iadd, 1) := by decide +kernel
theorem dX8_weigh_121 : decode cX8_weigh 121 = .ok (.istore_n 1, 1) := by decide +kernel
theorem dX8_weigh_122 : decode cX8_weigh 122 = .ok (.iinc 4 1, 3) := by decide +kernel
theorem dX8_weigh_125 : decode cX8_weigh 125 = .ok (.goto (-47), 3) := by decide +kernel
theorem dX8_weigh_128 : decode cX8_weigh 128 = .ok (.iload_n 2, 1) := by decide +kernel
theorem dX8_weigh_129 : decode cX8_weigh 129 = .ok (.ifCond .ne 50, 3) := by decide +kernel
theorem dX8_weigh_132 : decode cX8_weigh 132 = .ok (.iload_n 3, 1) := by decide +kernel
theorem dX8_weigh_133 : decode cX8_weigh 133 = .ok (.ifCond .ne 11, 3) := by decide +kernel
theorem dX8_weigh_136 : decode cX8_weigh 136 = .ok (.iload_n 1, 1) := by decide +kernel
theorem dX8_weigh_137 : decode cX8_weigh 137 = .ok (.aload_n 0, 1) := by decide +kernel
theorem dX8_weigh_138 : decode cX8_weigh 138 = .ok (.getfield 87, 3) := by decide +kernel
theorem dX8_weigh_141 : decode cX8_weigh 141 = .ok (.if_icmp .ge 38, 3) := by decide +kernel
theorem dX8_weigh_144 : decode cX8_weigh 144 = .ok (.aload_n 0, 1) := by decide +kernel
theorem dX8_weigh_145 : decode cX8_weigh 145 = .ok (.iconst 1, 1) := by decide +kernel
theorem dX8_weigh_146 : decode cX8_weigh 146 = .ok (.putfield 62, 3) := by decide +kernel
theorem dX8_weigh_149 : decode cX8_weigh 149 = .ok (.aload_n 0, 1) := by decide +kernel
theorem dX8_weigh_150 : decode cX8_weigh 150 = .ok (.aload_n 0, 1) := by decide +kernel
theorem dX8_weigh_151 : decode cX8_weigh 151 = .ok (.getfield 81, 3) := by decide +kernel
theorem dX8_weigh_154 : decode cX8_weigh 154 = .ok (.putfield 84, 3) := by decide +kernel
theorem dX8_weigh_157 : decode cX8_weigh 157 = .ok (.aload_n 0, 1) := by decide +kernel
theorem dX8_weigh_158 : decode cX8_weigh 158 = .ok (.iload_n 1, 1) := by decide +kernel
theorem dX8_weigh_159 : decode cX8_weigh 159 = .ok (.putfield 87, 3) := by decide +kernel
theorem dX8_weigh_162 : decode cX8_weigh 162 = .ok (.aload_n 0, 1) := by decide +kernel
theorem dX8_weigh_163 : decode cX8_weigh 163 = .ok (.getfield 44, 3) := by decide +kernel
theorem dX8_weigh_166 : decode cX8_weigh 166 = .ok (.iconst 0, 1) := by decide +kernel
theorem dX8_weigh_167 : decode cX8_weigh 167 = .ok (.aload_n 0, 1) := by decide +kernel
theorem dX8_weigh_168 : decode cX8_weigh 168 = .ok (.getfield 47, 3) := by decide +kernel
theorem dX8_weigh_171 : decode cX8_weigh 171 = .ok (.iconst 0, 1) := by decide +kernel
theorem dX8_weigh_172 : decode cX8_weigh 172 = .ok (.aload_n 0, 1) := by decide +kernel
theorem dX8_weigh_173 : decode cX8_weigh 173 = .ok (.getfield 58, 3) := by decide +kernel
theorem dX8_weigh_176 : decode cX8_weigh 176 = .ok (.invokestatic 168, 3) := by decide +kernel
theorem dX8_weigh_179 : decode cX8_weigh 179 = .ok (.return_, 1) := by decide +kernel
theorem dX8_spreadOf_0 : decode cX8_spreadOf 0 = .ok (.aload_n 0, 1) := by decide +kernel
theorem dX8_spreadOf_1 : decode cX8_spreadOf 1 = .ok (.getfield 38, 3) := by decide +kernel
theorem dX8_spreadOf_4 : decode cX8_spreadOf 4 = .ok (.iload_n 1, 1) := by decide +kernel
theorem dX8_spreadOf_5 : decode cX8_spreadOf 5 = .ok (.iaload, 1) := by decide +kernel
theorem dX8_spreadOf_6 : decode cX8_spreadOf 6 = .ok (.istore_n 2, 1) := by decide +kernel
theorem dX8_spreadOf_7 : decode cX8_spreadOf 7 = .ok (.iload_n 2, 1) := by decide +kernel
theorem dX8_spreadOf_8 : decode cX8_spreadOf 8 = .ok (.istore_n 3, 1) := by decide +kernel
theorem dX8_spreadOf_9 : decode cX8_spreadOf 9 = .ok (.iconst 1, 1) := by decide +kernel
theorem dX8_spreadOf_10 : decode cX8_spreadOf 10 = .ok (.istore 4, 2) := by decide +kernel
theorem dX8_spreadOf_12 : decode cX8_spreadOf 12 = .ok (.iload 4, 2) := by decide +kernel
theorem dX8_spreadOf_14 : decode cX8_spreadOf 14 = .ok (.aload_n 0, 1) := by decide +kernel
theorem dX8_spreadOf_15 : decode cX8_spreadOf 15 = .ok (.getfield 50, 3) := by decide +kernel
theorem dX8_spreadOf_18 : decode cX8_spreadOf 18 = .ok (.getfield 98, 3) := by decide +kernel
theorem dX8_spreadOf_21 : decode cX8_spreadOf 21 = .ok (.if_icmp .ge 37, 3) := by decide +kernel
theorem dX8_spreadOf_24 : decode cX8_spreadOf 24 = .ok (.iload_n 2, 1) := by decide +kernel
theorem dX8_spreadOf_25 : decode cX8_spreadOf 25 = .ok (.aload_n 0, 1) := by decide +kernel
theorem dX8_spreadOf_26 : decode cX8_spreadOf 26 = .ok (.getfield 38, 3) := by decide +kernel
theorem dX8_spreadOf_29 : decode cX8_spreadOf 29 = .ok (.iload_n 1, 1) := by decide +kernel
theorem dX8_spreadOf_30 : decode cX8_spreadOf 30 = .ok (.iload 4, 2) := by decide +kernel
theorem dX8_spreadOf_32 : decode cX8_spreadOf 32 = .ok (.iadd, 1) := by decide +kernel
theorem dX8_spreadOf_33 : decode cX8_spreadOf 33 = .ok (.iaload, 1) := by decide +kernel
theorem dX8_spreadOf_34 : decode cX8_spreadOf 34 = .ok (.invokestatic 174, 3) := by decide +kernel
theorem dX8_spreadOf_37 : decode cX8_spreadOf 37 = .ok (.istore_n 2, 1) := by decide +kernel
theorem dX8_spreadOf_38 : decode cX8_spreadOf 38 = .ok (.iload_n 3, 1) := by decide +kernel
theorem dX8_spreadOf_39 : decode cX8_spreadOf 39 = .ok (.aload_n 0, 1) := by decide +kernel
theorem dX8_spreadOf_40 : decode cX8_spreadOf 40 = .ok (.getfield 38, 3) := by decide +kernel
theorem dX8_spreadOf_43 : decode cX8_spreadOf 43 = .ok (.iload_n 1, 1) := by decide +kernel
theorem dX8_spreadOf_44 : decode cX8_spreadOf 44 = .ok (.iload 4, 2) := by decide +kernel
theorem dX8_spreadOf_46 : decode cX8_spreadOf 46 = .ok (.iadd, 1) := by decide +kernel
theorem dX8_spreadOf_47 : decode cX8_spreadOf 47 = .ok (.iaload, 1) := by decide +kernel
theorem dX8_spreadOf_48 : decode cX8_spreadOf 48 = .ok (.invokestatic 179, 3) := by decide +kernel
theorem dX8_spreadOf_51 : decode cX8_spreadOf 51 = .ok (.istore_n 3, 1) := by decide +kernel
theorem dX8_spreadOf_52 : decode cX8_spreadOf 52 = .ok (.iinc 4 1, 3) := by decide +kernel
theorem dX8_spreadOf_55 : decode cX8_spreadOf 55 = .ok (.goto (-43), 3) := by decide +kernel
theorem dX8_spreadOf_58 : decode cX8_spreadOf 58 = .ok (.iload_n 3, 1) := by decide +kernel
theorem dX8_spreadOf_59 : decode cX8_spreadOf 59 = .ok (.iload_n 2, 1) := by decide +kernel
theorem dX8_spreadOf_60 : decode cX8_spreadOf 60 = .ok (.isub, 1) := by decide +kernel
theorem dX8_spreadOf_61 : decode cX8_spreadOf 61 = .ok (.ireturn, 1) := by decide +kernel
theorem dX9_init_0 : decode cX9_init 0 = .ok (.aload_n 0, 1) := by decide +kernel
theorem dX9_init_1 : decode cX9_init 1 = .ok (.invokespecial 3, 3) := by decide +kernel
theorem dX9_init_4 : decode cX9_init 4 = .ok (.aload_n 0, 1) := by decide +kernel
theorem dX9_init_5 : decode cX9_init 5 = .ok (.sipush 400, 3) := by decide +kernel
theorem dX9_init_8 : decode cX9_init 8 = .ok (.newarray .char, 2) := by decide +kernel
theorem dX9_init_10 : decode cX9_init 10 = .ok (.putfield 11, 3) := by decide +kernel
theorem dX9_init_13 : decode cX9_init 13 = .ok (.aload_n 0, 1) := by decide +kernel
theorem dX9_init_14 : decode cX9_init 14 = .ok (.sipush 401, 3) := by decide +kernel
theorem dX9_init_17 : decode cX9_init 17 = .ok (.newarray .int, 2) := by decide +kernel
theorem dX9_init_19 : decode cX9_init 19 = .ok (.putfield 15, 3) := by decide +kernel
theorem dX9_init_22 : decode cX9_init 22 = .ok (.aload_n 0, 1) := by decide +kernel
theorem dX9_init_23 : decode cX9_init 23 = .ok (.sipush 401, 3) := by decide +kernel
theorem dX9_init_26 : decode cX9_init 26 = .ok (.newarray .int, 2) := by decide +kernel
theorem dX9_init_28 : decode cX9_init 28 = .ok (.putfield 19, 3) := by decide +kernel
theorem dX9_init_31 : decode cX9_init 31 = .ok (.aload_n 0, 1) := by decide +kernel
theorem dX9_init_32 : decode cX9_init 32 = .ok (.sipush 401, 3) := by decide +kernel
theorem dX9_init_35 : decode cX9_init 35 = .ok (.newarray .int, 2) := by decide +kernel
theorem dX9_init_37 : decode cX9_init 37 = .ok (.putfield 22, 3) := by decide +kernel
theorem dX9_init_40 : decode cX9_init 40 = .ok (.return_, 1) := by decide +kernel
theorem dX9_hasSpace_0 : decode cX9_hasSpace 0 = .ok (.aload_n 0, 1) := by decide +kernel
theorem dX9_hasSpace_1 : decode cX9_hasSpace 1 = .ok (.getfield 25, 3) := by decide +kernel
theorem dX9_hasSpace_4 : decode cX9_hasSpace 4 = .ok (.iload_n 1, 1) := by decide +kernel
theorem dX9_hasSpace_5 : decode cX9_hasSpace 5 = .ok (.iadd, 1) := by decide +kernel
theorem dX9_hasSpace_6 : decode cX9_hasSpace 6 = .ok (.sipush 400, 3) := by decide +kernel
theorem dX9_hasSpace_9 : decode cX9_hasSpace 9 = .ok (.if_icmp .gt 7, 3) := by decide +kernel
theorem dX9_hasSpace_12 : decode cX9_hasSpace 12 = .ok (.iconst 1, 1) := by decide +kernel
theorem dX9_hasSpace_13 : decode cX9_hasSpace 13 = .ok (.goto 4, 3) := by decide +kernel
theorem dX9_hasSpace_16 : decode cX9_hasSpace 16 = .ok (.iconst 0, 1) := by decide +kernel
theorem dX9_hasSpace_17 : decode cX9_hasSpace 17 = .ok (.ireturn, 1) := by decide +kernel
theorem dX9_append_0 : decode cX9_append 0 = .ok (.bipush 24, 2) := by decide +kernel
theorem dX9_append_2 : decode cX9_append 2 = .ok (.istore_n 2, 1) := by decide +kernel
theorem dX9_append_3 : decode cX9_append 3 = .ok (.iload_n 2, 1) := by decide +kernel
theorem dX9_append_4 : decode cX9_append 4 = .ok (.ifCond .lt 46, 3) := by decide +kernel
theorem dX9_append_7 : decode cX9_append 7 = .ok (.aload_n 0, 1) := by decide +kernel
theorem dX9_append_8 : decode cX9_append 8 = .ok (.getfield 25, 3) := by decide +kernel
theorem dX9_append_11 : decode cX9_append 11 = .ok (.sipush 400, 3) := by decide +kernel
theorem dX9_append_14 : decode cX9_append 14 = .ok (.if_icmp .ge 36, 3) := by decide +kernel
theorem dX9_append_17 : decode cX9_append 17 = .ok (.aload_n 0, 1) := by decide +kernel
theorem dX9_append_18 : decode cX9_append 18 = .ok (.getfield 11, 3) := by decide +kernel
theorem dX9_append_21 : decode cX9_append 21 = .ok (.aload_n 0, 1) := by decide +kernel
theorem dX9_append_22 : decode cX9_append 22 = .ok (.getfield 25, 3) := by decide +kernel
theorem dX9_append_25 : decode cX9_append 25 = .ok (.iload_n 1, 1) := by decide +kernel
theorem dX9_append_26 : decode cX9_append 26 = .ok (.iload_n 2, 1) := by decide +kernel
theorem dX9_append_27 : decode cX9_append 27 = .ok (.ishr, 1) := by decide +kernel
theorem dX9_append_28 : decode cX9_append 28 = .ok (.sipush 255, 3) := by decide +kernel
theorem dX9_append_31 : decode cX9_append 31 = .ok (.iand, 1) := by decide +kernel
theorem dX9_append_32 : decode cX9_append 32 = .ok (.i2c, 1) := by decide +kernel
theorem dX9_append_33 : decode cX9_append 33 = .ok (.castore, 1) := by decide +kernel
theorem dX9_append_34 : decode cX9_append 34 = .ok (.aload_n 0, 1) := by decide +kernel
theorem dX9_append_35 : decode cX9_append 35 = .ok (.dup, 1) := by decide +kernel
theorem dX9_append_36 : decode cX9_append 36 = .ok (.getfield 25, 3) := by decide +kernel
theorem dX9_append_39 : decode cX9_append 39 = .ok (.iconst 1, 1) := by decide +kernel
theorem dX9_append_40 : decode cX9_append 40 = .ok (.iadd, 1) := by decide +kernel
theorem dX9_append_41 : decode cX9_append 41 = .ok (.putfield 25, 3) := by decide +kernel
theorem dX9_append_44 : decode cX9_append 44 = .ok (.iinc 2 (-8), 3) := by decide +kernel
theorem dX9_append_47 : decode cX9_append 47 = .ok (.goto (-44), 3) := by decide +kernel
theorem dX9_append_50 : decode cX9_append 50 = .ok (.return_, 1) := by decide +kernel
theorem dX9_scan_0 : decode cX9_scan 0 = .ok (.aload_n 0, 1) := by decide +kernel
theorem dX9_scan_1 : decode cX9_scan 1 = .ok (.iconst 0, 1) := by decide +kernel
theorem dX9_scan_2 : decode cX9_scan 2 = .ok (.putfield 29, 3) := by decide +kernel
theorem dX9_scan_5 : decode cX9_scan 5 = .ok (.iconst 1, 1) := by decide +kernel
theorem dX9_scan_6 : decode cX9_scan 6 = .ok (.istore_n 1, 1) := by decide +kernel
theorem dX9_scan_7 : decode cX9_scan 7 = .ok (.iconst 0, 1) := by decide +kernel
theorem dX9_scan_8 : decode cX9_scan 8 = .ok (.istore_n 2, 1) := by decide +kernel
theorem dX9_scan_9 : decode cX9_scan 9 = .ok (.iload_n 2, 1) := by decide +kernel
theorem dX9_scan_10 : decode cX9_scan 10 = .ok (.aload_n 0, 1) := by decide +kernel
theorem dX9_scan_11 : decode cX9_scan 11 = .ok (.getfield 25, 3) := by decide +kernel
theorem dX9_scan_14 : decode cX9_scan 14 = .ok (.if_icmp .ge 56, 3) := by decide +kernel
theorem dX9_scan_17 : decode cX9_scan 17 = .ok (.aload_n 0, 1) := by decide +kernel
theorem dX9_scan_18 : decode cX9_scan 18 = .ok (.getfield 11, 3) := by decide +kernel
theorem dX9_scan_21 : decode cX9_scan 21 = .ok (.iload_n 2, 1) := by decide +kernel
theorem dX9_scan_22 : decode cX9_scan 22 = .ok (.caload, 1) := by decide +kernel
theorem dX9_scan_23 : decode cX9_scan 23 = .ok (.bipush 32, 2) := by decide +kernel
theorem dX9_scan_25 : decode cX9_scan 25 = .ok (.if_icmp .eq 14, 3) := by decide +kernel
theorem dX9_scan_28 : decode cX9_scan 28 = .ok (.aload_n 0, 1) := by decide +kernel
theorem dX9_scan_29 : decode cX9_scan 29 = .ok (.getfield 11, 3) := by decide +kernel
theorem dX9_scan_32 : decode cX9_scan 32 = .ok (.iload_n 2, 1) := by decide +kernel
theorem dX9_scan_33 : decode cX9_scan 33 = .ok (.caload, 1) := by decide +kernel
theorem dX9_scan_34 : decode cX9_scan 34 = .ok (.bipush 10, 2) := by decide +kernel
theorem dX9_scan_36 : decode cX9_scan 36 = .ok (.if_icmp .ne 7, 3) := by decide +kernel
theorem dX9_scan_39 : decode cX9_scan 39 = .ok (.iconst 1, 1) := by decide +kernel
theorem dX9_scan_40 : decode cX9_scan 40 = .ok (.goto 4, 3) := by decide +kernel
theorem dX9_scan_43 : decode cX9_scan 43 = .ok (.iconst 0, 1) := by decide +kernel
theorem dX9_scan_44 : decode cX9_scan 44 = .ok (.istore_n 3, 1) := by decide +kernel
theorem dX9_scan_45 : decode cX9_scan 45 = .ok (.iload_n 3, 1) := by decide +kernel
theorem dX9_scan_46 : decode cX9_scan 46 = .ok (.ifCond .eq 7, 3) := by decide +kernel
theorem dX9_scan_49 : decode cX9_scan 49 = .ok (.iconst 1, 1) := by decide +kernel
theorem dX9_scan_50 : decode cX9_scan 50 = .ok (.goto 8, 3) := by decide +kernel
theorem dX9_scan_53 : decode cX9_scan 53 = .ok (.aload_n 0, 1) := by decide +kernel
theorem dX9_scan_54 : decode cX9_scan 54 = .ok (.iload_n 2, 1) := by decide +kernel
theorem dX9_scan_55 : decode cX9_scan 55 = .ok (.invokevirtual 32, 3) := by decide +kernel
theorem dX9_scan_58 : decode cX9_scan 58 = .ok (.istore_n 1, 1) := by decide +kernel
theorem dX9_scan_59 : decode cX9_scan 59 = .ok (.iload_n 2, 1) := by decide +kernel
theorem dX9_scan_60 : decode cX9_scan 60 = .ok (.iconst 1, 1) := by decide +kernel
theorem dX9_scan_61 : decode cX9_scan 61 = .ok (.iload_n 1, 1) := by decide +kernel
theorem dX9_scan_62 : decode cX9_scan 62 = .ok (.invokestatic 36, 3) := by decide +kernel
theorem dX9_scan_65 : decode cX9_scan 65 = .ok (.iadd, 1) := by decide +kernel
theorem dX9_scan_66 : decode cX9_scan 66 = .ok (.istore_n 2, 1) := by decide +kernel
theorem dX9_scan_67 : decode cX9_scan 67 = .ok (.goto (-58), 3) := by decide +kernel
theorem dX9_scan_70 : decode cX9_scan 70 = .ok (.aload_n 0, 1) := by decide +kernel
theorem dX9_scan_71 : decode cX9_scan 71 = .ok (.iconst (-1), 1) := by decide +kernel
theorem dX9_scan_72 : decode cX9_scan 72 = .ok (.aload_n 0, 1) := by decide +kernel
theorem dX9_scan_73 : decode cX9_scan 73 = .ok (.getfield 25, 3) := by decide +kernel
theorem dX9_scan_76 : decode cX9_scan 76 = .ok (.iconst 0, 1) := by decide +kernel
theorem dX9_scan_77 : decode cX9_scan 77 = .ok (.invokevirtual 42, 3) := by decide +kernel
theorem dX9_scan_80 : decode cX9_scan 80 = .ok (.return_, 1) := by decide +kernel
theorem dX9_add_0 : decode cX9_add 0 = .ok (.aload_n 0, 1) := by decide +kernel
theorem dX9_add_1 : decode cX9_add 1 = .ok (.getfield 29, 3) := by decide +kernel
theorem dX9_add_4 : decode cX9_add 4 = .ok (.aload_n 0, 1) := by decide +kernel
theorem dX9_add_5 : decode cX9_add 5 = .ok (.getfield 15, 3) := by decide +kernel
theorem dX9_add_8 : decode cX9_add 8 = .ok (.arraylength, 1) := by decide +kernel
theorem dX9_add_9 : decode cX9_add 9 = .ok (.if_icmp .ge 43, 3) := by decide +kernel
theorem dX9_add_12 : decode cX9_add 12 = .ok (.aload_n 0, 1) := by decide +kernel
theorem dX9_add_13 : decode cX9_add 13 = .ok (.getfield 15, 3) := by decide +kernel
theorem dX9_add_16 : decode cX9_add 16 = .ok (.aload_n 0, 1) := by decide +kernel
theorem dX9_add_17 : decode cX9_add 17 = .ok (.getfield 29, 3) := by decide +kernel
theorem dX9_add_20 : decode cX9_add 20 = .ok (.iload_n 1, 1) := by decide +kernel
theorem dX9_add_21 : decode cX9_add 21 = .ok (.iastore, 1) := by decide +kernel
theorem dX9_add_22 : decode cX9_add 22 = .ok (.aload_n 0, 1) := by decide +kernel
theorem dX9_add_23 : decode cX9_add 23 = .ok (.getfield 19, 3) := by decide +kernel
theorem dX9_add_26 : decode cX9_add 26 = .ok (.aload_n 0, 1) := by decide +kernel
theorem dX9_add_27 : decode cX9_add 27 = .ok (.getfield 29, 3) := by decide +kernel
theorem dX9_add_30 : decode cX9_add 30 = .ok (.iload_n 2, 1) := by decide +kernel
theorem dX9_add_31 : decode cX9_add 31 = .ok (.iastore, 1) := by decide +kernel
theorem dX9_add_32 : decode cX9_add 32 = .ok (.aload_n 0, 1) := by decide +kernel
theorem dX9_add_33 : decode cX9_add 33 = .ok (.getfield 22, 3) := by decide +kernel
theorem dX9_add_36 : decode cX9_add 36 = .ok (.aload_n 0, 1) := by decide +kernel
theorem dX9_add_37 : decode cX9_add 37 = .ok (.getfield 29, 3) := by decide +kernel
theorem dX9_add_40 : decode cX9_add 40 = .ok (.iload_n 3, 1) := by decide +kernel
theorem dX9_add_41 : decode cX9_add 41 = .ok (.iastore, 1) := by decide +kernel
theorem dX9_add_42 : decode cX9_add 42 = .ok (.aload_n 0, 1) := by decide +kernel
theorem dX9_add_43 : decode cX9_add 43 = .ok (.dup, 1) := by decide +kernel
theorem dX9_add_44 : decode cX9_add 44 = .ok (.getfield 29, 3) := by decide +kernel
theorem dX9_add_47 : decode cX9_add 47 = .ok (.iconst 1, 1) := by decide +kernel
theorem dX9_add_48 : decode cX9_add 48 = .ok (.iadd, 1) := by decide +kernel
theorem dX9_add_49 : decode cX9_add 49 = .ok (.putfield 29, 3) := by decide +kernel
theorem dX9_add_52 : decode cX9_add 52 = .ok (.return_, 1) := by decide +kernel
theorem dX9_scanToken_0 : decode cX9_scanToken 0 = .ok (.aload_n 0, 1) := by decide +kernel
theorem dX9_scanToken_1 : decode cX9_scanToken 1 = .ok (.getfield 11, 3) := by decide +kernel
theorem dX9_scanToken_4 : decode cX9_scanToken 4 = .ok (.iload_n 1, 1) := by decide +kernel
theorem dX9_scanToken_5 : decode cX9_scanToken 5 = .ok (.caload, 1) := by decide +kernel
theorem dX9_scanToken_6 : decode cX9_scanToken 6 = .ok (.istore_n 2, 1) := by decide +kernel
theorem dX9_scanToken_7 : decode cX9_scanToken 7 = .ok (.iload_n 2, 1) := by decide +kernel
theorem dX9_scanToken_8 : decode cX9_scanToken 8 = .ok (.invokestatic 46, 3) := by decide +kernel
theorem dX9_scanToken_11 : decode cX9_scanToken 11 = .ok (.ifCond .eq 49, 3) := by decide +kernel
theorem dX9_scanToken_14 : decode cX9_scanToken 14 = .ok (.iload_n 1, 1) := by decide +kernel
theorem dX9_scanToken_15 : decode cX9_scanToken 15 = .ok (.istore_n 3, 1) := by decide +kernel
theorem dX9_scanToken_16 : decode cX9_scanToken 16 = .ok (.iload_n 3, 1) := by decide +kernel
theorem dX9_scanToken_17 : decode cX9_scanToken 17 = .ok (.aload_n 0, 1) := by decide +kernel
theorem dX9_scanToken_18 : decode cX9_scanToken 18 = .ok (.getfield 25, 3) := by decide +kernel
theorem dX9_scanToken_21 : decode cX9_scanToken 21 = .ok (.if_icmp .ge 21, 3) := by decide +kernel
theorem dX9_scanToken_24 : decode cX9_scanToken 24 = .ok (.aload_n 0, 1) := by decide +kernel
theorem dX9_scanToken_25 : decode cX9_scanToken 25 = .ok (.getfield 11, 3) := by decide +kernel
theorem dX9_scanToken_28 : decode cX9_scanToken 28 = .ok (.iload_n 3, 1) := by decide +kernel
theorem dX9_scanToken_29 : decode cX9_scanToken 29 = .ok (.caload, 1) := by decide +kernel
theorem dX9_scanToken_30 : decode cX9_scanToken 30 = .ok (.invokestatic 46, 3) := by decide +kernel
theorem dX9_scanToken_33 : decode cX9_scanToken 33 = .ok (.ifCond .eq 9, 3) := by decide +kernel
theorem dX9_scanToken_36 : decode cX9_scanToken 36 = .ok (.iinc 3 1, 3) := by decide +kernel
theorem dX9_scanToken_39 : decode cX9_scanToken 39 = .ok (.goto (-23), 3) := by decide +kernel
theorem dX9_scanToken_42 : decode cX9_scanToken 42 = .ok (.aload_n 0, 1) := by decide +kernel
theorem dX9_scanToken_43 : decode cX9_scanToken 43 = .ok (.aload_n 0, 1) := by decide +kernel
theorem dX9_scanToken_44 : decode cX9_scanToken 44 = .ok (.iload_n 1, 1) := by decide +kernel
theorem dX9_scanToken_45 : decode cX9_scanToken 45 = .ok (.iload_n 3, 1) := by decide +kernel
theorem dX9_scanToken_46 : decode cX9_scanToken 46 = .ok (.iload_n 1, 1) := by decide +kernel
theorem dX9_scanToken_47 : decode cX9_scanToken 47 = .ok (.isub, 1) := by decide +kernel
theorem dX9_scanToken_48 : decode cX9_scanToken 48 = .ok (.invokevirtual 50, 3) := by decide +kernel
theorem dX9_scanToken_51 : decode cX9_scanToken 51 = .ok (.iload_n 1, 1) := by decide +kernel
theorem dX9_scanToken_52 : decode cX9_scanToken 52 = .ok (.iconst 0, 1) := by decide +kernel
theorem dX9_scanToken_53 : decode cX9_scanToken 53 = .ok (.invokevirtual 42, 3) := by decide +kernel
theorem dX9_scanToken_56 : decode cX9_scanToken 56 = .ok (.iload_n 3, 1) := by decide +kernel
theorem dX9_scanToken_57 : decode cX9_scanToken 57 = .ok (.iload_n 1, 1) := by decide +kernel
theorem dX9_scanToken_58 : decode cX9_scanToken 58 = .ok (.isub, 1) := by decide +kernel
theorem dX9_scanToken_59 : decode cX9_scanToken 59 = .ok (.ireturn, 1) := by decide +kernel
theorem dX9_scanToken_60 : decode cX9_scanToken 60 = .ok (.iload_n 2, 1) := by decide +kernel
theorem dX9_scanToken_61 : decode cX9_scanToken 61 = .ok (.invokestatic 53, 3) := by decide +kernel
theorem dX9_scanToken_64 : decode cX9_scanToken 64 = .ok (.ifCond .eq 9, 3) := by decide +kernel
theorem dX9_scanToken_67 : decode cX9_scanToken 67 = .ok (.aload_n 0, 1) := by decide +kernel
theorem dX9_scanToken_68 : decode cX9_scanToken 68 = .ok (.iload_n 1, 1) := by decide +kernel
theorem dX9_scanToken_69 : decode cX9_scanToken 69 = .ok (.invokevirtual 56, 3) := by decide +kernel
theorem dX9_scanToken_72 : decode cX9_scanToken 72 = .ok (.ireturn, 1) := by decide +kernel
theorem dX9_scanToken_73 : decode cX9_scanToken 73 = .ok (.iload_n 2, 1) := by decide +kernel
theorem dX9_scanToken_74 : decode cX9_scanToken 74 = .ok (.bipush 59, 2) := by decide +kernel
theorem dX9_scanToken_76 : decode cX9_scanToken 76 = .ok (.if_icmp .eq 27, 3) := by decide +kernel
theorem dX9_scanToken_79 : decode cX9_scanToken 79 = .ok (.iload_n 2, 1) := by decide +kernel
theorem dX9_scanToken_80 : decode cX9_scanToken 80 = .ok (.bipush 58, 2) := by decide +kernel
theorem dX9_scanToken_82 : decode cX9_scanToken 82 = .ok (.if_icmp .eq 21, 3) := by decide +kernel
theorem dX9_scanToken_85 : decode cX9_scanToken 85 = .ok (.iload_n 2, 1) := by decide +kernel
theorem dX9_scanToken_86 : decode cX9_scanToken 86 = .ok (.bipush 60, 2) := by decide +kernel
theorem dX9_scanToken_88 : decode cX9_scanToken 88 = .ok (.if_icmp .eq 15, 3) := by decide +kernel
theorem dX9_scanToken_91 : decode cX9_scanToken 91 = .ok (.iload_n 2, 1) := by decide +kernel
theorem dX9_scanToken_92 : decode cX9_scanToken 92 = .ok (.bipush 61, 2) := by decide +kernel
theorem dX9_scanToken_94 : decode cX9_scanToken 94 = .ok (.if_icmp .eq 9, 3) := by decide +kernel
theorem dX9_scanToken_97 : decode cX9_scanToken 97 = .ok (.iload_n 2, 1) := by decide +kernel
theorem dX9_scanToken_98 : decode cX9_scanToken 98 = .ok (.bipush 62, 2) := by decide +kernel
theorem dX9_scanToken_100 : decode cX9_scanToken 100 = .ok (.if_icmp .ne 7, 3) := by decide +kernel
theorem dX9_scanToken_103 : decode cX9_scanToken 103 = .ok (.iconst 1, 1) := by decide +kernel
theorem dX9_scanToken_104 : decode cX9_scanToken 104 = .ok (.goto 4, 3) := by decide +kernel
theorem dX9_scanToken_107 : decode cX9_scanToken 107 = .ok (.iconst 0, 1) := by decide +kernel
theorem dX9_scanToken_108 : decode cX9_scanToken 108 = .ok (.istore_n 3, 1) := by decide +kernel
theorem dX9_scanToken_109 : decode cX9_scanToken 109 = .ok (.aload_n 0, 1) := by decide +kernel
theorem dX9_scanToken_110 : decode cX9_scanToken 110 = .ok (.iload_n 3, 1) := by decide +kernel
theorem dX9_scanToken_111 : decode cX9_scanToken 111 = .ok (.ifCond .eq 7, 3) := by decide +kernel
theorem dX9_scanToken_114 : decode cX9_scanToken 114 = .ok (.iload_n 2, 1) := by decide +kernel
theorem dX9_scanToken_115 : decode cX9_scanToken 115 = .ok (.goto 5, 3) := by decide +kernel
theorem dX9_scanToken_118 : decode cX9_scanToken 118 = .ok (.bipush (-2), 2) := by decide +kernel
theorem dX9_scanToken_120 : decode cX9_scanToken 120 = .ok (.iload_n 1, 1) := by decide +kernel
theorem dX9_scanToken_121 : decode cX9_scanToken 121 = .ok (.iconst 0, 1) := by decide +kernel
theorem dX9_scanToken_122 : decode cX9_scanToken 122 = .ok (.invokevirtual 42, 3) := by decide +kernel
theorem dX9_scanToken_125 : decode cX9_scanToken 125 = .ok (.iconst 1, 1) := by decide +kernel
theorem dX9_scanToken_126 : decode cX9_scanToken 126 = .ok (.ireturn, 1) := by decide +kernel
theorem dX9_scanNumber_0 : decode cX9_scanNumber 0 = .ok (.iconst 0, 1) := by decide +kernel
theorem dX9_scanNumber_1 : decode cX9_scanNumber 1 = .ok (.istore_n 2, 1) := by decide +kernel
theorem dX9_scanNumber_2 : decode cX9_scanNumber 2 = .ok (.iload_n 1, 1) := by decide +kernel
theorem dX9_scanNumber_3 : decode cX9_scanNumber 3 = .ok (.istore_n 3, 1) := by decide +kernel
theorem dX9_scanNumber_4 : decode cX9_scanNumber 4 = .ok (.iload_n 3, 1) := by decide +kernel
theorem dX9_scanNumber_5 : decode cX9_scanNumber 5 = .ok (.aload_n 0, 1) := by decide +kernel
theorem dX9_scanNumber_6 : decode cX9_scanNumber 6 = .ok (.getfield 25, 3) := by decide +kernel
theorem dX9_scanNumber_9 : decode cX9_scanNumber 9 = .ok (.if_icmp .ge 43, 3) := by decide +kernel
theorem dX9_scanNumber_12 : decode cX9_scanNumber 12 = .ok (.aload_n 0, 1) := by decide +kernel
theorem dX9_scanNumber_13 : decode cX9_scanNumber 13 = .ok (.getfield 11, 3) := by decide +kernel
theorem dX9_scanNumber_16 : decode cX9_scanNumber 16 = .ok (.iload_n 3, 1) := by decide +kernel
theorem dX9_scanNumber_17 : decode cX9_scanNumber 17 = .ok (.caload, 1) := by decide +kernel
theorem dX9_scanNumber_18 : decode cX9_scanNumber 18 = .ok (.invokestatic 53, 3) := by decide +kernel
theorem dX9_scanNumber_21 : decode cX9_scanNumber 21 = .ok (.ifCond .eq 31, 3) := by decide +kernel
theorem dX9_scanNumber_24 : decode cX9_scanNumber 24 = .ok (.iload_n 3, 1) := by decide +kernel
theorem dX9_scanNumber_25 : decode cX9_scanNumber 25 = .ok (.iload_n 1, 1) := by decide +kernel
theorem dX9_scanNumber_26 : decode cX9_scanNumber 26 = .ok (.iconst 2, 1) := by decide +kernel
theorem dX9_scanNumber_27 : decode cX9_scanNumber 27 = .ok (.iadd, 1) := by decide +kernel
theorem dX9_scanNumber_28 : decode cX9_scanNumber 28 = .ok (.if_icmp .ge 18, 3) := by decide +kernel
theorem dX9_scanNumber_31 : decode cX9_scanNumber 31 = .ok (.bipush 10, 2) := by decide +kernel
theorem dX9_scanNumber_33 : decode cX9_scanNumber 33 = .ok (.iload_n 2, 1) := by decide +kernel
theorem dX9_scanNumber_34 : decode cX9_scanNumber 34 = .ok (.imul, 1) := by decide +kernel
theorem dX9_scanNumber_35 : decode cX9_scanNumber 35 = .ok (.aload_n 0, 1) := by decide +kernel
theorem dX9_scanNumber_36 : decode cX9_scanNumber 36 = .ok (.getfield 11, 3) := by decide +kernel
theorem dX9_scanNumber_39 : decode cX9_scanNumber 39 = .ok (.iload_n 3, 1) := by decide +kernel
theorem dX9_scanNumber_40 : decode cX9_scanNumber 40 = .ok (.caload, 1) := by decide +kernel
theorem dX9_scanNumber_41 : decode cX9_scanNumber 41 = .ok (.iadd, 1) := by decide +kernel
theorem dX9_scanNumber_42 : decode cX9_scanNumber 42 = .ok (.bipush 48, 2) := by decide +kernel
theorem dX9_scanNumber_44 : decode cX9_scanNumber 44 = .ok (.isub, 1) := by decide +kernel
theorem dX9_scanNumber_45 : decode cX9_scanNumber 45 = .ok (.istore_n 2, 1) := by decide +kernel
theorem dX9_scanNumber_46 : decode cX9_scanNumber 46 = .ok (.iinc 3 1, 3) := by decide +kernel
theorem dX9_scanNumber_49 : decode cX9_scanNumber 49 = .ok (.goto (-45), 3) := by decide +kernel
theorem dX9_scanNumber_52 : decode cX9_scanNumber 52 = .ok (.aload_n 0, 1) := by decide +kernel
theorem dX9_scanNumber_53 : decode cX9_scanNumber 53 = .ok (.iload_n 3, 1) := by decide +kernel
theorem dX9_scanNumber_54 : decode cX9_scanNumber 54 = .ok (.iload_n 1, 1) := by decide +kernel
theorem dX9_scanNumber_55 : decode cX9_scanNumber 55 = .ok (.iconst 2, 1) := by decide +kernel
theorem dX9_scanNumber_56 : decode cX9_scanNumber 56 = .ok (.iadd, 1) := by decide +kernel
theorem dX9_scanNumber_57 : decode cX9_scanNumber 57 = .ok (.if_icmp .le 8, 3) := by decide +kernel
theorem dX9_scanNumber_60 : decode cX9_scanNumber 60 = .ok (.bipush (-2), 2) := by decide +kernel
theorem dX9_scanNumber_62 : decode cX9_scanNumber 62 = .ok (.goto 5, 3) := by decide +kernel
theorem dX9_scanNumber_65 : decode cX9_scanNumber 65 = .ok (.bipush (-3), 2) := by decide +kernel
theorem dX9_scanNumber_67 : decode cX9_scanNumber 67 = .ok (.iload_n 1, 1) := by decide +kernel
theorem dX9_scanNumber_68 : decode cX9_scanNumber 68 = .ok (.iload_n 2, 1) := by decide +kernel
theorem dX9_scanNumber_69 : decode cX9_scanNumber 69 = .ok (.invokevirtual 42, 3) := by decide +kernel
theorem dX9_scanNumber_72 : decode cX9_scanNumber 72 = .ok (.iload_n 3, 1) := by decide +kernel
theorem dX9_scanNumber_73 : decode cX9_scanNumber 73 = .ok (.iload_n 1, 1) := by decide +kernel
theorem dX9_scanNumber_74 : decode cX9_scanNumber 74 = .ok (.isub, 1) := by decide +kernel
theorem dX9_scanNumber_75 : decode cX9_scanNumber 75 = .ok (.ireturn, 1) := by decide +kernel
theorem dX9_wordCode_0 : decode cX9_wordCode 0 = .ok (.iconst 0, 1) := by decide +kernel
theorem dX9_wordCode_1 : decode cX9_wordCode 1 = .ok (.istore_n 3, 1) := by decide +kernel
theorem dX9_wordCode_2 : decode cX9_wordCode 2 = .ok (.iconst 0, 1) := by decide +kernel
theorem dX9_wordCode_3 : decode cX9_wordCode 3 = .ok (.istore 4, 2) := by decide +kernel
theorem dX9_wordCode_5 : decode cX9_wordCode 5 = .ok (.iconst 0, 1) := by decide +kernel
theorem dX9_wordCode_6 : decode cX9_wordCode 6 = .ok (.istore 5, 2) := by decide +kernel
theorem dX9_wordCode_8 : decode cX9_wordCode 8 = .ok (.iload 5, 2) := by decide +kernel
theorem dX9_wordCode_10 : decode cX9_wordCode 10 = .ok (.ldc 59, 2) := by decide +kernel
theorem dX9_wordCode_12 : decode cX9_wordCode 12 = .ok (.invokevirtual 61, 3) := by decide +kernel
theorem dX9_wordCode_15 : decode cX9_wordCode 15 = .ok (.if_icmp .ge 76, 3) := by decide +kernel
theorem dX9_wordCode_18 : decode cX9_wordCode 18 = .ok (.ldc 59, 2) := by decide +kernel
theorem dX9_wordCode_20 : decode cX9_wordCode 20 = .ok (.iload 5, 2) := by decide +kernel
theorem dX9_wordCode_22 : decode cX9_wordCode 22 = .ok (.invokevirtual 66, 3) := by decide +kernel
theorem dX9_wordCode_25 : decode cX9_wordCode 25 = .ok (.istore 6, 2) := by decide +kernel
theorem dX9_wordCode_27 : decode cX9_wordCode 27 = .ok (.iload 6, 2) := by decide +kernel
theorem dX9_wordCode_29 : decode cX9_wordCode 29 = .ok (.bipush 32, 2) := by decide +kernel
theorem dX9_wordCode_31 : decode cX9_wordCode 31 = .ok (.if_icmp .ne 20, 3) := by decide +kernel
theorem dX9_wordCode_34 : decode cX9_wordCode 34 = .ok (.iload 4, 2) := by decide +kernel
theorem dX9_wordCode_36 : decode cX9_wordCode 36 = .ok (.iload_n 2, 1) := by decide +kernel
theorem dX9_wordCode_37 : decode cX9_wordCode 37 = .ok (.if_icmp .ne 5, 3) := by decide +kernel
theorem dX9_wordCode_40 : decode cX9_wordCode 40 = .ok (.iload_n 3, 1) := by decide +kernel
theorem dX9_wordCode_41 : decode cX9_wordCode 41 = .ok (.ireturn, 1) := by decide +kernel
theorem dX9_wordCode_42 : decode cX9_wordCode 42 = .ok (.iinc 3 1, 3) := by decide +kernel
theorem dX9_wordCode_45 : decode cX9_wordCode 45 = .ok (.iconst 0, 1) := by decide +kernel
theorem dX9_wordCode_46 : decode cX9_wordCode 46 = .ok (.istore 4, 2) := by decide +kernel
theorem dX9_wordCode_48 : decode cX9_wordCode 48 = .ok (.goto 37, 3) := by decide +kernel
theorem dX9_wordCode_51 : decode cX9_wordCode 51 = .ok (.iload 4, 2) := by decide +kernel
theorem dX9_wordCode_53 : decode cX9_wordCode 53 = .ok (.ifCond .lt 29, 3) := by decide +kernel
theorem dX9_wordCode_56 : decode cX9_wordCode 56 = .ok (.iload 4, 2) := by decide +kernel
theorem dX9_wordCode_58 : decode cX9_wordCode 58 = .ok (.iload_n 2, 1) := by decide +kernel
theorem dX9_wordCode_59 : decode cX9_wordCode 59 = .ok (.if_icmp .ge 23, 3) := by decide +kernel
theorem dX9_wordCode_62 : decode cX9_wordCode 62 = .ok (.aload_n 0, 1) := by decide +kernel
theorem dX9_wordCode_63 : decode cX9_wordCode 63 = .ok (.getfield 11, 3) := by decide +kernel
theorem dX9_wordCode_66 : decode cX9_wordCode 66 = .ok (.iload_n 1, 1) := by decide +kernel
theorem dX9_wordCode_67 : decode cX9_wordCode 67 = .ok (.iload 4, 2) := by decide +kernel
theorem dX9_wordCode_69 : decode cX9_wordCode 69 = .ok (.iadd, 1) := by decide +kernel
theorem dX9_wordCode_70 : decode cX9_wordCode 70 = .ok (.caload, 1) := by decide +kernel
theorem dX9_wordCode_71 : decode cX9_wordCode 71 = .ok (.iload 6, 2) := by decide +kernel
theorem dX9_wordCode_73 : decode cX9_wordCode 73 = .ok (.if_icmp .ne 9, 3) := by decide +kernel
theorem dX9_wordCode_76 : decode cX9_wordCode 76 = .ok (.iinc 4 1, 3) := by decide +kernel
theorem dX9_wordCode_79 : decode cX9_wordCode 79 = .ok (.goto 6, 3) := by decide +kernel
theorem dX9_wordCode_82 : decode cX9_wordCode 82 = .ok (.iconst (-1), 1) := by decide +kernel
theorem dX9_wordCode_83 : decode cX9_wordCode 83 = .ok (.istore 4, 2) := by decide +kernel
theorem dX9_wordCode_85 : decode cX9_wordCode 85 = .ok (.iinc 5 1, 3) := by decide +kernel
theorem dX9_wordCode_88 : decode cX9_wordCode 88 = .ok (.goto (-80), 3) := by decide +kernel
theorem dX9_wordCode_91 : decode cX9_wordCode 91 = .ok (.bipush (-2), 2) := by decide +kernel
theorem dX9_wordCode_93 : decode cX9_wordCode 93 = .ok (.ireturn, 1) := by decide +kernel
theorem dX9_isLetter_0 : decode cX9_isLetter 0 = .ok (.iload_n 0, 1) := by decide +kernel
theorem dX9_isLetter_1 : decode cX9_isLetter 1 = .ok (.bipush 97, 2) := by decide +kernel
theorem dX9_isLetter_3 : decode cX9_isLetter 3 = .ok (.if_icmp .lt 13, 3) := by decide +kernel
theorem dX9_isLetter_6 : decode cX9_isLetter 6 = .ok (.iload_n 0, 1) := by decide +kernel
theorem dX9_isLetter_7 : decode cX9_isLetter 7 = .ok (.bipush 122, 2) := by decide +kernel
theorem dX9_isLetter_9 : decode cX9_isLetter 9 = .ok (.if_icmp .gt 7, 3) := by decide +kernel
theorem dX9_isLetter_12 : decode cX9_isLetter 12 = .ok (.iconst 1, 1) := by decide +kernel
theorem dX9_isLetter_13 : decode cX9_isLetter 13 = .ok (.goto 4, 3) := by decide +kernel
theorem dX9_isLetter_16 : decode cX9_isLetter 16 = .ok (.iconst 0, 1) := by decide +kernel
theorem dX9_isLetter_17 : decode cX9_isLetter 17 = .ok (.ireturn, 1) := by decide +kernel
theorem dX9_isDigit_0 : decode cX9_isDigit 0 = .ok (.iload_n 0, 1) := by decide +kernel
theorem dX9_isDigit_1 : decode cX9_isDigit 1 = .ok (.bipush 48, 2) := by decide +kernel
theorem dX9_isDigit_3 : decode cX9_isDigit 3 = .ok (.if_icmp .lt 13, 3) := by decide +kernel
theorem dX9_isDigit_6 : decode cX9_isDigit 6 = .ok (.iload_n 0, 1) := by decide +kernel
theorem dX9_isDigit_7 : decode cX9_isDigit 7 = .ok (.bipush 57, 2) := by decide +kernel
theorem dX9_isDigit_9 : decode cX9_isDigit 9 = .ok (.if_icmp .gt 7, 3) := by decide +kernel
theorem dX9_isDigit_12 : decode cX9_isDigit 12 = .ok (.iconst 1, 1) := by decide +kernel
theorem dX9_isDigit_13 : decode cX9_isDigit 13 = .ok (.goto 4, 3) := by decide +kernel
theorem dX9_isDigit_16 : decode cX9_isDigit 16 = .ok (.iconst 0, 1) := by decide +kernel
theorem dX9_isDigit_17 : decode cX9_isDigit 17 = .ok (.ireturn, 1) := by decide +kernel
theorem dX10_init_0 : decode cX10_init 0 = .ok (.aload_n 0, 1) := by decide +kernel
theorem dX10_init_1 : decode cX10_init 1 = .ok (.invokespecial 1, 3) := by decide +kernel
theorem dX10_init_4 : decode cX10_init 4 = .ok (.aload_n 0, 1) := by decide +kernel
theorem dX10_init_5 : decode cX10_init 5 = .ok (.new 7, 3) := by decide +kernel
theorem dX10_init_8 : decode cX10_init 8 = .ok (.dup, 1) := by decide +kernel
theorem dX10_init_9 : decode cX10_init 9 = .ok (.invokespecial 9, 3) := by decide +kernel
theorem dX10_init_12 : decode cX10_init 12 = .ok (.putfield 10, 3) := by decide +kernel
theorem dX10_init_15 : decode cX10_init 15 = .ok (.aload_n 0, 1) := by decide +kernel
theorem dX10_init_16 : decode cX10_init 16 = .ok (.new 16, 3) := by decide +kernel
theorem dX10_init_19 : decode cX10_init 19 = .ok (.dup, 1) := by decide +kernel
theorem dX10_init_20 : decode cX10_init 20 = .ok (.invokespecial 18, 3) := by decide +kernel
theorem dX10_init_23 : decode cX10_init 23 = .ok (.putfield 19, 3) := by decide +kernel
theorem dX10_init_26 : decode cX10_init 26 = .ok (.aload_n 0, 1) := by decide +kernel
theorem dX10_init_27 : decode cX10_init 27 = .ok (.new 23, 3) := by decide +kernel
theorem dX10_init_30 : decode cX10_init 30 = .ok (.dup, 1) := by decide +kernel
theorem dX10_init_31 : decode cX10_init 31 = .ok (.invokespecial 25, 3) := by decide +kernel
theorem dX10_init_34 : decode cX10_init 34 = .ok (.putfield 26, 3) := by decide +kernel
theorem dX10_init_37 : decode cX10_init 37 = .ok (.aload_n 0, 1) := by decide +kernel
theorem dX10_init_38 : decode cX10_init 38 = .ok (.new 30, 3) := by decide +kernel
theorem dX10_init_41 : decode cX10_init 41 = .ok (.dup, 1) := by decide +kernel
theorem dX10_init_42 : decode cX10_init 42 = .ok (.aload_n 0, 1) := by decide +kernel
theorem dX10_init_43 : decode cX10_init 43 = .ok (.getfield 26, 3) := by decide +kernel
theorem dX10_init_46 : decode cX10_init 46 = .ok (.invokespecial 32, 3) := by decide +kernel
theorem dX10_init_49 : decode cX10_init 49 = .ok (.putfield 35, 3) := by decide +kernel
theorem dX10_init_52 : decode cX10_init 52 = .ok (.aload_n 0, 1) := by decide +kernel
theorem dX10_init_53 : decode cX10_init 53 = .ok (.new 39, 3) := by decide +kernel
theorem dX10_init_56 : decode cX10_init 56 = .ok (.dup, 1) := by decide +kernel
theorem dX10_init_57 : decode cX10_init 57 = .ok (.aload_n 0, 1) := by decide +kernel
theorem dX10_init_58 : decode cX10_init 58 = .ok (.getfield 10, 3) := by decide +kernel
theorem dX10_init_61 : decode cX10_init 61 = .ok (.aload_n 0, 1) := by decide +kernel
theorem dX10_init_62 : decode cX10_init 62 = .ok (.getfield 19, 3) := by decide +kernel
theorem dX10_init_65 : decode cX10_init 65 = .ok (.invokespecial 41, 3) := by decide +kernel
theorem dX10_init_68 : decode cX10_init 68 = .ok (.putfield 44, 3) := by decide +kernel
theorem dX10_init_71 : decode cX10_init 71 = .ok (.aload_n 0, 1) := by decide +kernel
theorem dX10_init_72 : decode cX10_init 72 = .ok (.new 48, 3) := by decide +kernel
theorem dX10_init_75 : decode cX10_init 75 = .ok (.dup, 1) := by decide +kernel
theorem dX10_init_76 : decode cX10_init 76 = .ok (.aload_n 0, 1) := by decide +kernel
theorem dX10_init_77 : decode cX10_init 77 = .ok (.getfield 10, 3) := by decide +kernel
theorem dX10_init_80 : decode cX10_init 80 = .ok (.aload_n 0, 1) := by decide +kernel
theorem dX10_init_81 : decode cX10_init 81 = .ok (.getfield 44, 3) := by decide +kernel
theorem dX10_init_84 : decode cX10_init 84 = .ok (.invokespecial 50, 3) := by decide +kernel
theorem dX10_init_87 : decode cX10_init 87 = .ok (.putfield 53, 3) := by decide +kernel
theorem dX10_init_90 : decode cX10_init 90 = .ok (.aload_n 0, 1) := by decide +kernel
theorem dX10_init_91 : decode cX10_init 91 = .ok (.new 57, 3) := by decide +kernel
theorem dX10_init_94 : decode cX10_init 94 = .ok (.dup, 1) := by decide +kernel
theorem dX10_init_95 : decode cX10_init 95 = .ok (.aload_n 0, 1) := by decide +kernel
theorem dX10_init_96 : decode cX10_init 96 = .ok (.getfield 10, 3) := by decide +kernel
theorem dX10_init_99 : decode cX10_init 99 = .ok (.aload_n 0, 1) := by decide +kernel
theorem dX10_init_100 : decode cX10_init 100 = .ok (.getfield 44, 3) := by decide +kernel
theorem dX10_init_103 : decode cX10_init 103 = .ok (.invokespecial 59, 3) := by decide +kernel
theorem dX10_init_106 : decode cX10_init 106 = .ok (.putfield 60, 3) := by decide +kernel
theorem dX10_init_109 : decode cX10_init 109 = .ok (.aload_n 0, 1) := by decide +kernel
theorem dX10_init_110 : decode cX10_init 110 = .ok (.new 64, 3) := by decide +kernel
theorem dX10_init_113 : decode cX10_init 113 = .ok (.dup, 1) := by decide +kernel
theorem dX10_init_114 : decode cX10_init 114 = .ok (.invokespecial 66, 3) := by decide +kernel
theorem dX10_init_117 : decode cX10_init 117 = .ok (.putfield 67, 3) := by decide +kernel
theorem dX10_init_120 : decode cX10_init 120 = .ok (.aload_n 0, 1) := by decide +kernel
theorem dX10_init_121 : decode cX10_init 121 = .ok (.new 71, 3) := by decide +kernel
theorem dX10_init_124 : decode cX10_init 124 = .ok (.dup, 1) := by decide +kernel
theorem dX10_init_125 : decode cX10_init 125 = .ok (.invokespecial 73, 3) := by decide +kernel
theorem dX10_init_128 : decode cX10_init 128 = .ok (.putfield 74, 3) := by decide +kernel
theorem dX10_init_131 : decode cX10_init 131 = .ok (.aload_n 0, 1) := by decide +kernel
theorem dX10_init_132 : decode cX10_init 132 = .ok (.bipush 14, 2) := by decide +kernel
theorem dX10_init_134 : decode cX10_init 134 = .ok (.newarray .int, 2) := by decide +kernel
theorem dX10_init_136 : decode cX10_init 136 = .ok (.putfield 78, 3) := by decide +kernel
theorem dX10_init_139 : decode cX10_init 139 = .ok (.aload_n 0, 1) := by decide +kernel
theorem dX10_init_140 : decode cX10_init 140 = .ok (.getfield 78, 3) := by decide +kernel
theorem dX10_init_143 : decode cX10_init 143 = .ok (.iconst (-1), 1) := by decide +kernel
theorem dX10_init_144 : decode cX10_init 144 = .ok (.invokestatic 82, 3) := by decide +kernel
theorem dX10_init_147 : decode cX10_init 147 = .ok (.aload_n 0, 1) := by decide +kernel
theorem dX10_init_148 : decode cX10_init 148 = .ok (.iconst 3, 1) := by decide +kernel
theorem dX10_init_149 : decode cX10_init 149 = .ok (.newarray .int, 2) := by decide +kernel
theorem dX10_init_151 : decode cX10_init 151 = .ok (.putfield 88, 3) := by decide +kernel
theorem dX10_init_154 : decode cX10_init 154 = .ok (.aload_n 0, 1) := by decide +kernel
theorem dX10_init_155 : decode cX10_init 155 = .ok (.new 91, 3) := by decide +kernel
theorem dX10_init_158 : decode cX10_init 158 = .ok (.dup, 1) := by decide +kernel
theorem dX10_init_159 : decode cX10_init 159 = .ok (.invokespecial 93, 3) := by decide +kernel
theorem dX10_init_162 : decode cX10_init 162 = .ok (.putfield 94, 3) := by decide +kernel
theorem dX10_init_165 : decode cX10_init 165 = .ok (.aload_n 0, 1) := by decide +kernel
theorem dX10_init_166 : decode cX10_init 166 = .ok (.new 91, 3) := by decide +kernel
theorem dX10_init_169 : decode cX10_init 169 = .ok (.dup, 1) := by decide +kernel
theorem dX10_init_170 : decode cX10_init 170 = .ok (.invokespecial 93, 3) := by decide +kernel
theorem dX10_init_173 : decode cX10_init 173 = .ok (.putfield 98, 3) := by decide +kernel
theorem dX10_init_176 : decode cX10_init 176 = .ok (.aload_n 0, 1) := by decide +kernel
theorem dX10_init_177 : decode cX10_init 177 = .ok (.iconst (-1), 1) := by decide +kernel
theorem dX10_init_178 : decode cX10_init 178 = .ok (.putfield 101, 3) := by decide +kernel
theorem dX10_init_181 : decode cX10_init 181 = .ok (.return_, 1) := by decide +kernel
theorem dX10_child_0 : decode cX10_child 0 = .ok (.iload_n 1, 1) := by decide +kernel
theorem dX10_child_1 : decode cX10_child 1 = .ok (.iconst 0, 1) := by decide +kernel
theorem dX10_child_2 : decode cX10_child 2 = .ok (.iconst 1, 1) := by decide +kernel
theorem dX10_child_3 : decode cX10_child 3 = .ok (.invokestatic 105, 3) := by decide +kernel
theorem dX10_child_6 : decode cX10_child 6 = .ok (.ifCond .eq 24, 3) := by decide +kernel
theorem dX10_child_9 : decode cX10_child 9 = .ok (.iload_n 2, 1) := by decide +kernel
theorem dX10_child_10 : decode cX10_child 10 = .ok (.iconst 1, 1) := by decide +kernel
theorem dX10_child_11 : decode cX10_child 11 = .ok (.bipush 12, 2) := by decide +kernel
theorem dX10_child_13 : decode cX10_child 13 = .ok (.invokestatic 105, 3) := by decide +kernel
theorem dX10_child_16 : decode cX10_child 16 = .ok (.ifCond .eq 14, 3) := by decide +kernel
theorem dX10_child_19 : decode cX10_child 19 = .ok (.iload_n 3, 1) := by decide +kernel
theorem dX10_child_20 : decode cX10_child 20 = .ok (.iconst 0, 1) := by decide +kernel
theorem dX10_child_21 : decode cX10_child 21 = .ok (.sipush 255, 3) := by decide +kernel
theorem dX10_child_24 : decode cX10_child 24 = .ok (.invokestatic 105, 3) := by decide +kernel
theorem dX10_child_27 : decode cX10_child 27 = .ok (.ifCond .ne 5, 3) := by decide +kernel
theorem dX10_child_30 : decode cX10_child 30 = .ok (.iconst (-1), 1) := by decide +kernel
theorem dX10_child_31 : decode cX10_child 31 = .ok (.ireturn, 1) := by decide +kernel
theorem dX10_child_32 : decode cX10_child 32 = .ok (.aload_n 0, 1) := by decide +kernel
theorem dX10_child_33 : decode cX10_child 33 = .ok (.iconst 0, 1) := by decide +kernel
theorem dX10_child_34 : decode cX10_child 34 = .ok (.putfield 109, 3) := by decide +kernel
theorem dX10_child_37 : decode cX10_child 37 = .ok (.aload_n 0, 1) := by decide +kernel
theorem dX10_child_38 : decode cX10_child 38 = .ok (.getfield 10, 3) := by decide +kernel
theorem dX10_child_41 : decode cX10_child 41 = .ok (.iload_n 1, 1) := by decide +kernel
theorem dX10_child_42 : decode cX10_child 42 = .ok (.iload_n 2, 1) := by decide +kernel
theorem dX10_child_43 : decode cX10_child 43 = .ok (.iload_n 3, 1) := by decide +kernel
theorem dX10_child_44 : decode cX10_child 44 = .ok (.aload_n 0, 1) := by decide +kernel
theorem dX10_child_45 : decode cX10_child 45 = .ok (.getfield 113, 3) := by decide +kernel
theorem dX10_child_48 : decode cX10_child 48 = .ok (.invokevirtual 116, 3) := by decide +kernel
theorem dX10_child_51 : decode cX10_child 51 = .ok (.ireturn, 1) := by decide +kernel
theorem dX10_mark_0 : decode cX10_mark 0 = .ok (.iload_n 1, 1) := by decide +kernel
theorem dX10_mark_1 : decode cX10_mark 1 = .ok (.iconst 0, 1) := by decide +kernel
theorem dX10_mark_2 : decode cX10_mark 2 = .ok (.iconst 3, 1) := by decide +kernel
theorem dX10_mark_3 : decode cX10_mark 3 = .ok (.invokestatic 105, 3) := by decide +kernel
theorem dX10_mark_6 : decode cX10_mark 6 = .ok (.ifCond .eq 34, 3) := by decide +kernel
theorem dX10_mark_9 : decode cX10_mark 9 = .ok (.aload_n 0, 1) := by decide +kernel
theorem dX10_mark_10 : decode cX10_mark 10 = .ok (.getfield 10, 3) := by decide +kernel
theorem dX10_mark_13 : decode cX10_mark 13 = .ok (.iload_n 2, 1) := by decide +kernel
theorem dX10_mark_14 : decode cX10_mark 14 = .ok (.invokevirtual 120, 3) := by decide +kernel
theorem dX10_mark_17 : decode cX10_mark 17 = .ok (.ifCond .eq 23, 3) := by decide +kernel
theorem dX10_mark_20 : decode cX10_mark 20 = .ok (.iload_n 3, 1) := by decide +kernel
theorem dX10_mark_21 : decode cX10_mark 21 = .ok (.iconst 0, 1) := by decide +kernel
theorem dX10_mark_22 : decode cX10_mark 22 = .ok (.iconst 1, 1) := by decide +kernel
theorem dX10_mark_23 : decode cX10_mark 23 = .ok (.invokestatic 105, 3) := by decide +kernel
theorem dX10_mark_26 : decode cX10_mark 26 = .ok (.ifCond .eq 14, 3) := by decide +kernel
theorem dX10_mark_29 : decode cX10_mark 29 = .ok (.iload 4, 2) := by decide +kernel
theorem dX10_mark_31 : decode cX10_mark 31 = .ok (.iconst 0, 1) := by decide +kernel
theorem dX10_mark_32 : decode cX10_mark 32 = .ok (.bipush 100, 2) := by decide +kernel
theorem dX10_mark_34 : decode cX10_mark 34 = .ok (.invokestatic 105, 3) := by decide +kernel
theorem dX10_mark_37 : decode cX10_mark 37 = .ok (.ifCond .ne 5, 3) := by decide +kernel
theorem dX10_mark_40 : decode cX10_mark 40 = .ok (.iconst 0, 1) := by decide +kernel
theorem dX10_mark_41 : decode cX10_mark 41 = .ok (.ireturn, 1) := by decide +kernel
theorem dX10_mark_42 : decode cX10_mark 42 = .ok (.aload_n 0, 1) := by decide +kernel
theorem dX10_mark_43 : decode cX10_mark 43 = .ok (.iconst 0, 1) := by decide +kernel
theorem dX10_mark_44 : decode cX10_mark 44 = .ok (.putfield 109, 3) := by decide +kernel
theorem dX10_mark_47 : decode cX10_mark 47 = .ok (.aload_n 0, 1) := by decide +kernel
theorem dX10_mark_48 : decode cX10_mark 48 = .ok (.getfield 19, 3) := by decide +kernel
theorem dX10_mark_51 : decode cX10_mark 51 = .ok (.iload_n 1, 1) := by decide +kernel
theorem dX10_mark_52 : decode cX10_mark 52 = .ok (.iload_n 2, 1) := by decide +kernel
theorem dX10_mark_53 : decode cX10_mark 53 = .ok (.iload_n 3, 1) := by decide +kernel
theorem dX10_mark_54 : decode cX10_mark 54 = .ok (.iload 4, 2) := by decide +kernel
theorem dX10_mark_56 : decode cX10_mark 56 = .ok (.aload_n 0, 1) := by decide +kernel
theorem dX10_mark_57 : decode cX10_mark 57 = .ok (.getfield 113, 3) := by decide +kernel
theorem dX10_mark_60 : decode cX10_mark 60 = .ok (.invokevirtual 124, 3) := by decide +kernel
theorem dX10_mark_63 : decode cX10_mark 63 = .ok (.ireturn, 1) := by decide +kernel
theorem dX10_wish_0 : decode cX10_wish 0 = .ok (.aload_n 0, 1) := by decide +kernel
theorem dX10_wish_1 : decode cX10_wish 1 = .ok (.getfield 10, 3) := by decide +kernel
theorem dX10_wish_4 : decode cX10_wish 4 = .ok (.iload_n 1, 1) := by decide +kernel
theorem dX10_wish_5 : decode cX10_wish 5 = .ok (.invokevirtual 120, 3) := by decide +kernel
theorem dX10_wish_8 : decode cX10_wish 8 = .ok (.ifCond .eq 12, 3) := by decide +kernel
theorem dX10_wish_11 : decode cX10_wish 11 = .ok (.iload_n 2, 1) := by decide +kernel
theorem dX10_wish_12 : decode cX10_wish 12 = .ok (.iconst 0, 1) := by decide +kernel
theorem dX10_wish_13 : decode cX10_wish 13 = .ok (.iconst 2, 1) := by decide +kernel
theorem dX10_wish_14 : decode cX10_wish 14 = .ok (.invokestatic 105, 3) := by decide +kernel
theorem dX10_wish_17 : decode cX10_wish 17 = .ok (.ifCond .ne 5, 3) := by decide +kernel
theorem dX10_wish_20 : decode cX10_wish 20 = .ok (.iconst 0, 1) := by decide +kernel
theorem dX10_wish_21 : decode cX10_wish 21 = .ok (.ireturn, 1) := by decide +kernel
theorem dX10_wish_22 : decode cX10_wish 22 = .ok (.iload_n 3, 1) := by decide +kernel
theorem dX10_wish_23 : decode cX10_wish 23 = .ok (.iconst (-1), 1) := by decide +kernel
theorem dX10_wish_24 : decode cX10_wish 24 = .ok (.if_icmp .eq 17, 3) := by decide +kernel
theorem dX10_wish_27 : decode cX10_wish 27 = .ok (.aload_n 0, 1) := by decide +kernel
theorem dX10_wish_28 : decode cX10_wish 28 = .ok (.getfield 10, 3) := by decide +kernel
theorem dX10_wish_31 : decode cX10_wish 31 = .ok (.iload_n 1, 1) := by decide +kernel
theorem dX10_wish_32 : decode cX10_wish 32 = .ok (.iload_n 3, 1) := by decide +kernel
theorem dX10_wish_33 : decode cX10_wish 33 = .ok (.invokevirtual 128, 3) := by decide +kernel
theorem dX10_wish_36 : decode cX10_wish 36 = .ok (.ifCond .ne 5, 3) := by decide +kernel
theorem dX10_wish_39 : decode cX10_wish 39 = .ok (.iconst 0, 1) := by decide +kernel
theorem dX10_wish_40 : decode cX10_wish 40 = .ok (.ireturn, 1) := by decide +kernel
theorem dX10_wish_41 : decode cX10_wish 41 = .ok (.aload_n 0, 1) := by decide +kernel
theorem dX10_wish_42 : decode cX10_wish 42 = .ok (.iconst 0, 1) := by decide +kernel
theorem dX10_wish_43 : decode cX10_wish 43 = .ok (.putfield 109, 3) := by decide +kernel
theorem dX10_wish_46 : decode cX10_wish 46 = .ok (.aload_n 0, 1) := by decide +kernel
theorem dX10_wish_47 : decode cX10_wish 47 = .ok (.getfield 10, 3) := by decide +kernel
theorem dX10_wish_50 : decode cX10_wish 50 = .ok (.getfield 132, 3) := by decide +kernel
theorem dX10_wish_53 : decode cX10_wish 53 = .ok (.iload_n 1, 1) := by decide +kernel
theorem dX10_wish_54 : decode cX10_wish 54 = .ok (.iconst 3, 1) := by decide +kernel
theorem dX10_wish_55 : decode cX10_wish 55 = .ok (.imul, 1) := by decide +kernel
theorem dX10_wish_56 : decode cX10_wish 56 = .ok (.iload_n 2, 1) := by decide +kernel
theorem dX10_wish_57 : decode cX10_wish 57 = .ok (.iadd, 1) := by decide +kernel
theorem dX10_wish_58 : decode cX10_wish 58 = .ok (.iload_n 3, 1) := by decide +kernel
theorem dX10_wish_59 : decode cX10_wish 59 = .ok (.iastore, 1) := by decide +kernel
theorem dX10_wish_60 : decode cX10_wish 60 = .ok (.iconst 1, 1) := by decide +kernel
theorem dX10_wish_61 : decode cX10_wish 61 = .ok (.ireturn, 1) := by decide +kernel
theorem dX10_bar_0 : decode cX10_bar 0 = .ok (.aload_n 0, 1) := by decide +kernel
theorem dX10_bar_1 : decode cX10_bar 1 = .ok (.iconst 0, 1) := by decide +kernel
theorem dX10_bar_2 : decode cX10_bar 2 = .ok (.putfield 109, 3) := by decide +kernel
theorem dX10_bar_5 : decode cX10_bar 5 = .ok (.aload_n 0, 1) := by decide +kernel
theorem dX10_bar_6 : decode cX10_bar 6 = .ok (.getfield 10, 3) := by decide +kernel
theorem dX10_bar_9 : decode cX10_bar 9 = .ok (.iload_n 1, 1) := by decide +kernel
theorem dX10_bar_10 : decode cX10_bar 10 = .ok (.iload_n 2, 1) := by decide +kernel
theorem dX10_bar_11 : decode cX10_bar 11 = .ok (.invokevirtual 128, 3) := by decide +kernel
theorem dX10_bar_14 : decode cX10_bar 14 = .ok (.ifCond .eq 23, 3) := by decide +kernel
theorem dX10_bar_17 : decode cX10_bar 17 = .ok (.aload_n 0, 1) := by decide +kernel
theorem dX10_bar_18 : decode cX10_bar 18 = .ok (.getfield 10, 3) := by decide +kernel
theorem dX10_bar_21 : decode cX10_bar 21 = .ok (.getfield 135, 3) := by decide +kernel
theorem dX10_bar_24 : decode cX10_bar 24 = .ok (.iload_n 1, 1) := by decide +kernel
theorem dX10_bar_25 : decode cX10_bar 25 = .ok (.iload_n 2, 1) := by decide +kernel
theorem dX10_bar_26 : decode cX10_bar 26 = .ok (.iload_n 3, 1) := by decide +kernel
theorem dX10_bar_27 : decode cX10_bar 27 = .ok (.invokestatic 138, 3) := by decide +kernel
theorem dX10_bar_30 : decode cX10_bar 30 = .ok (.ifCond .eq 7, 3) := by decide +kernel
theorem dX10_bar_33 : decode cX10_bar 33 = .ok (.iconst 1, 1) := by decide +kernel
theorem dX10_bar_34 : decode cX10_bar 34 = .ok (.goto 4, 3) := by decide +kernel
theorem dX10_bar_37 : decode cX10_bar 37 = .ok (.iconst 0, 1) := by decide +kernel
theorem dX10_bar_38 : decode cX10_bar 38 = .ok (.ireturn, 1) := by decide +kernel
theorem dX10_twins_0 : decode cX10_twins 0 = .ok (.aload_n 0, 1) := by decide +kernel
theorem dX10_twins_1 : decode cX10_twins 1 = .ok (.iconst 0, 1) := by decide +kernel
theorem dX10_twins_2 : decode cX10_twins 2 = .ok (.putfield 109, 3) := by decide +kernel
theorem dX10_twins_5 : decode cX10_twins 5 = .ok (.aload_n 0, 1) := by decide +kernel
theorem dX10_twins_6 : decode cX10_twins 6 = .ok (.getfield 10, 3) := by decide +kernel
theorem dX10_twins_9 : decode cX10_twins 9 = .ok (.iload_n 1, 1) := by decide +kernel
theorem dX10_twins_10 : decode cX10_twins 10 = .ok (.iload_n 2, 1) := by decide +kernel
theorem dX10_twins_11 : decode cX10_twins 11 = .ok (.invokevirtual 128, 3) := by decide +kernel
theorem dX10_twins_14 : decode cX10_twins 14 = .ok (.ifCond .eq 23, 3) := by decide +kernel
theorem dX10_twins_17 : decode cX10_twins 17 = .ok (.aload_n 0, 1) := by decide +kernel
theorem dX10_twins_18 : decode cX10_twins 18 = .ok (.getfield 10, 3) := by decide +kernel
theorem dX10_twins_21 : decode cX10_twins 21 = .ok (.getfield 142, 3) := by decide +kernel
theorem dX10_twins_24 : decode cX10_twins 24 = .ok (.iload_n 1, 1) := by decide +kernel
theorem dX10_twins_25 : decode cX10_twins 25 = .ok (.iload_n 2, 1) := by decide +kernel
theorem dX10_twins_26 : decode cX10_twins 26 = .ok (.iload_n 3, 1) := by decide +kernel
theorem dX10_twins_27 : decode cX10_twins 27 = .ok (.invokestatic 138, 3) := by decide +kernel
theorem dX10_twins_30 : decode cX10_twins 30 = .ok (.ifCond .eq 7, 3) := by decide +kernel
theorem dX10_twins_33 : decode cX10_twins 33 = .ok (.iconst 1, 1) := by decide +kernel
theorem dX10_twins_34 : decode cX10_twins 34 = .ok (.goto 4, 3) := by decide +kernel
theorem dX10_twins_37 : decode cX10_twins 37 = .ok (.iconst 0, 1) := by decide +kernel
theorem dX10_twins_38 : decode cX10_twins 38 = .ok (.ireturn, 1) := by decide +kernel
theorem dX10_not_0 : decode cX10_not 0 = .ok (.aload_n 0, 1) := by decide +kernel
theorem dX10_not_1 : decode cX10_not 1 = .ok (.getfield 10, 3) := by decide +kernel
theorem dX10_not_4 : decode cX10_not 4 = .ok (.iload_n 1, 1) := by decide +kernel
theorem dX10_not_5 : decode cX10_not 5 = .ok (.invokevirtual 120, 3) := by decide +kernel
theorem dX10_not_8 : decode cX10_not 8 = .ok (.ifCond .eq 12, 3) := by decide +kernel
theorem dX10_not_11 : decode cX10_not 11 = .ok (.iload_n 2, 1) := by decide +kernel
theorem dX10_not_12 : decode cX10_not 12 = .ok (.iconst 0, 1) := by decide +kernel
theorem dX10_not_13 : decode cX10_not 13 = .ok (.iconst 2, 1) := by decide +kernel
theorem dX10_not_14 : decode cX10_not 14 = .ok (.invokestatic 105, 3) := by decide +kernel
theorem dX10_not_17 : decode cX10_not 17 = .ok (.ifCond .ne 5, 3) := by decide +kernel
theorem dX10_not_20 : decode cX10_not 20 = .ok (.iconst 0, 1) := by decide +kernel
theorem dX10_not_21 : decode cX10_not 21 = .ok (.ireturn, 1) := by decide +kernel
theorem dX10_not_22 : decode cX10_not 22 = .ok (.aload_n 0, 1) := by decide +kernel
theorem dX10_not_23 : decode cX10_not 23 = .ok (.iconst 0, 1) := by decide +kernel
theorem dX10_not_24 : decode cX10_not 24 = .ok (.putfield 109, 3) := by decide +kernel
theorem dX10_not_27 : decode cX10_not 27 = .ok (.aload_n 0, 1) := by decide +kernel
theorem dX10_not_28 : decode cX10_not 28 = .ok (.getfield 10, 3) := by decide +kernel
theorem dX10_not_31 : decode cX10_not 31 = .ok (.getfield 145, 3) := by decide +kernel
theorem dX10_not_34 : decode cX10_not 34 = .ok (.iload_n 2, 1) := by decide +kernel
theorem dX10_not_35 : decode cX10_not 35 = .ok (.iload_n 1, 1) := by decide +kernel
theorem dX10_not_36 : decode cX10_not 36 = .ok (.iload_n 3, 1) := by decide +kernel
theorem dX10_not_37 : decode cX10_not 37 = .ok (.invokestatic 148, 3) := by decide +kernel
theorem dX10_not_40 : decode cX10_not 40 = .ok (.ireturn, 1) := by decide +kernel
theorem dX10_classes_0 : decode cX10_classes 0 = .ok (.iload_n 1, 1) := by decide +kernel
theorem dX10_classes_1 : decode cX10_classes 1 = .ok (.iconst 2, 1) := by decide +kernel
theorem dX10_classes_2 : decode cX10_classes 2 = .ok (.iconst 3, 1) := by decide +kernel
theorem dX10_classes_3 : decode cX10_classes 3 = .ok (.invokestatic 105, 3) := by decide +kernel
theorem dX10_classes_6 : decode cX10_classes 6 = .ok (.ifCond .ne 5, 3) := by decide +kernel
theorem dX10_classes_9 : decode cX10_classes 9 = .ok (.iconst 0, 1) := by decide +kernel
theorem dX10_classes_10 : decode cX10_classes 10 = .ok (.ireturn, 1) := by decide +kernel
theorem dX10_classes_11 : decode cX10_classes 11 = .ok (.iconst 0, 1) := by decide +kernel
theorem dX10_classes_12 : decode cX10_classes 12 = .ok (.istore_n 2, 1) := by decide +kernel
theorem dX10_classes_13 : decode cX10_classes 13 = .ok (.iload_n 2, 1) := by decide +kernel
theorem dX10_classes_14 : decode cX10_classes 14 = .ok (.bipush 14, 2) := by decide +kernel
theorem dX10_classes_16 : decode cX10_classes 16 = .ok (.if_icmp .ge 21, 3) := by decide +kernel
theorem dX10_classes_19 : decode cX10_classes 19 = .ok (.aload_n 0, 1) := by decide +kernel
theorem dX10_classes_20 : decode cX10_classes 20 = .ok (.getfield 78, 3) := by decide +kernel
theorem dX10_classes_23 : decode cX10_classes 23 = .ok (.iload_n 2, 1) := by decide +kernel
theorem dX10_classes_24 : decode cX10_classes 24 = .ok (.iaload, 1) := by decide +kernel
theorem dX10_classes_25 : decode cX10_classes 25 = .ok (.iload_n 1, 1) := by decide +kernel
theorem dX10_classes_26 : decode cX10_classes 26 = .ok (.if_icmp .lt 5, 3) := by decide +kernel
theorem dX10_classes_29 : decode cX10_classes 29 = .ok (.iconst 0, 1) := by decide +kernel
theorem dX10_classes_30 : decode cX10_classes 30 = .ok (.ireturn, 1) := by decide +kernel
theorem dX10_classes_31 : decode cX10_classes 31 = .ok (.iinc 2 1, 3) := by decide +kernel
theorem dX10_classes_34 : decode cX10_classes 34 = .ok (.goto (-21), 3) := by decide +kernel
theorem dX10_classes_37 : decode cX10_classes 37 = .ok (.aload_n 0, 1) := by decide +kernel
theorem dX10_classes_38 : decode cX10_classes 38 = .ok (.iconst 0, 1) := by decide +kernel
theorem dX10_classes_39 : decode cX10_classes 39 = .ok (.putfield 109, 3) := by decide +kernel
theorem dX10_classes_42 : decode cX10_classes 42 = .ok (.aload_n 0, 1) := by decide +kernel
theorem dX10_classes_43 : decode cX10_classes 43 = .ok (.getfield 10, 3) := by decide +kernel
theorem dX10_classes_46 : decode cX10_classes 46 = .ok (.iload_n 1, 1) := by decide +kernel
theorem dX10_classes_47 : decode cX10_classes 47 = .ok (.putfield 151, 3) := by decide +kernel
theorem dX10_classes_50 : decode cX10_classes 50 = .ok (.iconst 1, 1) := by decide +kernel
theorem dX10_classes_51 : decode cX10_classes 51 = .ok (.ireturn, 1) := by decide +kernel
theorem dX10_room_0 : decode cX10_room 0 = .ok (.iload_n 1, 1) := by decide +kernel
theorem dX10_room_1 : decode cX10_room 1 = .ok (.iconst 0, 1) := by decide +kernel
theorem dX10_room_2 : decode cX10_room 2 = .ok (.iconst 2, 1) := by decide +kernel
theorem dX10_room_3 : decode cX10_room 3 = .ok (.invokestatic 105, 3) := by decide +kernel
theorem dX10_room_6 : decode cX10_room 6 = .ok (.ifCond .eq 13, 3) := by decide +kernel
theorem dX10_room_9 : decode cX10_room 9 = .ok (.iload_n 2, 1) := by decide +kernel
theorem dX10_room_10 : decode cX10_room 10 = .ok (.iconst 0, 1) := by decide +kernel
theorem dX10_room_11 : decode cX10_room 11 = .ok (.bipush 14, 2) := by decide +kernel
theorem dX10_room_13 : decode cX10_room 13 = .ok (.invokestatic 105, 3) := by decide +kernel
theorem dX10_room_16 : decode cX10_room 16 = .ok (.ifCond .ne 5, 3) := by decide +kernel
theorem dX10_room_19 : decode cX10_room 19 = .ok (.iconst 0, 1) := by decide +kernel
theorem dX10_room_20 : decode cX10_room 20 = .ok (.ireturn, 1) := by decide +kernel
theorem dX10_room_21 : decode cX10_room 21 = .ok (.aload_n 0, 1) := by decide +kernel
theorem dX10_room_22 : decode cX10_room 22 = .ok (.iconst 0, 1) := by decide +kernel
theorem dX10_room_23 : decode cX10_room 23 = .ok (.putfield 109, 3) := by decide +kernel
theorem dX10_room_26 : decode cX10_room 26 = .ok (.aload_n 0, 1) := by decide +kernel
theorem dX10_room_27 : decode cX10_room 27 = .ok (.getfield 10, 3) := by decide +kernel
theorem dX10_room_30 : decode cX10_room 30 = .ok (.getfield 154, 3) := by decide +kernel
theorem dX10_room_33 : decode cX10_room 33 = .ok (.iload_n 1, 1) := by decide +kernel
theorem dX10_room_34 : decode cX10_room 34 = .ok (.iload_n 2, 1) := by decide +kernel
theorem dX10_room_35 : decode cX10_room 35 = .ok (.iastore, 1) := by decide +kernel
theorem dX10_room_36 : decode cX10_room 36 = .ok (.iconst 1, 1) := by decide +kernel
theorem dX10_room_37 : decode cX10_room 37 = .ok (.ireturn, 1) := by decide +kernel
theorem dX10_feed_0 : decode cX10_feed 0 = .ok (.aload_n 0, 1) := by decide +kernel
theorem dX10_feed_1 : decode cX10_feed 1 = .ok (.getfield 26, 3) := by decide +kernel
theorem dX10_feed_4 : decode cX10_feed 4 = .ok (.bipush 20, 2) := by decide +kernel
theorem dX10_feed_6 : decode cX10_feed 6 = .ok (.invokevirtual 157, 3) := by decide +kernel
theorem dX10_feed_9 : decode cX10_feed 9 = .ok (.ifCond .ne 5, 3) := by decide +kernel
theorem dX10_feed_12 : decode cX10_feed 12 = .ok (.iconst (-1), 1) := by decide +kernel
theorem dX10_feed_13 : decode cX10_feed 13 = .ok (.ireturn, 1) := by decide +kernel
theorem dX10_feed_14 : decode cX10_feed 14 = .ok (.aload_n 0, 1) := by decide +kernel
theorem dX10_feed_15 : decode cX10_feed 15 = .ok (.getfield 26, 3) := by decide +kernel
theorem dX10_feed_18 : decode cX10_feed 18 = .ok (.iload_n 1, 1) := by decide +kernel
theorem dX10_feed_19 : decode cX10_feed 19 = .ok (.invokevirtual 160, 3) := by decide +kernel
theorem dX10_feed_22 : decode cX10_feed 22 = .ok (.aload_n 0, 1) := by decide +kernel
theorem dX10_feed_23 : decode cX10_feed 23 = .ok (.getfield 26, 3) := by decide +kernel
theorem dX10_feed_26 : decode cX10_feed 26 = .ok (.iload_n 2, 1) := by decide +kernel
theorem dX10_feed_27 : decode cX10_feed 27 = .ok (.invokevirtual 160, 3) := by decide +kernel
theorem dX10_feed_30 : decode cX10_feed 30 = .ok (.aload_n 0, 1) := by decide +kernel
theorem dX10_feed_31 : decode cX10_feed 31 = .ok (.getfield 26, 3) := by decide +kernel
theorem dX10_feed_34 : decode cX10_feed 34 = .ok (.iload_n 3, 1) := by decide +kernel
theorem dX10_feed_35 : decode cX10_feed 35 = .ok (.invokevirtual 160, 3) := by decide +kernel
theorem dX10_feed_38 : decode cX10_feed 38 = .ok (.aload_n 0, 1) := by decide +kernel
theorem dX10_feed_39 : decode cX10_feed 39 = .ok (.getfield 26, 3) := by decide +kernel
theorem dX10_feed_42 : decode cX10_feed 42 = .ok (.iload 4, 2) := by decide +kernel
theorem dX10_feed_44 : decode cX10_feed 44 = .ok (.invokevirtual 160, 3) := by decide +kernel
theorem dX10_feed_47 : decode cX10_feed 47 = .ok (.aload_n 0, 1) := by decide +kernel
theorem dX10_feed_48 : decode cX10_feed 48 = .ok (.getfield 26, 3) := by decide +kernel
theorem dX10_feed_51 : decode cX10_feed 51 = .ok (.iload 5, 2) := by decide +kernel
theorem dX10_feed_53 : decode cX10_feed 53 = .ok (.invokevirtual 160, 3) := by decide +kernel
theorem dX10_feed_56 : decode cX10_feed 56 = .ok (.aload_n 0, 1) := by decide +kernel
theorem dX10_feed_57 : decode cX10_feed 57 = .ok (.getfield 26, 3) := by decide +kernel
theorem dX10_feed_60 : decode cX10_feed 60 = .ok (.getfield 164, 3) := by decide +kernel
theorem dX10_feed_63 : decode cX10_feed 63 = .ok (.ireturn, 1) := by decide +kernel
theorem dX10_end_0 : decode cX10_end 0 = .ok (.iload_n 1, 1) := by decide +kernel
theorem dX10_end_1 : decode cX10_end 1 = .ok (.iconst 0, 1) := by decide +kernel
theorem dX10_end_2 : decode cX10_end 2 = .ok (.aload_n 0, 1) := by decide +kernel
theorem dX10_end_3 : decode cX10_end 3 = .ok (.getfield 26, 3) := by decide +kernel
theorem dX10_end_6 : decode cX10_end 6 = .ok (.getfield 164, 3) := by decide +kernel
theorem dX10_end_9 : decode cX10_end 9 = .ok (.invokestatic 105, 3) := by decide +kernel
theorem dX10_end_12 : decode cX10_end 12 = .ok (.ifCond .ne 5, 3) := by decide +kernel
theorem dX10_end_15 : decode cX10_end 15 = .ok (.iconst (-1), 1) := by decide +kernel
theorem dX10_end_16 : decode cX10_end 16 = .ok (.ireturn, 1) := by decide +kernel
theorem dX10_end_17 : decode cX10_end 17 = .ok (.aload_n 0, 1) := by decide +kernel
theorem dX10_end_18 : decode cX10_end 18 = .ok (.getfield 26, 3) := by decide +kernel
theorem dX10_end_21 : decode cX10_end 21 = .ok (.iload_n 1, 1) := by decide +kernel
theorem dX10_end_22 : decode cX10_end 22 = .ok (.putfield 164, 3) := by decide +kernel
theorem dX10_end_25 : decode cX10_end 25 = .ok (.iload_n 1, 1) := by decide +kernel
theorem dX10_end_26 : decode cX10_end 26 = .ok (.ireturn, 1) := by decide +kernel
theorem dX10_rule_0 : decode cX10_rule 0 = .ok (.aload_n 0, 1) := by decide +kernel
theorem dX10_rule_1 : decode cX10_rule 1 = .ok (.getfield 35, 3) := by decide +kernel
theorem dX10_rule_4 : decode cX10_rule 4 = .ok (.aload_n 0, 1) := by decide +kernel
theorem dX10_rule_5 : decode cX10_rule 5 = .ok (.getfield 98, 3) := by decide +kernel
theorem dX10_rule_8 : decode cX10_rule 8 = .ok (.invokevirtual 167, 3) := by decide +kernel
theorem dX10_rule_11 : decode cX10_rule 11 = .ok (.istore_n 1, 1) := by decide +kernel
theorem dX10_rule_12 : decode cX10_rule 12 = .ok (.aload_n 0, 1) := by decide +kernel
theorem dX10_rule_13 : decode cX10_rule 13 = .ok (.getfield 26, 3) := by decide +kernel
theorem dX10_rule_16 : decode cX10_rule 16 = .ok (.iconst 0, 1) := by decide +kernel
theorem dX10_rule_17 : decode cX10_rule 17 = .ok (.putfield 164, 3) := by decide +kernel
theorem dX10_rule_20 : decode cX10_rule 20 = .ok (.iload_n 1, 1) := by decide +kernel
theorem dX10_rule_21 : decode cX10_rule 21 = .ok (.ifCond .ne 13, 3) := by decide +kernel
theorem dX10_rule_24 : decode cX10_rule 24 = .ok (.iconst (-1), 1) := by decide +kernel
theorem dX10_rule_25 : decode cX10_rule 25 = .ok (.aload_n 0, 1) := by decide +kernel
theorem dX10_rule_26 : decode cX10_rule 26 = .ok (.getfield 35, 3) := by decide +kernel
theorem dX10_rule_29 : decode cX10_rule 29 = .ok (.getfield 171, 3) := by decide +kernel
theorem dX10_rule_32 : decode cX10_rule 32 = .ok (.isub, 1) := by decide +kernel
theorem dX10_rule_33 : decode cX10_rule 33 = .ok (.ireturn, 1) := by decide +kernel
theorem dX10_rule_34 : decode cX10_rule 34 = .ok (.aload_n 0, 1) := by decide +kernel
theorem dX10_rule_35 : decode cX10_rule 35 = .ok (.getfield 94, 3) := by decide +kernel
theorem dX10_rule_38 : decode cX10_rule 38 = .ok (.astore_n 2, 1) := by decide +kernel
theorem dX10_rule_39 : decode cX10_rule 39 = .ok (.aload_n 0, 1) := by decide +kernel
theorem dX10_rule_40 : decode cX10_rule 40 = .ok (.aload_n 0, 1) := by decide +kernel
theorem dX10_rule_41 : decode cX10_rule 41 = .ok (.getfield 98, 3) := by decide +kernel
theorem dX10_rule_44 : decode cX10_rule 44 = .ok (.putfield 94, 3) := by decide +kernel
theorem dX10_rule_47 : decode cX10_rule 47 = .ok (.aload_n 0, 1) := by decide +kernel
theorem dX10_rule_48 : decode cX10_rule 48 = .ok (.aload_n 2, 1) := by decide +kernel
theorem dX10_rule_49 : decode cX10_rule 49 = .ok (.putfield 98, 3) := by decide +kernel
theorem dX10_rule_52 : decode cX10_rule 52 = .ok (.aload_n 0, 1) := by decide +kernel
theorem dX10_rule_53 : decode cX10_rule 53 = .ok (.iconst 0, 1) := by decide +kernel
theorem dX10_rule_54 : decode cX10_rule 54 = .ok (.putfield 109, 3) := by decide +kernel
theorem dX10_rule_57 : decode cX10_rule 57 = .ok (.aload_n 0, 1) := by decide +kernel
theorem dX10_rule_58 : decode cX10_rule 58 = .ok (.getfield 94, 3) := by decide +kernel
theorem dX10_rule_61 : decode cX10_rule 61 = .ok (.getfield 174, 3) := by decide +kernel
theorem dX10_rule_64 : decode cX10_rule 64 = .ok (.ireturn, 1) := by decide +kernel
theorem dX10_place_0 : decode cX10_place 0 = .ok (.aload_n 0, 1) := by decide +kernel
theorem dX10_place_1 : decode cX10_place 1 = .ok (.getfield 35, 3) := by decide +kernel
theorem dX10_place_4 : decode cX10_place 4 = .ok (.getfield 177, 3) := by decide +kernel
theorem dX10_place_7 : decode cX10_place 7 = .ok (.ireturn, 1) := by decide +kernel
theorem dX10_holds_0 : decode cX10_holds 0 = .ok (.iload_n 1, 1) := by decide +kernel
theorem dX10_holds_1 : decode cX10_holds 1 = .ok (.iconst 0, 1) := by decide +kernel
theorem dX10_holds_2 : decode cX10_holds 2 = .ok (.aload_n 0, 1) := by decide +kernel
theorem dX10_holds_3 : decode cX10_holds 3 = .ok (.getfield 94, 3) := by decide +kernel
theorem dX10_holds_6 : decode cX10_holds 6 = .ok (.getfield 174, 3) := by decide +kernel
theorem dX10_holds_9 : decode cX10_holds 9 = .ok (.iconst 1, 1) := by decide +kernel
theorem dX10_holds_10 : decode cX10_holds 10 = .ok (.isub, 1) := by decide +kernel
theorem dX10_holds_11 : decode cX10_holds 11 = .ok (.invokestatic 105, 3) := by decide +kernel
theorem dX10_holds_14 : decode cX10_holds 14 = .ok (.ifCond .eq 32, 3) := by decide +kernel
theorem dX10_holds_17 : decode cX10_holds 17 = .ok (.iload_n 2, 1) := by decide +kernel
theorem dX10_holds_18 : decode cX10_holds 18 = .ok (.iconst 0, 1) := by decide +kernel
theorem dX10_holds_19 : decode cX10_holds 19 = .ok (.iconst 1, 1) := by decide +kernel
theorem dX10_holds_20 : decode cX10_holds 20 = .ok (.invokestatic 105, 3) := by decide +kernel
theorem dX10_holds_23 : decode cX10_holds 23 = .ok (.ifCond .eq 23, 3) := by decide +kernel
theorem dX10_holds_26 : decode cX10_holds 26 = .ok (.aload_n 0, 1) := by decide +kernel
theorem dX10_holds_27 : decode cX10_holds 27 = .ok (.getfield 10, 3) := by decide +kernel
theorem dX10_holds_30 : decode cX10_holds 30 = .ok (.iload_n 3, 1) := by decide +kernel
theorem dX10_holds_31 : decode cX10_holds 31 = .ok (.invokevirtual 120, 3) := by decide +kernel
theorem dX10_holds_34 : decode cX10_holds 34 = .ok (.ifCond .eq 12, 3) := by decide +kernel
theorem dX10_holds_37 : decode cX10_holds 37 = .ok (.aload_n 0, 1) := by decide +kernel
theorem dX10_holds_38 : decode cX10_holds 38 = .ok (.iload 4, 2) := by decide +kernel
theorem dX10_holds_40 : decode cX10_holds 40 = .ok (.invokevirtual 180, 3) := by decide +kernel
theorem dX10_holds_43 : decode cX10_holds 43 = .ok (.ifCond .ne 5, 3) := by decide +kernel
theorem dX10_holds_46 : decode cX10_holds 46 = .ok (.iconst (-1), 1) := by decide +kernel
theorem dX10_holds_47 : decode cX10_holds 47 = .ok (.ireturn, 1) := by decide +kernel
theorem dX10_holds_48 : decode cX10_holds 48 = .ok (.aload_n 0, 1) := by decide +kernel
theorem dX10_holds_49 : decode cX10_holds 49 = .ok (.getfield 94, 3) := by decide +kernel
theorem dX10_holds_52 : decode cX10_holds 52 = .ok (.iload_n 1, 1) := by decide +kernel
theorem dX10_holds_53 : decode cX10_holds 53 = .ok (.iload_n 2, 1) := by decide +kernel
theorem dX10_holds_54 : decode cX10_holds 54 = .ok (.invokevirtual 183, 3) := by decide +kernel
theorem dX10_holds_57 : decode cX10_holds 57 = .ok (.ifCond .ne 5, 3) := by decide +kernel
theorem dX10_holds_60 : decode cX10_holds 60 = .ok (.iconst (-1), 1) := by decide +kernel
theorem dX10_holds_61 : decode cX10_holds 61 = .ok (.ireturn, 1) := by decide +kernel
theorem dX10_holds_62 : decode cX10_holds 62 = .ok (.aload_n 0, 1) := by decide +kernel
theorem dX10_holds_63 : decode cX10_holds 63 = .ok (.getfield 44, 3) := by decide +kernel
theorem dX10_holds_66 : decode cX10_holds 66 = .ok (.aload_n 0, 1) := by decide +kernel
theorem dX10_holds_67 : decode cX10_holds 67 = .ok (.getfield 94, 3) := by decide +kernel
theorem dX10_holds_70 : decode cX10_holds 70 = .ok (.iload 4, 2) := by decide +kernel
theorem dX10_holds_72 : decode cX10_holds 72 = .ok (.invokevirtual 186, 3) := by decide +kernel
theorem dX10_holds_75 : decode cX10_holds 75 = .ok (.aload_n 0, 1) := by decide +kernel
theorem dX10_holds_76 : decode cX10_holds 76 = .ok (.getfield 44, 3) := by decide +kernel
theorem dX10_holds_79 : decode cX10_holds 79 = .ok (.iload_n 1, 1) := by decide +kernel
theorem dX10_holds_80 : decode cX10_holds 80 = .ok (.iconst 2, 1) := by decide +kernel
theorem dX10_holds_81 : decode cX10_holds 81 = .ok (.imul, 1) := by decide +kernel
theorem dX10_holds_82 : decode cX10_holds 82 = .ok (.iload_n 2, 1) := by decide +kernel
theorem dX10_holds_83 : decode cX10_holds 83 = .ok (.iadd, 1) := by decide +kernel
theorem dX10_holds_84 : decode cX10_holds 84 = .ok (.iload_n 3, 1) := by decide +kernel
theorem dX10_holds_85 : decode cX10_holds 85 = .ok (.invokevirtual 190, 3) := by decide +kernel
theorem dX10_holds_88 : decode cX10_holds 88 = .ok (.ifCond .eq 7, 3) := by decide +kernel
theorem dX10_holds_91 : decode cX10_holds 91 = .ok (.iconst 1, 1) := by decide +kernel
theorem dX10_holds_92 : decode cX10_holds 92 = .ok (.goto 4, 3) := by decide +kernel
theorem dX10_holds_95 : decode cX10_holds 95 = .ok (.iconst 0, 1) := by decide +kernel
theorem dX10_holds_96 : decode cX10_holds 96 = .ok (.ireturn, 1) := by decide +kernel
theorem dX10_day_0 : decode cX10_day 0 = .ok (.iload_n 1, 1) := by decide +kernel
theorem dX10_day_1 : decode cX10_day 1 = .ok (.iconst 0, 1) := by decide +kernel
theorem dX10_day_2 : decode cX10_day 2 = .ok (.sipush 1000, 3) := by decide +kernel
theorem dX10_day_5 : decode cX10_day 5 = .ok (.invokestatic 105, 3) := by decide +kernel
theorem dX10_day_8 : decode cX10_day 8 = .ok (.ifCond .eq 14, 3) := by decide +kernel
theorem dX10_day_11 : decode cX10_day 11 = .ok (.aload_n 0, 1) := by decide +kernel
theorem dX10_day_12 : decode cX10_day 12 = .ok (.getfield 113, 3) := by decide +kernel
theorem dX10_day_15 : decode cX10_day 15 = .ok (.iload_n 1, 1) := by decide +kernel
theorem dX10_day_16 : decode cX10_day 16 = .ok (.iadd, 1) := by decide +kernel
theorem dX10_day_17 : decode cX10_day 17 = .ok (.ldc 193, 2) := by decide +kernel
theorem dX10_day_19 : decode cX10_day 19 = .ok (.if_icmp .le 5, 3) := by decide +kernel
theorem dX10_day_22 : decode cX10_day 22 = .ok (.iconst (-1), 1) := by decide +kernel
theorem dX10_day_23 : decode cX10_day 23 = .ok (.ireturn, 1) := by decide +kernel
theorem dX10_day_24 : decode cX10_day 24 = .ok (.iload_n 1, 1) := by decide +kernel
theorem dX10_day_25 : decode cX10_day 25 = .ok (.ifCond .le 25, 3) := by decide +kernel
theorem dX10_day_28 : decode cX10_day 28 = .ok (.aload_n 0, 1) := by decide +kernel
theorem dX10_day_29 : decode cX10_day 29 = .ok (.getfield 74, 3) := by decide +kernel
theorem dX10_day_32 : decode cX10_day 32 = .ok (.aload_n 0, 1) := by decide +kernel
theorem dX10_day_33 : decode cX10_day 33 = .ok (.getfield 78, 3) := by decide +kernel
theorem dX10_day_36 : decode cX10_day 36 = .ok (.aload_n 0, 1) := by decide +kernel
theorem dX10_day_37 : decode cX10_day 37 = .ok (.getfield 10, 3) := by decide +kernel
theorem dX10_day_40 : decode cX10_day 40 = .ok (.getfield 194, 3) := by decide +kernel
theorem dX10_day_43 : decode cX10_day 43 = .ok (.aload_n 0, 1) := by decide +kernel
theorem dX10_day_44 : decode cX10_day 44 = .ok (.getfield 113, 3) := by decide +kernel
theorem dX10_day_47 : decode cX10_day 47 = .ok (.invokevirtual 195, 3) := by decide +kernel
theorem dX10_day_50 : decode cX10_day 50 = .ok (.aload_n 0, 1) := by decide +kernel
theorem dX10_day_51 : decode cX10_day 51 = .ok (.iconst 0, 1) := by decide +kernel
theorem dX10_day_52 : decode cX10_day 52 = .ok (.putfield 109, 3) := by decide +kernel
theorem dX10_day_55 : decode cX10_day 55 = .ok (.aload_n 0, 1) := by decide +kernel
theorem dX10_day_56 : decode cX10_day 56 = .ok (.dup, 1) := by decide +kernel
theorem dX10_day_57 : decode cX10_day 57 = .ok (.getfield 113, 3) := by decide +kernel
theorem dX10_day_60 : decode cX10_day 60 = .ok (.iload_n 1, 1) := by decide +kernel
theorem dX10_day_61 : decode cX10_day 61 = .ok (.iadd, 1) := by decide +kernel
theorem dX10_day_62 : decode cX10_day 62 = .ok (.putfield 113, 3) := by decide +kernel
theorem dX10_day_65 : decode cX10_day 65 = .ok (.aload_n 0, 1) := by decide +kernel
theorem dX10_day_66 : decode cX10_day 66 = .ok (.getfield 113, 3) := by decide +kernel
theorem dX10_day_69 : decode cX10_day 69 = .ok (.ireturn, 1) := by decide +kernel
theorem dX10_plan_0 : decode cX10_plan 0 = .ok (.aload_n 0, 1) := by decide +kernel
theorem dX10_plan_1 : decode cX10_plan 1 = .ok (.iload_n 1, 1) := by decide +kernel
theorem dX10_plan_2 : decode cX10_plan 2 = .ok (.invokevirtual 199, 3) := by decide +kernel
theorem dX10_plan_5 : decode cX10_plan 5 = .ok (.ireturn, 1) := by decide +kernel
theorem dX10_planned_0 : decode cX10_planned 0 = .ok (.aload_n 0, 1) := by decide +kernel
theorem dX10_planned_1 : decode cX10_planned 1 = .ok (.iload_n 1, 1) := by decide +kernel
theorem dX10_planned_2 : decode cX10_planned 2 = .ok (.invokevirtual 199, 3) := by decide +kernel
theorem dX10_planned_5 : decode cX10_planned 5 = .ok (.ifCond .ge 5, 3) := by decide +kernel
theorem dX10_planned_8 : decode cX10_planned 8 = .ok (.iconst (-1), 1) := by decide +kernel
theorem dX10_planned_9 : decode cX10_planned 9 = .ok (.ireturn, 1) := by decide +kernel
theorem dX10_planned_10 : decode cX10_planned 10 = .ok (.aload_n 0, 1) := by decide +kernel
theorem dX10_planned_11 : decode cX10_planned 11 = .ok (.getfield 53, 3) := by decide +kernel
theorem dX10_planned_14 : decode cX10_planned 14 = .ok (.iload_n 2, 1) := by decide +kernel
theorem dX10_planned_15 : decode cX10_planned 15 = .ok (.invokevirtual 203, 3) := by decide +kernel
theorem dX10_planned_18 : decode cX10_planned 18 = .ok (.ireturn, 1) := by decide +kernel
theorem dX10_keep_0 : decode cX10_keep 0 = .ok (.aload_n 0, 1) := by decide +kernel
theorem dX10_keep_1 : decode cX10_keep 1 = .ok (.aload_n 0, 1) := by decide +kernel
theorem dX10_keep_2 : decode cX10_keep 2 = .ok (.getfield 113, 3) := by decide +kernel
theorem dX10_keep_5 : decode cX10_keep 5 = .ok (.invokevirtual 199, 3) := by decide +kernel
theorem dX10_keep_8 : decode cX10_keep 8 = .ok (.istore_n 1, 1) := by decide +kernel
theorem dX10_keep_9 : decode cX10_keep 9 = .ok (.iload_n 1, 1) := by decide +kernel
theorem dX10_keep_10 : decode cX10_keep 10 = .ok (.ifCond .lt 7, 3) := by decide +kernel
theorem dX10_keep_13 : decode cX10_keep 13 = .ok (.aload_n 0, 1) := by decide +kernel
theorem dX10_keep_14 : decode cX10_keep 14 = .ok (.invokevirtual 206, 3) := by decide +kernel
theorem dX10_keep_17 : decode cX10_keep 17 = .ok (.iload_n 1, 1) := by decide +kernel
theorem dX10_keep_18 : decode cX10_keep 18 = .ok (.ireturn, 1) := by decide +kernel
theorem dX10_make_0 : decode cX10_make 0 = .ok (.aload_n 0, 1) := by decide +kernel
theorem dX10_make_1 : decode cX10_make 1 = .ok (.getfield 10, 3) := by decide +kernel
theorem dX10_make_4 : decode cX10_make 4 = .ok (.getfield 194, 3) := by decide +kernel
theorem dX10_make_7 : decode cX10_make 7 = .ok (.ifCond .ne 5, 3) := by decide +kernel
theorem dX10_make_10 : decode cX10_make 10 = .ok (.iconst (-1), 1) := by decide +kernel
theorem dX10_make_11 : decode cX10_make 11 = .ok (.ireturn, 1) := by decide +kernel
theorem dX10_make_12 : decode cX10_make 12 = .ok (.aload_n 0, 1) := by decide +kernel
theorem dX10_make_13 : decode cX10_make 13 = .ok (.getfield 44, 3) := by decide +kernel
theorem dX10_make_16 : decode cX10_make 16 = .ok (.aload_n 0, 1) := by decide +kernel
theorem dX10_make_17 : decode cX10_make 17 = .ok (.getfield 94, 3) := by decide +kernel
theorem dX10_make_20 : decode cX10_make 20 = .ok (.aload_n 0, 1) := by decide +kernel
theorem dX10_make_21 : decode cX10_make 21 = .ok (.getfield 113, 3) := by decide +kernel
theorem dX10_make_24 : decode cX10_make 24 = .ok (.invokevirtual 186, 3) := by decide +kernel
theorem dX10_make_27 : decode cX10_make 27 = .ok (.aload_n 0, 1) := by decide +kernel
theorem dX10_make_28 : decode cX10_make 28 = .ok (.getfield 60, 3) := by decide +kernel
theorem dX10_make_31 : decode cX10_make 31 = .ok (.invokevirtual 209, 3) := by decide +kernel
theorem dX10_make_34 : decode cX10_make 34 = .ok (.ifCond .ne 6, 3) := by decide +kernel
theorem dX10_make_37 : decode cX10_make 37 = .ok (.bipush (-2), 2) := by decide +kernel
theorem dX10_make_39 : decode cX10_make 39 = .ok (.ireturn, 1) := by decide +kernel
theorem dX10_make_40 : decode cX10_make 40 = .ok (.aload_n 0, 1) := by decide +kernel
theorem dX10_make_41 : decode cX10_make 41 = .ok (.getfield 60, 3) := by decide +kernel
theorem dX10_make_44 : decode cX10_make 44 = .ok (.invokevirtual 213, 3) := by decide +kernel
theorem dX10_make_47 : decode cX10_make 47 = .ok (.aload_n 0, 1) := by decide +kernel
theorem dX10_make_48 : decode cX10_make 48 = .ok (.aload_n 0, 1) := by decide +kernel
theorem dX10_make_49 : decode cX10_make 49 = .ok (.getfield 60, 3) := by decide +kernel
theorem dX10_make_52 : decode cX10_make 52 = .ok (.getfield 216, 3) := by decide +kernel
theorem dX10_make_55 : decode cX10_make 55 = .ok (.putfield 101, 3) := by decide +kernel
theorem dX10_make_58 : decode cX10_make 58 = .ok (.iconst 0, 1) := by decide +kernel
theorem dX10_make_59 : decode cX10_make 59 = .ok (.istore_n 1, 1) := by decide +kernel
theorem dX10_make_60 : decode cX10_make 60 = .ok (.iload_n 1, 1) := by decide +kernel
theorem dX10_make_61 : decode cX10_make 61 = .ok (.aload_n 0, 1) := by decide +kernel
theorem dX10_make_62 : decode cX10_make 62 = .ok (.getfield 10, 3) := by decide +kernel
theorem dX10_make_65 : decode cX10_make 65 = .ok (.getfield 194, 3) := by decide +kernel
theorem dX10_make_68 : decode cX10_make 68 = .ok (.if_icmp .ge 24, 3) := by decide +kernel
theorem dX10_make_71 : decode cX10_make 71 = .ok (.aload_n 0, 1) := by decide +kernel
theorem dX10_make_72 : decode cX10_make 72 = .ok (.getfield 78, 3) := by decide +kernel
theorem dX10_make_75 : decode cX10_make 75 = .ok (.iload_n 1, 1) := by decide +kernel
theorem dX10_make_76 : decode cX10_make 76 = .ok (.aload_n 0, 1) := by decide +kernel
theorem dX10_make_77 : decode cX10_make 77 = .ok (.getfield 60, 3) := by decide +kernel
theorem dX10_make_80 : decode cX10_make 80 = .ok (.getfield 219, 3) := by decide +kernel
theorem dX10_make_83 : decode cX10_make 83 = .ok (.iload_n 1, 1) := by decide +kernel
theorem dX10_make_84 : decode cX10_make 84 = .ok (.iaload, 1) := by decide +kernel
theorem dX10_make_85 : decode cX10_make 85 = .ok (.iastore, 1) := by decide +kernel
theorem dX10_make_86 : decode cX10_make 86 = .ok (.iinc 1 1, 3) := by decide +kernel
theorem dX10_make_89 : decode cX10_make 89 = .ok (.goto (-29), 3) := by decide +kernel
theorem dX10_make_92 : decode cX10_make 92 = .ok (.aload_n 0, 1) := by decide +kernel
theorem dX10_make_93 : decode cX10_make 93 = .ok (.getfield 60, 3) := by decide +kernel
theorem dX10_make_96 : decode cX10_make 96 = .ok (.getfield 222, 3) := by decide +kernel
theorem dX10_make_99 : decode cX10_make 99 = .ok (.ifCond .eq 8, 3) := by decide +kernel
theorem dX10_make_102 : decode cX10_make 102 = .ok (.bipush (-4), 2) := by decide +kernel
theorem dX10_make_104 : decode cX10_make 104 = .ok (.goto 10, 3) := by decide +kernel
theorem dX10_make_107 : decode cX10_make 107 = .ok (.aload_n 0, 1) := by decide +kernel
theorem dX10_make_108 : decode cX10_make 108 = .ok (.getfield 60, 3) := by decide +kernel
theorem dX10_make_111 : decode cX10_make 111 = .ok (.getfield 225, 3) := by decide +kernel
theorem dX10_make_114 : decode cX10_make 114 = .ok (.ireturn, 1) := by decide +kernel
theorem dX10_steps_0 : decode cX10_steps 0 = .ok (.aload_n 0, 1) := by decide +kernel
theorem dX10_steps_1 : decode cX10_steps 1 = .ok (.getfield 101, 3) := by decide +kernel
theorem dX10_steps_4 : decode cX10_steps 4 = .ok (.ireturn, 1) := by decide +kernel
theorem dX10_late_0 : decode cX10_late 0 = .ok (.aload_n 0, 1) := by decide +kernel
theorem dX10_late_1 : decode cX10_late 1 = .ok (.getfield 10, 3) := by decide +kernel
theorem dX10_late_4 : decode cX10_late 4 = .ok (.iload_n 1, 1) := by decide +kernel
theorem dX10_late_5 : decode cX10_late 5 = .ok (.invokevirtual 120, 3) := by decide +kernel
theorem dX10_late_8 : decode cX10_late 8 = .ok (.ifCond .eq 13, 3) := by decide +kernel
theorem dX10_late_11 : decode cX10_late 11 = .ok (.aload_n 0, 1) := by decide +kernel
theorem dX10_late_12 : decode cX10_late 12 = .ok (.getfield 78, 3) := by decide +kernel
theorem dX10_late_15 : decode cX10_late 15 = .ok (.iload_n 1, 1) := by decide +kernel
theorem dX10_late_16 : decode cX10_late 16 = .ok (.iaload, 1) := by decide +kernel
theorem dX10_late_17 : decode cX10_late 17 = .ok (.iconst (-1), 1) := by decide +kernel
theorem dX10_late_18 : decode cX10_late 18 = .ok (.if_icmp .eq 5, 3) := by decide +kernel
theorem dX10_late_21 : decode cX10_late 21 = .ok (.iconst (-1), 1) := by decide +kernel
theorem dX10_late_22 : decode cX10_late 22 = .ok (.ireturn, 1) := by decide +kernel
theorem dX10_late_23 : decode cX10_late 23 = .ok (.aload_n 0, 1) := by decide +kernel
theorem dX10_late_24 : decode cX10_late 24 = .ok (.getfield 44, 3) := by decide +kernel
theorem dX10_late_27 : decode cX10_late 27 = .ok (.aload_n 0, 1) := by decide +kernel
theorem dX10_late_28 : decode cX10_late 28 = .ok (.getfield 94, 3) := by decide +kernel
theorem dX10_late_31 : decode cX10_late 31 = .ok (.aload_n 0, 1) := by decide +kernel
theorem dX10_late_32 : decode cX10_late 32 = .ok (.getfield 113, 3) := by decide +kernel
theorem dX10_late_35 : decode cX10_late 35 = .ok (.invokevirtual 186, 3) := by decide +kernel
theorem dX10_late_38 : decode cX10_late 38 = .ok (.aload_n 0, 1) := by decide +kernel
theorem dX10_late_39 : decode cX10_late 39 = .ok (.invokevirtual 228, 3) := by decide +kernel
theorem dX10_late_42 : decode cX10_late 42 = .ok (.bipush (-2), 2) := by decide +kernel
theorem dX10_late_44 : decode cX10_late 44 = .ok (.istore_n 2, 1) := by decide +kernel
theorem dX10_late_45 : decode cX10_late 45 = .ok (.iconst 0, 1) := by decide +kernel
theorem dX10_late_46 : decode cX10_late 46 = .ok (.istore_n 3, 1) := by decide +kernel
theorem dX10_late_47 : decode cX10_late 47 = .ok (.iconst 0, 1) := by decide +kernel
theorem dX10_late_48 : decode cX10_late 48 = .ok (.istore 4, 2) := by decide +kernel
theorem dX10_late_50 : decode cX10_late 50 = .ok (.iload 4, 2) := by decide +kernel
theorem dX10_late_52 : decode cX10_late 52 = .ok (.aload_n 0, 1) := by decide +kernel
theorem dX10_late_53 : decode cX10_late 53 = .ok (.getfield 10, 3) := by decide +kernel
theorem dX10_late_56 : decode cX10_late 56 = .ok (.getfield 151, 3) := by decide +kernel
theorem dX10_late_59 : decode cX10_late 59 = .ok (.if_icmp .ge 80, 3) := by decide +kernel
theorem dX10_late_62 : decode cX10_late 62 = .ok (.aload_n 0, 1) := by decide +kernel
theorem dX10_late_63 : decode cX10_late 63 = .ok (.getfield 88, 3) := by decide +kernel
theorem dX10_late_66 : decode cX10_late 66 = .ok (.iload 4, 2) := by decide +kernel
theorem dX10_late_68 : decode cX10_late 68 = .ok (.dup2, 1) := by decide +kernel
theorem dX10_late_69 : decode cX10_late 69 = .ok (.iaload, 1) := by decide +kernel
theorem dX10_late_70 : decode cX10_late 70 = .ok (.iconst 1, 1) := by decide +kernel
theorem dX10_late_71 : decode cX10_late 71 = .ok (.iload_n 1, 1) := by decide +kernel
theorem dX10_late_72 : decode cX10_late 72 = .ok (.ishl, 1) := by decide +kernel
theorem dX10_late_73 : decode cX10_late 73 = .ok (.ior, 1) := by decide +kernel
theorem dX10_late_74 : decode cX10_late 74 = .ok (.iastore, 1) := by decide +kernel
theorem dX10_late_75 : decode cX10_late 75 = .ok (.aload_n 0, 1) := by decide +kernel
theorem dX10_late_76 : decode cX10_late 76 = .ok (.getfield 44, 3) := by decide +kernel
theorem dX10_late_79 : decode cX10_late 79 = .ok (.aload_n 0, 1) := by decide +kernel
theorem dX10_late_80 : decode cX10_late 80 = .ok (.getfield 88, 3) := by decide +kernel
theorem dX10_late_83 : decode cX10_late 83 = .ok (.invokevirtual 231, 3) := by decide +kernel
theorem dX10_late_86 : decode cX10_late 86 = .ok (.ifCond .eq 32, 3) := by decide +kernel
theorem dX10_late_89 : decode cX10_late 89 = .ok (.aload_n 0, 1) := by decide +kernel
theorem dX10_late_90 : decode cX10_late 90 = .ok (.getfield 44, 3) := by decide +kernel
theorem dX10_late_93 : decode cX10_late 93 = .ok (.aload_n 0, 1) := by decide +kernel
theorem dX10_late_94 : decode cX10_late 94 = .ok (.getfield 88, 3) := by decide +kernel
theorem dX10_late_97 : decode cX10_late 97 = .ok (.invokevirtual 235, 3) := by decide +kernel
theorem dX10_late_100 : decode cX10_late 100 = .ok (.istore 5, 2) := by decide +kernel
theorem dX10_late_102 : decode cX10_late 102 = .ok (.iload_n 2, 1) := by decide +kernel
theorem dX10_late_103 : decode cX10_late 103 = .ok (.ifCond .lt 9, 3) := by decide +kernel
theorem dX10_late_106 : decode cX10_late 106 = .ok (.iload 5, 2) := by decide +kernel
theorem dX10_late_108 : decode cX10_late 108 = .ok (.iload_n 3, 1) := by decide +kernel
theorem dX10_late_109 : decode cX10_late 109 = .ok (.if_icmp .ge 9, 3) := by decide +kernel
theorem dX10_late_112 : decode cX10_late 112 = .ok (.iload 4, 2) := by decide +kernel
theorem dX10_late_114 : decode cX10_late 114 = .ok (.istore_n 2, 1) := by decide +kernel
theorem dX10_late_115 : decode cX10_late 115 = .ok (.iload 5, 2) := by decide +kernel
theorem dX10_late_117 : decode cX10_late 117 = .ok (.istore_n 3, 1) := by decide +kernel
theorem dX10_late_118 : decode cX10_late 118 = .ok (.aload_n 0, 1) := by decide +kernel
theorem dX10_late_119 : decode cX10_late 119 = .ok (.getfield 88, 3) := by decide +kernel
theorem dX10_late_122 : decode cX10_late 122 = .ok (.iload 4, 2) := by decide +kernel
theorem dX10_late_124 : decode cX10_late 124 = .ok (.dup2, 1) := by decide +kernel
theorem dX10_late_125 : decode cX10_late 125 = .ok (.iaload, 1) := by decide +kernel
theorem dX10_late_126 : decode cX10_late 126 = .ok (.iconst 1, 1) := by decide +kernel
theorem dX10_late_127 : decode cX10_late 127 = .ok (.iload_n 1, 1) := by decide +kernel
theorem dX10_late_128 : decode cX10_late 128 = .ok (.ishl, 1) := by decide +kernel
theorem dX10_late_129 : decode cX10_late 129 = .ok (.iconst (-1), 1) := by decide +kernel
theorem dX10_late_130 : decode cX10_late 130 = .ok (.ixor, 1) := by decide +kernel
theorem dX10_late_131 : decode cX10_late 131 = .ok (.iand, 1) := by decide +kernel
theorem dX10_late_132 : decode cX10_late 132 = .ok (.iastore, 1) := by decide +kernel
theorem dX10_late_133 : decode cX10_late 133 = .ok (.iinc 4 1, 3) := by decide +kernel
theorem dX10_late_136 : decode cX10_late 136 = .ok (.goto (-86), 3) := by decide +kernel
theorem dX10_late_139 : decode cX10_late 139 = .ok (.iload_n 2, 1) := by decide +kernel
theorem dX10_late_140 : decode cX10_late 140 = .ok (.ifCond .lt 10, 3) := by decide +kernel
theorem dX10_late_143 : decode cX10_late 143 = .ok (.aload_n 0, 1) := by decide +kernel
theorem dX10_late_144 : decode cX10_late 144 = .ok (.getfield 78, 3) := by decide +kernel
theorem dX10_late_147 : decode cX10_late 147 = .ok (.iload_n 1, 1) := by decide +kernel
theorem dX10_late_148 : decode cX10_late 148 = .ok (.iload_n 2, 1) := by decide +kernel
theorem dX10_late_149 : decode cX10_late 149 = .ok (.iastore, 1) := by decide +kernel
theorem dX10_late_150 : decode cX10_late 150 = .ok (.iload_n 2, 1) := by decide +kernel
theorem dX10_late_151 : decode cX10_late 151 = .ok (.ireturn, 1) := by decide +kernel
theorem dX10_change_0 : decode cX10_change 0 = .ok (.aload_n 0, 1) := by decide +kernel
theorem dX10_change_1 : decode cX10_change 1 = .ok (.invokevirtual 239, 3) := by decide +kernel
theorem dX10_change_4 : decode cX10_change 4 = .ok (.istore_n 1, 1) := by decide +kernel
theorem dX10_change_5 : decode cX10_change 5 = .ok (.iload_n 1, 1) := by decide +kernel
theorem dX10_change_6 : decode cX10_change 6 = .ok (.ifCond .ne 5, 3) := by decide +kernel
theorem dX10_change_9 : decode cX10_change 9 = .ok (.iconst (-1), 1) := by decide +kernel
theorem dX10_change_10 : decode cX10_change 10 = .ok (.ireturn, 1) := by decide +kernel
theorem dX10_change_11 : decode cX10_change 11 = .ok (.iload_n 1, 1) := by decide +kernel
theorem dX10_change_12 : decode cX10_change 12 = .ok (.bipush 9, 2) := by decide +kernel
theorem dX10_change_14 : decode cX10_change 14 = .ok (.if_icmp .le 6, 3) := by decide +kernel
theorem dX10_change_17 : decode cX10_change 17 = .ok (.bipush (-3), 2) := by decide +kernel
theorem dX10_change_19 : decode cX10_change 19 = .ok (.ireturn, 1) := by decide +kernel
theorem dX10_change_20 : decode cX10_change 20 = .ok (.aload_n 0, 1) := by decide +kernel
theorem dX10_change_21 : decode cX10_change 21 = .ok (.iconst 0, 1) := by decide +kernel
theorem dX10_change_22 : decode cX10_change 22 = .ok (.putfield 109, 3) := by decide +kernel
theorem dX10_change_25 : decode cX10_change 25 = .ok (.aload_n 0, 1) := by decide +kernel
theorem dX10_change_26 : decode cX10_change 26 = .ok (.getfield 44, 3) := by decide +kernel
theorem dX10_change_29 : decode cX10_change 29 = .ok (.aload_n 0, 1) := by decide +kernel
theorem dX10_change_30 : decode cX10_change 30 = .ok (.getfield 94, 3) := by decide +kernel
theorem dX10_change_33 : decode cX10_change 33 = .ok (.aload_n 0, 1) := by decide +kernel
theorem dX10_change_34 : decode cX10_change 34 = .ok (.getfield 113, 3) := by decide +kernel
theorem dX10_change_37 : decode cX10_change 37 = .ok (.invokevirtual 186, 3) := by decide +kernel
theorem dX10_change_40 : decode cX10_change 40 = .ok (.aload_n 0, 1) := by decide +kernel
theorem dX10_change_41 : decode cX10_change 41 = .ok (.getfield 53, 3) := by decide +kernel
theorem dX10_change_44 : decode cX10_change 44 = .ok (.invokevirtual 243, 3) := by decide +kernel
theorem dX10_change_47 : decode cX10_change 47 = .ok (.iconst 0, 1) := by decide +kernel
theorem dX10_change_48 : decode cX10_change 48 = .ok (.istore_n 2, 1) := by decide +kernel
theorem dX10_change_49 : decode cX10_change 49 = .ok (.iload_n 2, 1) := by decide +kernel
theorem dX10_change_50 : decode cX10_change 50 = .ok (.aload_n 0, 1) := by decide +kernel
theorem dX10_change_51 : decode cX10_change 51 = .ok (.getfield 10, 3) := by decide +kernel
theorem dX10_change_54 : decode cX10_change 54 = .ok (.getfield 194, 3) := by decide +kernel
theorem dX10_change_57 : decode cX10_change 57 = .ok (.if_icmp .ge 33, 3) := by decide +kernel
theorem dX10_change_60 : decode cX10_change 60 = .ok (.aload_n 0, 1) := by decide +kernel
theorem dX10_change_61 : decode cX10_change 61 = .ok (.getfield 78, 3) := by decide +kernel
theorem dX10_change_64 : decode cX10_change 64 = .ok (.iload_n 2, 1) := by decide +kernel
theorem dX10_change_65 : decode cX10_change 65 = .ok (.iaload, 1) := by decide +kernel
theorem dX10_change_66 : decode cX10_change 66 = .ok (.iconst (-1), 1) := by decide +kernel
theorem dX10_change_67 : decode cX10_change 67 = .ok (.if_icmp .eq 17, 3) := by decide +kernel
theorem dX10_change_70 : decode cX10_change 70 = .ok (.aload_n 0, 1) := by decide +kernel
theorem dX10_change_71 : decode cX10_change 71 = .ok (.getfield 53, 3) := by decide +kernel
theorem dX10_change_74 : decode cX10_change 74 = .ok (.iload_n 2, 1) := by decide +kernel
theorem dX10_change_75 : decode cX10_change 75 = .ok (.aload_n 0, 1) := by decide +kernel
theorem dX10_change_76 : decode cX10_change 76 = .ok (.getfield 78, 3) := by decide +kernel
theorem dX10_change_79 : decode cX10_change 79 = .ok (.iload_n 2, 1) := by decide +kernel
theorem dX10_change_80 : decode cX10_change 80 = .ok (.iaload, 1) := by decide +kernel
theorem dX10_change_81 : decode cX10_change 81 = .ok (.invokevirtual 246, 3) := by decide +kernel
theorem dX10_change_84 : decode cX10_change 84 = .ok (.iinc 2 1, 3) := by decide +kernel
theorem dX10_change_87 : decode cX10_change 87 = .ok (.goto (-38), 3) := by decide +kernel
theorem dX10_change_90 : decode cX10_change 90 = .ok (.aload_n 0, 1) := by decide +kernel
theorem dX10_change_91 : decode cX10_change 91 = .ok (.getfield 53, 3) := by decide +kernel
theorem dX10_change_94 : decode cX10_change 94 = .ok (.invokevirtual 249, 3) := by decide +kernel
theorem dX10_change_97 : decode cX10_change 97 = .ok (.aload_n 0, 1) := by decide +kernel
theorem dX10_change_98 : decode cX10_change 98 = .ok (.getfield 53, 3) := by decide +kernel
theorem dX10_change_101 : decode cX10_change 101 = .ok (.getfield 252, 3) := by decide +kernel
theorem dX10_change_104 : decode cX10_change 104 = .ok (.ifCond .ne 6, 3) := by decide +kernel
theorem dX10_change_107 : decode cX10_change 107 = .ok (.bipush (-2), 2) := by decide +kernel
theorem dX10_change_109 : decode cX10_change 109 = .ok (.ireturn, 1) := by decide +kernel
theorem dX10_change_110 : decode cX10_change 110 = .ok (.aload_n 0, 1) := by decide +kernel
theorem dX10_change_111 : decode cX10_change 111 = .ok (.invokevirtual 206, 3) := by decide +kernel
theorem dX10_change_114 : decode cX10_change 114 = .ok (.aload_n 0, 1) := by decide +kernel
theorem dX10_change_115 : decode cX10_change 115 = .ok (.getfield 53, 3) := by decide +kernel
theorem dX10_change_118 : decode cX10_change 118 = .ok (.getfield 255, 3) := by decide +kernel
theorem dX10_change_121 : decode cX10_change 121 = .ok (.ireturn, 1) := by decide +kernel
theorem dX10_classOf_0 : decode cX10_classOf 0 = .ok (.aload_n 0, 1) := by decide +kernel
theorem dX10_classOf_1 : decode cX10_classOf 1 = .ok (.getfield 10, 3) := by decide +kernel
theorem dX10_classOf_4 : decode cX10_classOf 4 = .ok (.iload_n 1, 1) := by decide +kernel
theorem dX10_classOf_5 : decode cX10_classOf 5 = .ok (.invokevirtual 120, 3) := by decide +kernel
theorem dX10_classOf_8 : decode cX10_classOf 8 = .ok (.ifCond .eq 12, 3) := by decide +kernel
theorem dX10_classOf_11 : decode cX10_classOf 11 = .ok (.aload_n 0, 1) := by decide +kernel
theorem dX10_classOf_12 : decode cX10_classOf 12 = .ok (.getfield 78, 3) := by decide +kernel
theorem dX10_classOf_15 : decode cX10_classOf 15 = .ok (.iload_n 1, 1) := by decide +kernel
theorem dX10_classOf_16 : decode cX10_classOf 16 = .ok (.iaload, 1) := by decide +kernel
theorem dX10_classOf_17 : decode cX10_classOf 17 = .ok (.goto 4, 3) := by decide +kernel
theorem dX10_classOf_20 : decode cX10_classOf 20 = .ok (.iconst (-1), 1) := by decide +kernel
theorem dX10_classOf_21 : decode cX10_classOf 21 = .ok (.ireturn, 1) := by decide +kernel
theorem dX10_was_0 : decode cX10_was 0 = .ok (.aload_n 0, 1) := by decide +kernel
theorem dX10_was_1 : decode cX10_was 1 = .ok (.getfield 10, 3) := by decide +kernel
theorem dX10_was_4 : decode cX10_was 4 = .ok (.iload_n 1, 1) := by decide +kernel
theorem dX10_was_5 : decode cX10_was 5 = .ok (.invokevirtual 120, 3) := by decide +kernel
theorem dX10_was_8 : decode cX10_was 8 = .ok (.ifCond .eq 11, 3) := by decide +kernel
theorem dX10_was_11 : decode cX10_was 11 = .ok (.aload_n 0, 1) := by decide +kernel
theorem dX10_was_12 : decode cX10_was 12 = .ok (.iload_n 2, 1) := by decide +kernel
theorem dX10_was_13 : decode cX10_was 13 = .ok (.invokevirtual 180, 3) := by decide +kernel
theorem dX10_was_16 : decode cX10_was 16 = .ok (.ifCond .ne 5, 3) := by decide +kernel
theorem dX10_was_19 : decode cX10_was 19 = .ok (.iconst (-1), 1) := by decide +kernel
theorem dX10_was_20 : decode cX10_was 20 = .ok (.ireturn, 1) := by decide +kernel
theorem dX10_was_21 : decode cX10_was 21 = .ok (.iload_n 2, 1) := by decide +kernel
theorem dX10_was_22 : decode cX10_was 22 = .ok (.aload_n 0, 1) := by decide +kernel
theorem dX10_was_23 : decode cX10_was 23 = .ok (.getfield 113, 3) := by decide +kernel
theorem dX10_was_26 : decode cX10_was 26 = .ok (.if_icmp .ne 12, 3) := by decide +kernel
theorem dX10_was_29 : decode cX10_was 29 = .ok (.aload_n 0, 1) := by decide +kernel
theorem dX10_was_30 : decode cX10_was 30 = .ok (.getfield 78, 3) := by decide +kernel
theorem dX10_was_33 : decode cX10_was 33 = .ok (.iload_n 1, 1) := by decide +kernel
theorem dX10_was_34 : decode cX10_was 34 = .ok (.iaload, 1) := by decide +kernel
theorem dX10_was_35 : decode cX10_was 35 = .ok (.goto 12, 3) := by decide +kernel
theorem dX10_was_38 : decode cX10_was 38 = .ok (.aload_n 0, 1) := by decide +kernel
theorem dX10_was_39 : decode cX10_was 39 = .ok (.getfield 74, 3) := by decide +kernel
theorem dX10_was_42 : decode cX10_was 42 = .ok (.iload_n 1, 1) := by decide +kernel
theorem dX10_was_43 : decode cX10_was 43 = .ok (.iload_n 2, 1) := by decide +kernel
theorem dX10_was_44 : decode cX10_was 44 = .ok (.invokevirtual 258, 3) := by decide +kernel
theorem dX10_was_47 : decode cX10_was 47 = .ok (.ireturn, 1) := by decide +kernel
theorem dX10_served_0 : decode cX10_served 0 = .ok (.aload_n 0, 1) := by decide +kernel
theorem dX10_served_1 : decode cX10_served 1 = .ok (.getfield 10, 3) := by decide +kernel
theorem dX10_served_4 : decode cX10_served 4 = .ok (.iload_n 1, 1) := by decide +kernel
theorem dX10_served_5 : decode cX10_served 5 = .ok (.invokevirtual 120, 3) := by decide +kernel
theorem dX10_served_8 : decode cX10_served 8 = .ok (.ifCond .eq 13, 3) := by decide +kernel
theorem dX10_served_11 : decode cX10_served 11 = .ok (.aload_n 0, 1) := by decide +kernel
theorem dX10_served_12 : decode cX10_served 12 = .ok (.getfield 78, 3) := by decide +kernel
theorem dX10_served_15 : decode cX10_served 15 = .ok (.iload_n 1, 1) := by decide +kernel
theorem dX10_served_16 : decode cX10_served 16 = .ok (.iaload, 1) := by decide +kernel
theorem dX10_served_17 : decode cX10_served 17 = .ok (.iconst (-1), 1) := by decide +kernel
theorem dX10_served_18 : decode cX10_served 18 = .ok (.if_icmp .ne 5, 3) := by decide +kernel
theorem dX10_served_21 : decode cX10_served 21 = .ok (.iconst (-1), 1) := by decide +kernel
theorem dX10_served_22 : decode cX10_served 22 = .ok (.ireturn, 1) := by decide +kernel
theorem dX10_served_23 : decode cX10_served 23 = .ok (.aload_n 0, 1) := by decide +kernel
theorem dX10_served_24 : decode cX10_served 24 = .ok (.invokevirtual 228, 3) := by decide +kernel
theorem dX10_served_27 : decode cX10_served 27 = .ok (.aload_n 0, 1) := by decide +kernel
theorem dX10_served_28 : decode cX10_served 28 = .ok (.getfield 10, 3) := by decide +kernel
theorem dX10_served_31 : decode cX10_served 31 = .ok (.iload_n 1, 1) := by decide +kernel
theorem dX10_served_32 : decode cX10_served 32 = .ok (.aload_n 0, 1) := by decide +kernel
theorem dX10_served_33 : decode cX10_served 33 = .ok (.getfield 88, 3) := by decide +kernel
theorem dX10_served_36 : decode cX10_served 36 = .ok (.aload_n 0, 1) := by decide +kernel
theorem dX10_served_37 : decode cX10_served 37 = .ok (.getfield 78, 3) := by decide +kernel
theorem dX10_served_40 : decode cX10_served 40 = .ok (.iload_n 1, 1) := by decide +kernel
theorem dX10_served_41 : decode cX10_served 41 = .ok (.iaload, 1) := by decide +kernel
theorem dX10_served_42 : decode cX10_served 42 = .ok (.iaload, 1) := by decide +kernel
theorem dX10_served_43 : decode cX10_served 43 = .ok (.invokevirtual 262, 3) := by decide +kernel
theorem dX10_served_46 : decode cX10_served 46 = .ok (.ireturn, 1) := by decide +kernel
theorem dX10_harm_0 : decode cX10_harm 0 = .ok (.aload_n 0, 1) := by decide +kernel
theorem dX10_harm_1 : decode cX10_harm 1 = .ok (.invokevirtual 239, 3) := by decide +kernel
theorem dX10_harm_4 : decode cX10_harm 4 = .ok (.ifCond .eq 20, 3) := by decide +kernel
theorem dX10_harm_7 : decode cX10_harm 7 = .ok (.iload_n 1, 1) := by decide +kernel
theorem dX10_harm_8 : decode cX10_harm 8 = .ok (.iconst (-1), 1) := by decide +kernel
theorem dX10_harm_9 : decode cX10_harm 9 = .ok (.aload_n 0, 1) := by decide +kernel
theorem dX10_harm_10 : decode cX10_harm 10 = .ok (.getfield 94, 3) := by decide +kernel
theorem dX10_harm_13 : decode cX10_harm 13 = .ok (.getfield 174, 3) := by decide +kernel
theorem dX10_harm_16 : decode cX10_harm 16 = .ok (.iconst 1, 1) := by decide +kernel
theorem dX10_harm_17 : decode cX10_harm 17 = .ok (.isub, 1) := by decide +kernel
theorem dX10_harm_18 : decode cX10_harm 18 = .ok (.invokestatic 105, 3) := by decide +kernel
theorem dX10_harm_21 : decode cX10_harm 21 = .ok (.ifCond .ne 5, 3) := by decide +kernel
theorem dX10_harm_24 : decode cX10_harm 24 = .ok (.iconst (-1), 1) := by decide +kernel
theorem dX10_harm_25 : decode cX10_harm 25 = .ok (.ireturn, 1) := by decide +kernel
theorem dX10_harm_26 : decode cX10_harm 26 = .ok (.aload_n 0, 1) := by decide +kernel
theorem dX10_harm_27 : decode cX10_harm 27 = .ok (.getfield 44, 3) := by decide +kernel
theorem dX10_harm_30 : decode cX10_harm 30 = .ok (.aload_n 0, 1) := by decide +kernel
theorem dX10_harm_31 : decode cX10_harm 31 = .ok (.getfield 94, 3) := by decide +kernel
theorem dX10_harm_34 : decode cX10_harm 34 = .ok (.aload_n 0, 1) := by decide +kernel
theorem dX10_harm_35 : decode cX10_harm 35 = .ok (.getfield 113, 3) := by decide +kernel
theorem dX10_harm_38 : decode cX10_harm 38 = .ok (.invokevirtual 186, 3) := by decide +kernel
theorem dX10_harm_41 : decode cX10_harm 41 = .ok (.aload_n 0, 1) := by decide +kernel
theorem dX10_harm_42 : decode cX10_harm 42 = .ok (.invokevirtual 228, 3) := by decide +kernel
theorem dX10_harm_45 : decode cX10_harm 45 = .ok (.iload_n 1, 1) := by decide +kernel
theorem dX10_harm_46 : decode cX10_harm 46 = .ok (.iconst (-1), 1) := by decide +kernel
theorem dX10_harm_47 : decode cX10_harm 47 = .ok (.if_icmp .ne 17, 3) := by decide +kernel
theorem dX10_harm_50 : decode cX10_harm 50 = .ok (.aload_n 0, 1) := by decide +kernel
theorem dX10_harm_51 : decode cX10_harm 51 = .ok (.getfield 44, 3) := by decide +kernel
theorem dX10_harm_54 : decode cX10_harm 54 = .ok (.aload_n 0, 1) := by decide +kernel
theorem dX10_harm_55 : decode cX10_harm 55 = .ok (.getfield 88, 3) := by decide +kernel
theorem dX10_harm_58 : decode cX10_harm 58 = .ok (.invokevirtual 235, 3) := by decide +kernel
theorem dX10_harm_61 : decode cX10_harm 61 = .ok (.goto 15, 3) := by decide +kernel
theorem dX10_harm_64 : decode cX10_harm 64 = .ok (.aload_n 0, 1) := by decide +kernel
theorem dX10_harm_65 : decode cX10_harm 65 = .ok (.getfield 44, 3) := by decide +kernel
theorem dX10_harm_68 : decode cX10_harm 68 = .ok (.iload_n 1, 1) := by decide +kernel
theorem dX10_harm_69 : decode cX10_harm 69 = .ok (.aload_n 0, 1) := by decide +kernel
theorem dX10_harm_70 : decode cX10_harm 70 = .ok (.getfield 88, 3) := by decide +kernel
theorem dX10_harm_73 : decode cX10_harm 73 = .ok (.invokevirtual 265, 3) := by decide +kernel
theorem dX10_harm_76 : decode cX10_harm 76 = .ok (.ireturn, 1) := by decide +kernel
theorem dX10_allowed_0 : decode cX10_allowed 0 = .ok (.aload_n 0, 1) := by decide +kernel
theorem dX10_allowed_1 : decode cX10_allowed 1 = .ok (.invokevirtual 239, 3) := by decide +kernel
theorem dX10_allowed_4 : decode cX10_allowed 4 = .ok (.ifCond .eq 12, 3) := by decide +kernel
theorem dX10_allowed_7 : decode cX10_allowed 7 = .ok (.iload_n 1, 1) := by decide +kernel
theorem dX10_allowed_8 : decode cX10_allowed 8 = .ok (.iconst 0, 1) := by decide +kernel
theorem dX10_allowed_9 : decode cX10_allowed 9 = .ok (.iconst 1, 1) := by decide +kernel
theorem dX10_allowed_10 : decode cX10_allowed 10 = .ok (.invokestatic 105, 3) := by decide +kernel
theorem dX10_allowed_13 : decode cX10_allowed 13 = .ok (.ifCond .ne 5, 3) := by decide +kernel
theorem dX10_allowed_16 : decode cX10_allowed 16 = .ok (.iconst (-1), 1) := by decide +kernel
theorem dX10_allowed_17 : decode cX10_allowed 17 = .ok (.ireturn, 1) := by decide +kernel
theorem dX10_allowed_18 : decode cX10_allowed 18 = .ok (.aload_n 0, 1) := by decide +kernel
theorem dX10_allowed_19 : decode cX10_allowed 19 = .ok (.getfield 44, 3) := by decide +kernel
theorem dX10_allowed_22 : decode cX10_allowed 22 = .ok (.aload_n 0, 1) := by decide +kernel
theorem dX10_allowed_23 : decode cX10_allowed 23 = .ok (.getfield 94, 3) := by decide +kernel
theorem dX10_allowed_26 : decode cX10_allowed 26 = .ok (.aload_n 0, 1) := by decide +kernel
theorem dX10_allowed_27 : decode cX10_allowed 27 = .ok (.getfield 113, 3) := by decide +kernel
theorem dX10_allowed_30 : decode cX10_allowed 30 = .ok (.invokevirtual 186, 3) := by decide +kernel
theorem dX10_allowed_33 : decode cX10_allowed 33 = .ok (.aload_n 0, 1) := by decide +kernel
theorem dX10_allowed_34 : decode cX10_allowed 34 = .ok (.invokevirtual 228, 3) := by decide +kernel
theorem dX10_allowed_37 : decode cX10_allowed 37 = .ok (.iload_n 1, 1) := by decide +kernel
theorem dX10_allowed_38 : decode cX10_allowed 38 = .ok (.iconst 1, 1) := by decide +kernel
theorem dX10_allowed_39 : decode cX10_allowed 39 = .ok (.if_icmp .ne 15, 3) := by decide +kernel
theorem dX10_allowed_42 : decode cX10_allowed 42 = .ok (.aload_n 0, 1) := by decide +kernel
theorem dX10_allowed_43 : decode cX10_allowed 43 = .ok (.getfield 44, 3) := by decide +kernel
theorem dX10_allowed_46 : decode cX10_allowed 46 = .ok (.aload_n 0, 1) := by decide +kernel
theorem dX10_allowed_47 : decode cX10_allowed 47 = .ok (.getfield 88, 3) := by decide +kernel
theorem dX10_allowed_50 : decode cX10_allowed 50 = .ok (.invokevirtual 269, 3) := by decide +kernel
theorem dX10_allowed_53 : decode cX10_allowed 53 = .ok (.ireturn, 1) := by decide +kernel
theorem dX10_allowed_54 : decode cX10_allowed 54 = .ok (.aload_n 0, 1) := by decide +kernel
theorem dX10_allowed_55 : decode cX10_allowed 55 = .ok (.getfield 44, 3) := by decide +kernel
theorem dX10_allowed_58 : decode cX10_allowed 58 = .ok (.aload_n 0, 1) := by decide +kernel
theorem dX10_allowed_59 : decode cX10_allowed 59 = .ok (.getfield 88, 3) := by decide +kernel
theorem dX10_allowed_62 : decode cX10_allowed 62 = .ok (.invokevirtual 231, 3) := by decide +kernel
theorem dX10_allowed_65 : decode cX10_allowed 65 = .ok (.ifCond .eq 7, 3) := by decide +kernel
theorem dX10_allowed_68 : decode cX10_allowed 68 = .ok (.iconst 1, 1) := by decide +kernel
theorem dX10_allowed_69 : decode cX10_allowed 69 = .ok (.goto 4, 3) := by decide +kernel
theorem dX10_allowed_72 : decode cX10_allowed 72 = .ok (.iconst 0, 1) := by decide +kernel
theorem dX10_allowed_73 : decode cX10_allowed 73 = .ok (.ireturn, 1) := by decide +kernel
theorem dX10_swaps_0 : decode cX10_swaps 0 = .ok (.aload_n 0, 1) := by decide +kernel
theorem dX10_swaps_1 : decode cX10_swaps 1 = .ok (.iconst (-1), 1) := by decide +kernel
theorem dX10_swaps_2 : decode cX10_swaps 2 = .ok (.invokevirtual 272, 3) := by decide +kernel
theorem dX10_swaps_5 : decode cX10_swaps 5 = .ok (.ireturn, 1) := by decide +kernel
theorem dX10_swap_0 : decode cX10_swap 0 = .ok (.iload_n 1, 1) := by decide +kernel
theorem dX10_swap_1 : decode cX10_swap 1 = .ok (.ifCond .lt 12, 3) := by decide +kernel
theorem dX10_swap_4 : decode cX10_swap 4 = .ok (.iload_n 2, 1) := by decide +kernel
theorem dX10_swap_5 : decode cX10_swap 5 = .ok (.iconst 0, 1) := by decide +kernel
theorem dX10_swap_6 : decode cX10_swap 6 = .ok (.iconst 1, 1) := by decide +kernel
theorem dX10_swap_7 : decode cX10_swap 7 = .ok (.invokestatic 105, 3) := by decide +kernel
theorem dX10_swap_10 : decode cX10_swap 10 = .ok (.ifCond .ne 5, 3) := by decide +kernel
theorem dX10_swap_13 : decode cX10_swap 13 = .ok (.iconst (-1), 1) := by decide +kernel
theorem dX10_swap_14 : decode cX10_swap 14 = .ok (.ireturn, 1) := by decide +kernel
theorem dX10_swap_15 : decode cX10_swap 15 = .ok (.aload_n 0, 1) := by decide +kernel
theorem dX10_swap_16 : decode cX10_swap 16 = .ok (.iload_n 1, 1) := by decide +kernel
theorem dX10_swap_17 : decode cX10_swap 17 = .ok (.invokevirtual 272, 3) := by decide +kernel
theorem dX10_swap_20 : decode cX10_swap 20 = .ok (.istore_n 3, 1) := by decide +kernel
theorem dX10_swap_21 : decode cX10_swap 21 = .ok (.iload_n 3, 1) := by decide +kernel
theorem dX10_swap_22 : decode cX10_swap 22 = .ok (.iconst (-1), 1) := by decide +kernel
theorem dX10_swap_23 : decode cX10_swap 23 = .ok (.if_icmp .ne 5, 3) := by decide +kernel
theorem dX10_swap_26 : decode cX10_swap 26 = .ok (.iconst (-1), 1) := by decide +kernel
theorem dX10_swap_27 : decode cX10_swap 27 = .ok (.ireturn, 1) := by decide +kernel
theorem dX10_swap_28 : decode cX10_swap 28 = .ok (.iload_n 2, 1) := by decide +kernel
theorem dX10_swap_29 : decode cX10_swap 29 = .ok (.ifCond .ne 10, 3) := by decide +kernel
theorem dX10_swap_32 : decode cX10_swap 32 = .ok (.iload_n 3, 1) := by decide +kernel
theorem dX10_swap_33 : decode cX10_swap 33 = .ok (.bipush 14, 2) := by decide +kernel
theorem dX10_swap_35 : decode cX10_swap 35 = .ok (.idiv, 1) := by decide +kernel
theorem dX10_swap_36 : decode cX10_swap 36 = .ok (.goto 7, 3) := by decide +kernel
theorem dX10_swap_39 : decode cX10_swap 39 = .ok (.iload_n 3, 1) := by decide +kernel
theorem dX10_swap_40 : decode cX10_swap 40 = .ok (.bipush 14, 2) := by decide +kernel
theorem dX10_swap_42 : decode cX10_swap 42 = .ok (.irem, 1) := by decide +kernel
theorem dX10_swap_43 : decode cX10_swap 43 = .ok (.ireturn, 1) := by decide +kernel
theorem dX10_lie_0 : decode cX10_lie 0 = .ok (.aload_n 0, 1) := by decide +kernel
theorem dX10_lie_1 : decode cX10_lie 1 = .ok (.getfield 10, 3) := by decide +kernel
theorem dX10_lie_4 : decode cX10_lie 4 = .ok (.iload_n 1, 1) := by decide +kernel
theorem dX10_lie_5 : decode cX10_lie 5 = .ok (.invokevirtual 120, 3) := by decide +kernel
theorem dX10_lie_8 : decode cX10_lie 8 = .ok (.ifCond .eq 12, 3) := by decide +kernel
theorem dX10_lie_11 : decode cX10_lie 11 = .ok (.iload_n 2, 1) := by decide +kernel
theorem dX10_lie_12 : decode cX10_lie 12 = .ok (.iconst 0, 1) := by decide +kernel
theorem dX10_lie_13 : decode cX10_lie 13 = .ok (.iconst 2, 1) := by decide +kernel
theorem dX10_lie_14 : decode cX10_lie 14 = .ok (.invokestatic 105, 3) := by decide +kernel
theorem dX10_lie_17 : decode cX10_lie 17 = .ok (.ifCond .ne 14, 3) := by decide +kernel
theorem dX10_lie_20 : decode cX10_lie 20 = .ok (.new 275, 3) := by decide +kernel
theorem dX10_lie_23 : decode cX10_lie 23 = .ok (.dup, 1) := by decide +kernel
theorem dX10_lie_24 : decode cX10_lie 24 = .ok (.ldc_w 277, 3) := by decide +kernel
theorem dX10_lie_27 : decode cX10_lie 27 = .ok (.invokespecial 279, 3) := by decide +kernel
theorem dX10_lie_30 : decode cX10_lie 30 = .ok (.athrow, 1) := by decide +kernel
theorem dX10_lie_31 : decode cX10_lie 31 = .ok (.iload_n 1, 1) := by decide +kernel
theorem dX10_lie_32 : decode cX10_lie 32 = .ok (.iconst 3, 1) := by decide +kernel
theorem dX10_lie_33 : decode cX10_lie 33 = .ok (.imul, 1) := by decide +kernel
theorem dX10_lie_34 : decode cX10_lie 34 = .ok (.istore_n 3, 1) := by decide +kernel
theorem dX10_lie_35 : decode cX10_lie 35 = .ok (.aload_n 0, 1) := by decide +kernel
theorem dX10_lie_36 : decode cX10_lie 36 = .ok (.getfield 10, 3) := by decide +kernel
theorem dX10_lie_39 : decode cX10_lie 39 = .ok (.getfield 132, 3) := by decide +kernel
theorem dX10_lie_42 : decode cX10_lie 42 = .ok (.iload_n 3, 1) := by decide +kernel
theorem dX10_lie_43 : decode cX10_lie 43 = .ok (.iload_n 2, 1) := by decide +kernel
theorem dX10_lie_44 : decode cX10_lie 44 = .ok (.iadd, 1) := by decide +kernel
theorem dX10_lie_45 : decode cX10_lie 45 = .ok (.iaload, 1) := by decide +kernel
theorem dX10_lie_46 : decode cX10_lie 46 = .ok (.iconst (-1), 1) := by decide +kernel
theorem dX10_lie_47 : decode cX10_lie 47 = .ok (.if_icmp .ne 14, 3) := by decide +kernel
theorem dX10_lie_50 : decode cX10_lie 50 = .ok (.new 275, 3) := by decide +kernel
theorem dX10_lie_53 : decode cX10_lie 53 = .ok (.dup, 1) := by decide +kernel
theorem dX10_lie_54 : decode cX10_lie 54 = .ok (.ldc_w 282, 3) := by decide +kernel
theorem dX10_lie_57 : decode cX10_lie 57 = .ok (.invokespecial 279, 3) := by decide +kernel
theorem dX10_lie_60 : decode cX10_lie 60 = .ok (.athrow, 1) := by decide +kernel
theorem dX10_lie_61 : decode cX10_lie 61 = .ok (.aload_n 0, 1) := by decide +kernel
theorem dX10_lie_62 : decode cX10_lie 62 = .ok (.getfield 10, 3) := by decide +kernel
theorem dX10_lie_65 : decode cX10_lie 65 = .ok (.getfield 132, 3) := by decide +kernel
theorem dX10_lie_68 : decode cX10_lie 68 = .ok (.iload_n 3, 1) := by decide +kernel
theorem dX10_lie_69 : decode cX10_lie 69 = .ok (.iaload, 1) := by decide +kernel
theorem dX10_lie_70 : decode cX10_lie 70 = .ok (.istore 4, 2) := by decide +kernel
theorem dX10_lie_72 : decode cX10_lie 72 = .ok (.aload_n 0, 1) := by decide +kernel
theorem dX10_lie_73 : decode cX10_lie 73 = .ok (.getfield 10, 3) := by decide +kernel
theorem dX10_lie_76 : decode cX10_lie 76 = .ok (.getfield 132, 3) := by decide +kernel
theorem dX10_lie_79 : decode cX10_lie 79 = .ok (.iload_n 3, 1) := by decide +kernel
theorem dX10_lie_80 : decode cX10_lie 80 = .ok (.iconst 1, 1) := by decide +kernel
theorem dX10_lie_81 : decode cX10_lie 81 = .ok (.iadd, 1) := by decide +kernel
theorem dX10_lie_82 : decode cX10_lie 82 = .ok (.iaload, 1) := by decide +kernel
theorem dX10_lie_83 : decode cX10_lie 83 = .ok (.istore 5, 2) := by decide +kernel
theorem dX10_lie_85 : decode cX10_lie 85 = .ok (.aload_n 0, 1) := by decide +kernel
theorem dX10_lie_86 : decode cX10_lie 86 = .ok (.getfield 10, 3) := by decide +kernel
theorem dX10_lie_89 : decode cX10_lie 89 = .ok (.getfield 132, 3) := by decide +kernel
theorem dX10_lie_92 : decode cX10_lie 92 = .ok (.iload_n 3, 1) := by decide +kernel
theorem dX10_lie_93 : decode cX10_lie 93 = .ok (.iconst 2, 1) := by decide +kernel
theorem dX10_lie_94 : decode cX10_lie 94 = .ok (.iadd, 1) := by decide +kernel
theorem dX10_lie_95 : decode cX10_lie 95 = .ok (.iaload, 1) := by decide +kernel
theorem dX10_lie_96 : decode cX10_lie 96 = .ok (.istore 6, 2) := by decide +kernel
theorem dX10_lie_98 : decode cX10_lie 98 = .ok (.iconst 0, 1) := by decide +kernel
theorem dX10_lie_99 : decode cX10_lie 99 = .ok (.istore 7, 2) := by decide +kernel
theorem dX10_lie_101 : decode cX10_lie 101 = .ok (.iload 7, 2) := by decide +kernel
theorem dX10_lie_103 : decode cX10_lie 103 = .ok (.iconst 3, 1) := by decide +kernel
theorem dX10_lie_104 : decode cX10_lie 104 = .ok (.if_icmp .ge 28, 3) := by decide +kernel
theorem dX10_lie_107 : decode cX10_lie 107 = .ok (.iload 7, 2) := by decide +kernel
theorem dX10_lie_109 : decode cX10_lie 109 = .ok (.iload_n 2, 1) := by decide +kernel
theorem dX10_lie_110 : decode cX10_lie 110 = .ok (.if_icmp .eq 16, 3) := by decide +kernel
theorem dX10_lie_113 : decode cX10_lie 113 = .ok (.aload_n 0, 1) := by decide +kernel
theorem dX10_lie_114 : decode cX10_lie 114 = .ok (.getfield 10, 3) := by decide +kernel
theorem dX10_lie_117 : decode cX10_lie 117 = .ok (.getfield 132, 3) := by decide +kernel
theorem dX10_lie_120 : decode cX10_lie 120 = .ok (.iload_n 3, 1) := by decide +kernel
theorem dX10_lie_121 : decode cX10_lie 121 = .ok (.iload 7, 2) := by decide +kernel
theorem dX10_lie_123 : decode cX10_lie 123 = .ok (.iadd, 1) := by decide +kernel
theorem dX10_lie_124 : decode cX10_lie 124 = .ok (.iconst (-1), 1) := by decide +kernel
theorem dX10_lie_125 : decode cX10_lie 125 = .ok (.iastore, 1) := by decide +kernel
theorem dX10_lie_126 : decode cX10_lie 126 = .ok (.iinc 7 1, 3) := by decide +kernel
theorem dX10_lie_129 : decode cX10_lie 129 = .ok (.goto (-28), 3) := by decide +kernel
theorem dX10_lie_132 : decode cX10_lie 132 = .ok (.aload_n 0, 1) := by decide +kernel
theorem dX10_lie_133 : decode cX10_lie 133 = .ok (.iconst 0, 1) := by decide +kernel
theorem dX10_lie_134 : decode cX10_lie 134 = .ok (.putfield 109, 3) := by decide +kernel
theorem dX10_lie_137 : decode cX10_lie 137 = .ok (.aload_n 0, 1) := by decide +kernel
theorem dX10_lie_138 : decode cX10_lie 138 = .ok (.aload_n 0, 1) := by decide +kernel
theorem dX10_lie_139 : decode cX10_lie 139 = .ok (.getfield 113, 3) := by decide +kernel
theorem dX10_lie_142 : decode cX10_lie 142 = .ok (.invokevirtual 199, 3) := by decide +kernel
theorem dX10_lie_145 : decode cX10_lie 145 = .ok (.istore 7, 2) := by decide +kernel
theorem dX10_lie_147 : decode cX10_lie 147 = .ok (.aload_n 0, 1) := by decide +kernel
theorem dX10_lie_148 : decode cX10_lie 148 = .ok (.iconst 0, 1) := by decide +kernel
theorem dX10_lie_149 : decode cX10_lie 149 = .ok (.putfield 109, 3) := by decide +kernel
theorem dX10_lie_152 : decode cX10_lie 152 = .ok (.aload_n 0, 1) := by decide +kernel
theorem dX10_lie_153 : decode cX10_lie 153 = .ok (.getfield 10, 3) := by decide +kernel
theorem dX10_lie_156 : decode cX10_lie 156 = .ok (.getfield 132, 3) := by decide +kernel
theorem dX10_lie_159 : decode cX10_lie 159 = .ok (.iload_n 3, 1) := by decide +kernel
theorem dX10_lie_160 : decode cX10_lie 160 = .ok (.iload 4, 2) := by decide +kernel
theorem dX10_lie_162 : decode cX10_lie 162 = .ok (.iastore, 1) := by decide +kernel
theorem dX10_lie_163 : decode cX10_lie 163 = .ok (.aload_n 0, 1) := by decide +kernel
theorem dX10_lie_164 : decode cX10_lie 164 = .ok (.getfield 10, 3) := by decide +kernel
theorem dX10_lie_167 : decode cX10_lie 167 = .ok (.getfield 132, 3) := by decide +kernel
theorem dX10_lie_170 : decode cX10_lie 170 = .ok (.iload_n 3, 1) := by decide +kernel
theorem dX10_lie_171 : decode cX10_lie 171 = .ok (.iconst 1, 1) := by decide +kernel
theorem dX10_lie_172 : decode cX10_lie 172 = .ok (.iadd, 1) := by decide +kernel
theorem dX10_lie_173 : decode cX10_lie 173 = .ok (.iload 5, 2) := by decide +kernel
theorem dX10_lie_175 : decode cX10_lie 175 = .ok (.iastore, 1) := by decide +kernel
theorem dX10_lie_176 : decode cX10_lie 176 = .ok (.aload_n 0, 1) := by decide +kernel
theorem dX10_lie_177 : decode cX10_lie 177 = .ok (.getfield 10, 3) := by decide +kernel
theorem dX10_lie_180 : decode cX10_lie 180 = .ok (.getfield 132, 3) := by decide +kernel
theorem dX10_lie_183 : decode cX10_lie 183 = .ok (.iload_n 3, 1) := by decide +kernel
theorem dX10_lie_184 : decode cX10_lie 184 = .ok (.iconst 2, 1) := by decide +kernel
theorem dX10_lie_185 : decode cX10_lie 185 = .ok (.iadd, 1) := by decide +kernel
theorem dX10_lie_186 : decode cX10_lie 186 = .ok (.iload 6, 2) := by decide +kernel
theorem dX10_lie_188 : decode cX10_lie 188 = .ok (.iastore, 1) := by decide +kernel
theorem dX10_lie_189 : decode cX10_lie 189 = .ok (.iload 7, 2) := by decide +kernel
theorem dX10_lie_191 : decode cX10_lie 191 = .ok (.ifCond .ge 14, 3) := by decide +kernel
theorem dX10_lie_194 : decode cX10_lie 194 = .ok (.new 275, 3) := by decide +kernel
theorem dX10_lie_197 : decode cX10_lie 197 = .ok (.dup, 1) := by decide +kernel
theorem dX10_lie_198 : decode cX10_lie 198 = .ok (.ldc_w 284, 3) := by decide +kernel
theorem dX10_lie_201 : decode cX10_lie 201 = .ok (.invokespecial 279, 3) := by decide +kernel
theorem dX10_lie_204 : decode cX10_lie 204 = .ok (.athrow, 1) := by decide +kernel
theorem dX10_lie_205 : decode cX10_lie 205 = .ok (.aload_n 0, 1) := by decide +kernel
theorem dX10_lie_206 : decode cX10_lie 206 = .ok (.getfield 10, 3) := by decide +kernel
theorem dX10_lie_209 : decode cX10_lie 209 = .ok (.iload_n 1, 1) := by decide +kernel
theorem dX10_lie_210 : decode cX10_lie 210 = .ok (.aload_n 0, 1) := by decide +kernel
theorem dX10_lie_211 : decode cX10_lie 211 = .ok (.getfield 53, 3) := by decide +kernel
theorem dX10_lie_214 : decode cX10_lie 214 = .ok (.iload_n 1, 1) := by decide +kernel
theorem dX10_lie_215 : decode cX10_lie 215 = .ok (.invokevirtual 286, 3) := by decide +kernel
theorem dX10_lie_218 : decode cX10_lie 218 = .ok (.invokevirtual 262, 3) := by decide +kernel
theorem dX10_lie_221 : decode cX10_lie 221 = .ok (.ireturn, 1) := by decide +kernel
theorem dX10_lonely_0 : decode cX10_lonely 0 = .ok (.iconst 0, 1) := by decide +kernel
theorem dX10_lonely_1 : decode cX10_lonely 1 = .ok (.istore_n 2, 1) := by decide +kernel
theorem dX10_lonely_2 : decode cX10_lonely 2 = .ok (.iconst 0, 1) := by decide +kernel
theorem dX10_lonely_3 : decode cX10_lonely 3 = .ok (.istore_n 3, 1) := by decide +kernel
theorem dX10_lonely_4 : decode cX10_lonely 4 = .ok (.iload_n 3, 1) := by decide +kernel
theorem dX10_lonely_5 : decode cX10_lonely 5 = .ok (.aload_n 0, 1) := by decide +kernel
theorem dX10_lonely_6 : decode cX10_lonely 6 = .ok (.getfield 10, 3) := by decide +kernel
theorem dX10_lonely_9 : decode cX10_lonely 9 = .ok (.getfield 194, 3) := by decide +kernel
theorem dX10_lonely_12 : decode cX10_lonely 12 = .ok (.if_icmp .ge 30, 3) := by decide +kernel
theorem dX10_lonely_15 : decode cX10_lonely 15 = .ok (.aload_n 0, 1) := by decide +kernel
theorem dX10_lonely_16 : decode cX10_lonely 16 = .ok (.getfield 10, 3) := by decide +kernel
theorem dX10_lonely_19 : decode cX10_lonely 19 = .ok (.iload_n 3, 1) := by decide +kernel
theorem dX10_lonely_20 : decode cX10_lonely 20 = .ok (.invokevirtual 289, 3) := by decide +kernel
theorem dX10_lonely_23 : decode cX10_lonely 23 = .ok (.ifCond .ne 13, 3) := by decide +kernel
theorem dX10_lonely_26 : decode cX10_lonely 26 = .ok (.iload_n 2, 1) := by decide +kernel
theorem dX10_lonely_27 : decode cX10_lonely 27 = .ok (.iload_n 1, 1) := by decide +kernel
theorem dX10_lonely_28 : decode cX10_lonely 28 = .ok (.if_icmp .ne 5, 3) := by decide +kernel
theorem dX10_lonely_31 : decode cX10_lonely 31 = .ok (.iload_n 3, 1) := by decide +kernel
theorem dX10_lonely_32 : decode cX10_lonely 32 = .ok (.ireturn, 1) := by decide +kernel
theorem dX10_lonely_33 : decode cX10_lonely 33 = .ok (.iinc 2 1, 3) := by decide +kernel
theorem dX10_lonely_36 : decode cX10_lonely 36 = .ok (.iinc 3 1, 3) := by decide +kernel
theorem dX10_lonely_39 : decode cX10_lonely 39 = .ok (.goto (-35), 3) := by decide +kernel
theorem dX10_lonely_42 : decode cX10_lonely 42 = .ok (.iconst (-1), 1) := by decide +kernel
theorem dX10_lonely_43 : decode cX10_lonely 43 = .ok (.ireturn, 1) := by decide +kernel
theorem dX10_ring_0 : decode cX10_ring 0 = .ok (.aload_n 0, 1) := by decide +kernel
theorem dX10_ring_1 : decode cX10_ring 1 = .ok (.getfield 10, 3) := by decide +kernel
theorem dX10_ring_4 : decode cX10_ring 4 = .ok (.iload_n 1, 1) := by decide +kernel
theorem dX10_ring_5 : decode cX10_ring 5 = .ok (.invokevirtual 120, 3) := by decide +kernel
theorem dX10_ring_8 : decode cX10_ring 8 = .ok (.ifCond .ne 5, 3) := by decide +kernel
theorem dX10_ring_11 : decode cX10_ring 11 = .ok (.iconst (-1), 1) := by decide +kernel
theorem dX10_ring_12 : decode cX10_ring 12 = .ok (.ireturn, 1) := by decide +kernel
theorem dX10_ring_13 : decode cX10_ring 13 = .ok (.aload_n 0, 1) := by decide +kernel
theorem dX10_ring_14 : decode cX10_ring 14 = .ok (.getfield 10, 3) := by decide +kernel
theorem dX10_ring_17 : decode cX10_ring 17 = .ok (.iload_n 1, 1) := by decide +kernel
theorem dX10_ring_18 : decode cX10_ring 18 = .ok (.invokevirtual 292, 3) := by decide +kernel
theorem dX10_ring_21 : decode cX10_ring 21 = .ok (.istore_n 2, 1) := by decide +kernel
theorem dX10_ring_22 : decode cX10_ring 22 = .ok (.iconst 0, 1) := by decide +kernel
theorem dX10_ring_23 : decode cX10_ring 23 = .ok (.istore_n 3, 1) := by decide +kernel
theorem dX10_ring_24 : decode cX10_ring 24 = .ok (.iload_n 3, 1) := by decide +kernel
theorem dX10_ring_25 : decode cX10_ring 25 = .ok (.iload_n 1, 1) := by decide +kernel
theorem dX10_ring_26 : decode cX10_ring 26 = .ok (.if_icmp .ge 34, 3) := by decide +kernel
theorem dX10_ring_29 : decode cX10_ring 29 = .ok (.iload_n 2, 1) := by decide +kernel
theorem dX10_ring_30 : decode cX10_ring 30 = .ok (.iload_n 3, 1) := by decide +kernel
theorem dX10_ring_31 : decode cX10_ring 31 = .ok (.ishr, 1) := by decide +kernel
theorem dX10_ring_32 : decode cX10_ring 32 = .ok (.iconst 1, 1) := by decide +kernel
theorem dX10_ring_33 : decode cX10_ring 33 = .ok (.iand, 1) := by decide +kernel
theorem dX10_ring_34 : decode cX10_ring 34 = .ok (.ifCond .eq 20, 3) := by decide +kernel
theorem dX10_ring_37 : decode cX10_ring 37 = .ok (.aload_n 0, 1) := by decide +kernel
theorem dX10_ring_38 : decode cX10_ring 38 = .ok (.getfield 10, 3) := by decide +kernel
theorem dX10_ring_41 : decode cX10_ring 41 = .ok (.iload_n 3, 1) := by decide +kernel
theorem dX10_ring_42 : decode cX10_ring 42 = .ok (.invokevirtual 292, 3) := by decide +kernel
theorem dX10_ring_45 : decode cX10_ring 45 = .ok (.iload_n 1, 1) := by decide +kernel
theorem dX10_ring_46 : decode cX10_ring 46 = .ok (.ishr, 1) := by decide +kernel
theorem dX10_ring_47 : decode cX10_ring 47 = .ok (.iconst 1, 1) := by decide +kernel
theorem dX10_ring_48 : decode cX10_ring 48 = .ok (.iand, 1) := by decide +kernel
theorem dX10_ring_49 : decode cX10_ring 49 = .ok (.ifCond .eq 5, 3) := by decide +kernel
theorem dX10_ring_52 : decode cX10_ring 52 = .ok (.iload_n 3, 1) := by decide +kernel
theorem dX10_ring_53 : decode cX10_ring 53 = .ok (.ireturn, 1) := by decide +kernel
theorem dX10_ring_54 : decode cX10_ring 54 = .ok (.iinc 3 1, 3) := by decide +kernel
theorem dX10_ring_57 : decode cX10_ring 57 = .ok (.goto (-33), 3) := by decide +kernel
theorem dX10_ring_60 : decode cX10_ring 60 = .ok (.iload_n 1, 1) := by decide +kernel
theorem dX10_ring_61 : decode cX10_ring 61 = .ok (.ireturn, 1) := by decide +kernel
theorem dX10_helper_0 : decode cX10_helper 0 = .ok (.iload_n 1, 1) := by decide +kernel
theorem dX10_helper_1 : decode cX10_helper 1 = .ok (.iconst 1, 1) := by decide +kernel
theorem dX10_helper_2 : decode cX10_helper 2 = .ok (.bipush 60, 2) := by decide +kernel
theorem dX10_helper_4 : decode cX10_helper 4 = .ok (.invokestatic 105, 3) := by decide +kernel
theorem dX10_helper_7 : decode cX10_helper 7 = .ok (.ifCond .eq 14, 3) := by decide +kernel
theorem dX10_helper_10 : decode cX10_helper 10 = .ok (.aload_n 0, 1) := by decide +kernel
theorem dX10_helper_11 : decode cX10_helper 11 = .ok (.getfield 67, 3) := by decide +kernel
theorem dX10_helper_14 : decode cX10_helper 14 = .ok (.iload_n 1, 1) := by decide +kernel
theorem dX10_helper_15 : decode cX10_helper 15 = .ok (.invokevirtual 295, 3) := by decide +kernel
theorem dX10_helper_18 : decode cX10_helper 18 = .ok (.goto 4, 3) := by decide +kernel
theorem dX10_helper_21 : decode cX10_helper 21 = .ok (.iconst (-1), 1) := by decide +kernel
theorem dX10_helper_22 : decode cX10_helper 22 = .ok (.ireturn, 1) := by decide +kernel
theorem dX10_help_0 : decode cX10_help 0 = .ok (.aload_n 0, 1) := by decide +kernel
theorem dX10_help_1 : decode cX10_help 1 = .ok (.invokevirtual 239, 3) := by decide +kernel
theorem dX10_help_4 : decode cX10_help 4 = .ok (.ifCond .eq 20, 3) := by decide +kernel
theorem dX10_help_7 : decode cX10_help 7 = .ok (.iload_n 1, 1) := by decide +kernel
theorem dX10_help_8 : decode cX10_help 8 = .ok (.iconst (-1), 1) := by decide +kernel
theorem dX10_help_9 : decode cX10_help 9 = .ok (.aload_n 0, 1) := by decide +kernel
theorem dX10_help_10 : decode cX10_help 10 = .ok (.getfield 67, 3) := by decide +kernel
theorem dX10_help_13 : decode cX10_help 13 = .ok (.getfield 297, 3) := by decide +kernel
theorem dX10_help_16 : decode cX10_help 16 = .ok (.iconst 1, 1) := by decide +kernel
theorem dX10_help_17 : decode cX10_help 17 = .ok (.isub, 1) := by decide +kernel
theorem dX10_help_18 : decode cX10_help 18 = .ok (.invokestatic 105, 3) := by decide +kernel
theorem dX10_help_21 : decode cX10_help 21 = .ok (.ifCond .ne 5, 3) := by decide +kernel
theorem dX10_help_24 : decode cX10_help 24 = .ok (.iconst (-1), 1) := by decide +kernel
theorem dX10_help_25 : decode cX10_help 25 = .ok (.ireturn, 1) := by decide +kernel
theorem dX10_help_26 : decode cX10_help 26 = .ok (.aload_n 0, 1) := by decide +kernel
theorem dX10_help_27 : decode cX10_help 27 = .ok (.getfield 19, 3) := by decide +kernel
theorem dX10_help_30 : decode cX10_help 30 = .ok (.aload_n 0, 1) := by decide +kernel
theorem dX10_help_31 : decode cX10_help 31 = .ok (.getfield 113, 3) := by decide +kernel
theorem dX10_help_34 : decode cX10_help 34 = .ok (.invokevirtual 298, 3) := by decide +kernel
theorem dX10_help_37 : decode cX10_help 37 = .ok (.aload_n 0, 1) := by decide +kernel
theorem dX10_help_38 : decode cX10_help 38 = .ok (.getfield 67, 3) := by decide +kernel
theorem dX10_help_41 : decode cX10_help 41 = .ok (.invokevirtual 301, 3) := by decide +kernel
theorem dX10_help_44 : decode cX10_help 44 = .ok (.iconst 0, 1) := by decide +kernel
theorem dX10_help_45 : decode cX10_help 45 = .ok (.istore_n 2, 1) := by decide +kernel
theorem dX10_help_46 : decode cX10_help 46 = .ok (.iload_n 2, 1) := by decide +kernel
theorem dX10_help_47 : decode cX10_help 47 = .ok (.aload_n 0, 1) := by decide +kernel
theorem dX10_help_48 : decode cX10_help 48 = .ok (.getfield 10, 3) := by decide +kernel
theorem dX10_help_51 : decode cX10_help 51 = .ok (.getfield 194, 3) := by decide +kernel
theorem dX10_help_54 : decode cX10_help 54 = .ok (.if_icmp .ge 41, 3) := by decide +kernel
theorem dX10_help_57 : decode cX10_help 57 = .ok (.aload_n 0, 1) := by decide +kernel
theorem dX10_help_58 : decode cX10_help 58 = .ok (.getfield 78, 3) := by decide +kernel
theorem dX10_help_61 : decode cX10_help 61 = .ok (.iload_n 2, 1) := by decide +kernel
theorem dX10_help_62 : decode cX10_help 62 = .ok (.iaload, 1) := by decide +kernel
theorem dX10_help_63 : decode cX10_help 63 = .ok (.iconst (-1), 1) := by decide +kernel
theorem dX10_help_64 : decode cX10_help 64 = .ok (.if_icmp .eq 25, 3) := by decide +kernel
theorem dX10_help_67 : decode cX10_help 67 = .ok (.aload_n 0, 1) := by decide +kernel
theorem dX10_help_68 : decode cX10_help 68 = .ok (.getfield 67, 3) := by decide +kernel
theorem dX10_help_71 : decode cX10_help 71 = .ok (.aload_n 0, 1) := by decide +kernel
theorem dX10_help_72 : decode cX10_help 72 = .ok (.getfield 78, 3) := by decide +kernel
theorem dX10_help_75 : decode cX10_help 75 = .ok (.iload_n 2, 1) := by decide +kernel
theorem dX10_help_76 : decode cX10_help 76 = .ok (.iaload, 1) := by decide +kernel
theorem dX10_help_77 : decode cX10_help 77 = .ok (.aload_n 0, 1) := by decide +kernel
theorem dX10_help_78 : decode cX10_help 78 = .ok (.getfield 19, 3) := by decide +kernel
theorem dX10_help_81 : decode cX10_help 81 = .ok (.iload_n 2, 1) := by decide +kernel
theorem dX10_help_82 : decode cX10_help 82 = .ok (.iconst 1, 1) := by decide +kernel
theorem dX10_help_83 : decode cX10_help 83 = .ok (.invokevirtual 304, 3) := by decide +kernel
theorem dX10_help_86 : decode cX10_help 86 = .ok (.invokevirtual 307, 3) := by decide +kernel
theorem dX10_help_89 : decode cX10_help 89 = .ok (.iinc 2 1, 3) := by decide +kernel
theorem dX10_help_92 : decode cX10_help 92 = .ok (.goto (-46), 3) := by decide +kernel
theorem dX10_help_95 : decode cX10_help 95 = .ok (.aload_n 0, 1) := by decide +kernel
theorem dX10_help_96 : decode cX10_help 96 = .ok (.getfield 67, 3) := by decide +kernel
theorem dX10_help_99 : decode cX10_help 99 = .ok (.aload_n 0, 1) := by decide +kernel
theorem dX10_help_100 : decode cX10_help 100 = .ok (.getfield 10, 3) := by decide +kernel
theorem dX10_help_103 : decode cX10_help 103 = .ok (.getfield 151, 3) := by decide +kernel
theorem dX10_help_106 : decode cX10_help 106 = .ok (.invokevirtual 310, 3) := by decide +kernel
theorem dX10_help_109 : decode cX10_help 109 = .ok (.iload_n 1, 1) := by decide +kernel
theorem dX10_help_110 : decode cX10_help 110 = .ok (.iconst (-1), 1) := by decide +kernel
theorem dX10_help_111 : decode cX10_help 111 = .ok (.if_icmp .ne 13, 3) := by decide +kernel
theorem dX10_help_114 : decode cX10_help 114 = .ok (.aload_n 0, 1) := by decide +kernel
theorem dX10_help_115 : decode cX10_help 115 = .ok (.getfield 67, 3) := by decide +kernel
theorem dX10_help_118 : decode cX10_help 118 = .ok (.getfield 313, 3) := by decide +kernel
theorem dX10_help_121 : decode cX10_help 121 = .ok (.goto 12, 3) := by decide +kernel
theorem dX10_help_124 : decode cX10_help 124 = .ok (.aload_n 0, 1) := by decide +kernel
theorem dX10_help_125 : decode cX10_help 125 = .ok (.getfield 67, 3) := by decide +kernel
theorem dX10_help_128 : decode cX10_help 128 = .ok (.getfield 316, 3) := by decide +kernel
theorem dX10_help_131 : decode cX10_help 131 = .ok (.iload_n 1, 1) := by decide +kernel
theorem dX10_help_132 : decode cX10_help 132 = .ok (.iaload, 1) := by decide +kernel
theorem dX10_help_133 : decode cX10_help 133 = .ok (.ireturn, 1) := by decide +kernel
theorem dX10_word_0 : decode cX10_word 0 = .ok (.aload_n 0, 1) := by decide +kernel
theorem dX10_word_1 : decode cX10_word 1 = .ok (.getfield 10, 3) := by decide +kernel
theorem dX10_word_4 : decode cX10_word 4 = .ok (.iload_n 1, 1) := by decide +kernel
theorem dX10_word_5 : decode cX10_word 5 = .ok (.invokevirtual 120, 3) := by decide +kernel
theorem dX10_word_8 : decode cX10_word 8 = .ok (.ifCond .eq 32, 3) := by decide +kernel
theorem dX10_word_11 : decode cX10_word 11 = .ok (.aload_n 0, 1) := by decide +kernel
theorem dX10_word_12 : decode cX10_word 12 = .ok (.getfield 78, 3) := by decide +kernel
theorem dX10_word_15 : decode cX10_word 15 = .ok (.iload_n 1, 1) := by decide +kernel
theorem dX10_word_16 : decode cX10_word 16 = .ok (.iaload, 1) := by decide +kernel
theorem dX10_word_17 : decode cX10_word 17 = .ok (.iconst (-1), 1) := by decide +kernel
theorem dX10_word_18 : decode cX10_word 18 = .ok (.if_icmp .eq 22, 3) := by decide +kernel
theorem dX10_word_21 : decode cX10_word 21 = .ok (.iload_n 2, 1) := by decide +kernel
theorem dX10_word_22 : decode cX10_word 22 = .ok (.iconst 0, 1) := by decide +kernel
theorem dX10_word_23 : decode cX10_word 23 = .ok (.bipush 10, 2) := by decide +kernel
theorem dX10_word_25 : decode cX10_word 25 = .ok (.invokestatic 105, 3) := by decide +kernel
theorem dX10_word_28 : decode cX10_word 28 = .ok (.ifCond .eq 12, 3) := by decide +kernel
theorem dX10_word_31 : decode cX10_word 31 = .ok (.iload_n 3, 1) := by decide +kernel
theorem dX10_word_32 : decode cX10_word 32 = .ok (.iconst 0, 1) := by decide +kernel
theorem dX10_word_33 : decode cX10_word 33 = .ok (.iconst 5, 1) := by decide +kernel
theorem dX10_word_34 : decode cX10_word 34 = .ok (.invokestatic 105, 3) := by decide +kernel
theorem dX10_word_37 : decode cX10_word 37 = .ok (.ifCond .ne 5, 3) := by decide +kernel
theorem dX10_word_40 : decode cX10_word 40 = .ok (.iconst 0, 1) := by decide +kernel
theorem dX10_word_41 : decode cX10_word 41 = .ok (.ireturn, 1) := by decide +kernel
theorem dX10_word_42 : decode cX10_word 42 = .ok (.aload_n 0, 1) := by decide +kernel
theorem dX10_word_43 : decode cX10_word 43 = .ok (.getfield 10, 3) := by decide +kernel
theorem dX10_word_46 : decode cX10_word 46 = .ok (.getfield 319, 3) := by decide +kernel
theorem dX10_word_49 : decode cX10_word 49 = .ok (.iload_n 1, 1) := by decide +kernel
theorem dX10_word_50 : decode cX10_word 50 = .ok (.iload_n 2, 1) := by decide +kernel
theorem dX10_word_51 : decode cX10_word 51 = .ok (.iastore, 1) := by decide +kernel
theorem dX10_word_52 : decode cX10_word 52 = .ok (.aload_n 0, 1) := by decide +kernel
theorem dX10_word_53 : decode cX10_word 53 = .ok (.getfield 10, 3) := by decide +kernel
theorem dX10_word_56 : decode cX10_word 56 = .ok (.getfield 322, 3) := by decide +kernel
theorem dX10_word_59 : decode cX10_word 59 = .ok (.iload_n 1, 1) := by decide +kernel
theorem dX10_word_60 : decode cX10_word 60 = .ok (.iload_n 3, 1) := by decide +kernel
theorem dX10_word_61 : decode cX10_word 61 = .ok (.iastore, 1) := by decide +kernel
theorem dX10_word_62 : decode cX10_word 62 = .ok (.iconst 1, 1) := by decide +kernel
theorem dX10_word_63 : decode cX10_word 63 = .ok (.ireturn, 1) := by decide +kernel
theorem dX10_close_0 : decode cX10_close 0 = .ok (.aload_n 0, 1) := by decide +kernel
theorem dX10_close_1 : decode cX10_close 1 = .ok (.invokevirtual 239, 3) := by decide +kernel
theorem dX10_close_4 : decode cX10_close 4 = .ok (.ifCond .ne 5, 3) := by decide +kernel
theorem dX10_close_7 : decode cX10_close 7 = .ok (.iconst (-1), 1) := by decide +kernel
theorem dX10_close_8 : decode cX10_close 8 = .ok (.ireturn, 1) := by decide +kernel
theorem dX10_close_9 : decode cX10_close 9 = .ok (.aload_n 0, 1) := by decide +kernel
theorem dX10_close_10 : decode cX10_close 10 = .ok (.invokevirtual 228, 3) := by decide +kernel
theorem dX10_close_13 : decode cX10_close 13 = .ok (.aload_n 0, 1) := by decide +kernel
theorem dX10_close_14 : decode cX10_close 14 = .ok (.invokevirtual 325, 3) := by decide +kernel
theorem dX10_close_17 : decode cX10_close 17 = .ok (.aload_n 0, 1) := by decide +kernel
theorem dX10_close_18 : decode cX10_close 18 = .ok (.invokevirtual 328, 3) := by decide +kernel
theorem dX10_close_21 : decode cX10_close 21 = .ok (.istore_n 1, 1) := by decide +kernel
theorem dX10_close_22 : decode cX10_close 22 = .ok (.aload_n 0, 1) := by decide +kernel
theorem dX10_close_23 : decode cX10_close 23 = .ok (.getfield 10, 3) := by decide +kernel
theorem dX10_close_26 : decode cX10_close 26 = .ok (.getfield 319, 3) := by decide +kernel
theorem dX10_close_29 : decode cX10_close 29 = .ok (.iconst (-1), 1) := by decide +kernel
theorem dX10_close_30 : decode cX10_close 30 = .ok (.invokestatic 82, 3) := by decide +kernel
theorem dX10_close_33 : decode cX10_close 33 = .ok (.aload_n 0, 1) := by decide +kernel
theorem dX10_close_34 : decode cX10_close 34 = .ok (.getfield 10, 3) := by decide +kernel
theorem dX10_close_37 : decode cX10_close 37 = .ok (.getfield 322, 3) := by decide +kernel
theorem dX10_close_40 : decode cX10_close 40 = .ok (.iconst (-1), 1) := by decide +kernel
theorem dX10_close_41 : decode cX10_close 41 = .ok (.invokestatic 82, 3) := by decide +kernel
theorem dX10_close_44 : decode cX10_close 44 = .ok (.aload_n 0, 1) := by decide +kernel
theorem dX10_close_45 : decode cX10_close 45 = .ok (.getfield 78, 3) := by decide +kernel
theorem dX10_close_48 : decode cX10_close 48 = .ok (.iconst (-1), 1) := by decide +kernel
theorem dX10_close_49 : decode cX10_close 49 = .ok (.invokestatic 82, 3) := by decide +kernel
theorem dX10_close_52 : decode cX10_close 52 = .ok (.aload_n 0, 1) := by decide +kernel
theorem dX10_close_53 : decode cX10_close 53 = .ok (.iconst 0, 1) := by decide +kernel
theorem dX10_close_54 : decode cX10_close 54 = .ok (.putfield 109, 3) := by decide +kernel
theorem dX10_close_57 : decode cX10_close 57 = .ok (.aload_n 0, 1) := by decide +kernel
theorem dX10_close_58 : decode cX10_close 58 = .ok (.dup, 1) := by decide +kernel
theorem dX10_close_59 : decode cX10_close 59 = .ok (.getfield 331, 3) := by decide +kernel
theorem dX10_close_62 : decode cX10_close 62 = .ok (.iconst 1, 1) := by decide +kernel
theorem dX10_close_63 : decode cX10_close 63 = .ok (.iadd, 1) := by decide +kernel
theorem dX10_close_64 : decode cX10_close 64 = .ok (.putfield 331, 3) := by decide +kernel
theorem dX10_close_67 : decode cX10_close 67 = .ok (.iload_n 1, 1) := by decide +kernel
theorem dX10_close_68 : decode cX10_close 68 = .ok (.ireturn, 1) := by decide +kernel
theorem dX10_regret_0 : decode cX10_regret 0 = .ok (.aload_n 0, 1) := by decide +kernel
theorem dX10_regret_1 : decode cX10_regret 1 = .ok (.getfield 10, 3) := by decide +kernel
theorem dX10_regret_4 : decode cX10_regret 4 = .ok (.iload_n 1, 1) := by decide +kernel
theorem dX10_regret_5 : decode cX10_regret 5 = .ok (.iload_n 2, 1) := by decide +kernel
theorem dX10_regret_6 : decode cX10_regret 6 = .ok (.invokevirtual 128, 3) := by decide +kernel
theorem dX10_regret_9 : decode cX10_regret 9 = .ok (.ifCond .eq 20, 3) := by decide +kernel
theorem dX10_regret_12 : decode cX10_regret 12 = .ok (.aload_n 0, 1) := by decide +kernel
theorem dX10_regret_13 : decode cX10_regret 13 = .ok (.getfield 10, 3) := by decide +kernel
theorem dX10_regret_16 : decode cX10_regret 16 = .ok (.getfield 334, 3) := by decide +kernel
theorem dX10_regret_19 : decode cX10_regret 19 = .ok (.iload_n 1, 1) := by decide +kernel
theorem dX10_regret_20 : decode cX10_regret 20 = .ok (.bipush 14, 2) := by decide +kernel
theorem dX10_regret_22 : decode cX10_regret 22 = .ok (.imul, 1) := by decide +kernel
theorem dX10_regret_23 : decode cX10_regret 23 = .ok (.iload_n 2, 1) := by decide +kernel
theorem dX10_regret_24 : decode cX10_regret 24 = .ok (.iadd, 1) := by decide +kernel
theorem dX10_regret_25 : decode cX10_regret 25 = .ok (.iaload, 1) := by decide +kernel
theorem dX10_regret_26 : decode cX10_regret 26 = .ok (.goto 4, 3) := by decide +kernel
theorem dX10_regret_29 : decode cX10_regret 29 = .ok (.iconst (-1), 1) := by decide +kernel
theorem dX10_regret_30 : decode cX10_regret 30 = .ok (.ireturn, 1) := by decide +kernel
theorem dX10_scaled_0 : decode cX10_scaled 0 = .ok (.iload_n 1, 1) := by decide +kernel
theorem dX10_scaled_1 : decode cX10_scaled 1 = .ok (.iconst (-1), 1) := by decide +kernel
theorem dX10_scaled_2 : decode cX10_scaled 2 = .ok (.iconst 3, 1) := by decide +kernel
theorem dX10_scaled_3 : decode cX10_scaled 3 = .ok (.invokestatic 105, 3) := by decide +kernel
theorem dX10_scaled_6 : decode cX10_scaled 6 = .ok (.ifCond .eq 32, 3) := by decide +kernel
theorem dX10_scaled_9 : decode cX10_scaled 9 = .ok (.aload_n 0, 1) := by decide +kernel
theorem dX10_scaled_10 : decode cX10_scaled 10 = .ok (.getfield 10, 3) := by decide +kernel
theorem dX10_scaled_13 : decode cX10_scaled 13 = .ok (.iload_n 2, 1) := by decide +kernel
theorem dX10_scaled_14 : decode cX10_scaled 14 = .ok (.invokevirtual 120, 3) := by decide +kernel
theorem dX10_scaled_17 : decode cX10_scaled 17 = .ok (.ifCond .eq 21, 3) := by decide +kernel
theorem dX10_scaled_20 : decode cX10_scaled 20 = .ok (.iload_n 3, 1) := by decide +kernel
theorem dX10_scaled_21 : decode cX10_scaled 21 = .ok (.iconst 0, 1) := by decide +kernel
theorem dX10_scaled_22 : decode cX10_scaled 22 = .ok (.iconst 1, 1) := by decide +kernel
theorem dX10_scaled_23 : decode cX10_scaled 23 = .ok (.invokestatic 105, 3) := by decide +kernel
theorem dX10_scaled_26 : decode cX10_scaled 26 = .ok (.ifCond .eq 12, 3) := by decide +kernel
theorem dX10_scaled_29 : decode cX10_scaled 29 = .ok (.aload_n 0, 1) := by decide +kernel
theorem dX10_scaled_30 : decode cX10_scaled 30 = .ok (.iload 4, 2) := by decide +kernel
theorem dX10_scaled_32 : decode cX10_scaled 32 = .ok (.invokevirtual 180, 3) := by decide +kernel
theorem dX10_scaled_35 : decode cX10_scaled 35 = .ok (.ifCond .ne 5, 3) := by decide +kernel
theorem dX10_scaled_38 : decode cX10_scaled 38 = .ok (.iconst (-1), 1) := by decide +kernel
theorem dX10_scaled_39 : decode cX10_scaled 39 = .ok (.ireturn, 1) := by decide +kernel
theorem dX10_scaled_40 : decode cX10_scaled 40 = .ok (.aload_n 0, 1) := by decide +kernel
theorem dX10_scaled_41 : decode cX10_scaled 41 = .ok (.getfield 19, 3) := by decide +kernel
theorem dX10_scaled_44 : decode cX10_scaled 44 = .ok (.iload 4, 2) := by decide +kernel
theorem dX10_scaled_46 : decode cX10_scaled 46 = .ok (.invokevirtual 298, 3) := by decide +kernel
theorem dX10_scaled_49 : decode cX10_scaled 49 = .ok (.iload_n 1, 1) := by decide +kernel
theorem dX10_scaled_50 : decode cX10_scaled 50 = .ok (.iconst (-1), 1) := by decide +kernel
theorem dX10_scaled_51 : decode cX10_scaled 51 = .ok (.if_icmp .ne 15, 3) := by decide +kernel
theorem dX10_scaled_54 : decode cX10_scaled 54 = .ok (.aload_n 0, 1) := by decide +kernel
theorem dX10_scaled_55 : decode cX10_scaled 55 = .ok (.getfield 19, 3) := by decide +kernel
theorem dX10_scaled_58 : decode cX10_scaled 58 = .ok (.iload_n 2, 1) := by decide +kernel
theorem dX10_scaled_59 : decode cX10_scaled 59 = .ok (.iload_n 3, 1) := by decide +kernel
theorem dX10_scaled_60 : decode cX10_scaled 60 = .ok (.invokevirtual 337, 3) := by decide +kernel
theorem dX10_scaled_63 : decode cX10_scaled 63 = .ok (.goto 13, 3) := by decide +kernel
theorem dX10_scaled_66 : decode cX10_scaled 66 = .ok (.aload_n 0, 1) := by decide +kernel
theorem dX10_scaled_67 : decode cX10_scaled 67 = .ok (.getfield 19, 3) := by decide +kernel
theorem dX10_scaled_70 : decode cX10_scaled 70 = .ok (.iload_n 1, 1) := by decide +kernel
theorem dX10_scaled_71 : decode cX10_scaled 71 = .ok (.iload_n 2, 1) := by decide +kernel
theorem dX10_scaled_72 : decode cX10_scaled 72 = .ok (.iload_n 3, 1) := by decide +kernel
theorem dX10_scaled_73 : decode cX10_scaled 73 = .ok (.invokevirtual 340, 3) := by decide +kernel
theorem dX10_scaled_76 : decode cX10_scaled 76 = .ok (.ireturn, 1) := by decide +kernel
theorem dX10_of_0 : decode cX10_of 0 = .ok (.aload_n 0, 1) := by decide +kernel
theorem dX10_of_1 : decode cX10_of 1 = .ok (.getfield 10, 3) := by decide +kernel
theorem dX10_of_4 : decode cX10_of 4 = .ok (.iload_n 1, 1) := by decide +kernel
theorem dX10_of_5 : decode cX10_of 5 = .ok (.invokevirtual 120, 3) := by decide +kernel
theorem dX10_of_8 : decode cX10_of 8 = .ok (.ifCond .eq 13, 3) := by decide +kernel
theorem dX10_of_11 : decode cX10_of 11 = .ok (.iload_n 2, 1) := by decide +kernel
theorem dX10_of_12 : decode cX10_of 12 = .ok (.iconst 0, 1) := by decide +kernel
theorem dX10_of_13 : decode cX10_of 13 = .ok (.bipush 12, 2) := by decide +kernel
theorem dX10_of_15 : decode cX10_of 15 = .ok (.invokestatic 105, 3) := by decide +kernel
theorem dX10_of_18 : decode cX10_of 18 = .ok (.ifCond .ne 14, 3) := by decide +kernel
theorem dX10_of_21 : decode cX10_of 21 = .ok (.new 275, 3) := by decide +kernel
theorem dX10_of_24 : decode cX10_of 24 = .ok (.dup, 1) := by decide +kernel
theorem dX10_of_25 : decode cX10_of 25 = .ok (.ldc_w 344, 3) := by decide +kernel
theorem dX10_of_28 : decode cX10_of 28 = .ok (.invokespecial 279, 3) := by decide +kernel
theorem dX10_of_31 : decode cX10_of 31 = .ok (.athrow, 1) := by decide +kernel
theorem dX10_of_32 : decode cX10_of 32 = .ok (.iload_n 2, 1) := by decide +kernel
theorem dX10_of_33 : decode cX10_of 33 = .ok (.tableswitch 172 0 12 #[67, 77, 87, 97, 172, 172, 172, 107, 117, 130, 143, 152, 162], 67) := by decide +kernel
theorem dX10_of_100 : decode cX10_of 100 = .ok (.aload_n 0, 1) := by decide +kernel
theorem dX10_of_101 : decode cX10_of 101 = .ok (.getfield 10, 3) := by decide +kernel
theorem dX10_of_104 : decode cX10_of 104 = .ok (.getfield 346, 3) := by decide +kernel
theorem dX10_of_107 : decode cX10_of 107 = .ok (.iload_n 1, 1) := by decide +kernel
theorem dX10_of_108 : decode cX10_of 108 = .ok (.iaload, 1) := by decide +kernel
theorem dX10_of_109 : decode cX10_of 109 = .ok (.ireturn, 1) := by decide +kernel
theorem dX10_of_110 : decode cX10_of 110 = .ok (.aload_n 0, 1) := by decide +kernel
theorem dX10_of_111 : decode cX10_of 111 = .ok (.getfield 10, 3) := by decide +kernel
theorem dX10_of_114 : decode cX10_of 114 = .ok (.getfield 349, 3) := by decide +kernel
theorem dX10_of_117 : decode cX10_of 117 = .ok (.iload_n 1, 1) := by decide +kernel
theorem dX10_of_118 : decode cX10_of 118 = .ok (.iaload, 1) := by decide +kernel
theorem dX10_of_119 : decode cX10_of 119 = .ok (.ireturn, 1) := by decide +kernel
theorem dX10_of_120 : decode cX10_of 120 = .ok (.aload_n 0, 1) := by decide +kernel
theorem dX10_of_121 : decode cX10_of 121 = .ok (.getfield 10, 3) := by decide +kernel
theorem dX10_of_124 : decode cX10_of 124 = .ok (.getfield 352, 3) := by decide +kernel
theorem dX10_of_127 : decode cX10_of 127 = .ok (.iload_n 1, 1) := by decide +kernel
theorem dX10_of_128 : decode cX10_of 128 = .ok (.iaload, 1) := by decide +kernel
theorem dX10_of_129 : decode cX10_of 129 = .ok (.ireturn, 1) := by decide +kernel
theorem dX10_of_130 : decode cX10_of 130 = .ok (.aload_n 0, 1) := by decide +kernel
theorem dX10_of_131 : decode cX10_of 131 = .ok (.getfield 10, 3) := by decide +kernel
theorem dX10_of_134 : decode cX10_of 134 = .ok (.getfield 355, 3) := by decide +kernel
theorem dX10_of_137 : decode cX10_of 137 = .ok (.iload_n 1, 1) := by decide +kernel
theorem dX10_of_138 : decode cX10_of 138 = .ok (.iaload, 1) := by decide +kernel
theorem dX10_of_139 : decode cX10_of 139 = .ok (.ireturn, 1) := by decide +kernel
theorem dX10_of_140 : decode cX10_of 140 = .ok (.aload_n 0, 1) := by decide +kernel
theorem dX10_of_141 : decode cX10_of 141 = .ok (.getfield 10, 3) := by decide +kernel
theorem dX10_of_144 : decode cX10_of 144 = .ok (.getfield 358, 3) := by decide +kernel
theorem dX10_of_147 : decode cX10_of 147 = .ok (.iload_n 1, 1) := by decide +kernel
theorem dX10_of_148 : decode cX10_of 148 = .ok (.iaload, 1) := by decide +kernel
theorem dX10_of_149 : decode cX10_of 149 = .ok (.ireturn, 1) := by decide +kernel
theorem dX10_of_150 : decode cX10_of 150 = .ok (.aload_n 0, 1) := by decide +kernel
theorem dX10_of_151 : decode cX10_of 151 = .ok (.getfield 10, 3) := by decide +kernel
theorem dX10_of_154 : decode cX10_of 154 = .ok (.getfield 142, 3) := by decide +kernel
theorem dX10_of_157 : decode cX10_of 157 = .ok (.iload_n 1, 1) := by decide +kernel
theorem dX10_of_158 : decode cX10_of 158 = .ok (.iaload, 1) := by decide +kernel
theorem dX10_of_159 : decode cX10_of 159 = .ok (.invokestatic 361, 3) := by decide +kernel
theorem dX10_of_162 : decode cX10_of 162 = .ok (.ireturn, 1) := by decide +kernel
theorem dX10_of_163 : decode cX10_of 163 = .ok (.aload_n 0, 1) := by decide +kernel
theorem dX10_of_164 : decode cX10_of 164 = .ok (.getfield 10, 3) := by decide +kernel
theorem dX10_of_167 : decode cX10_of 167 = .ok (.getfield 135, 3) := by decide +kernel
theorem dX10_of_170 : decode cX10_of 170 = .ok (.iload_n 1, 1) := by decide +kernel
theorem dX10_of_171 : decode cX10_of 171 = .ok (.iaload, 1) := by decide +kernel
theorem dX10_of_172 : decode cX10_of 172 = .ok (.invokestatic 361, 3) := by decide +kernel
theorem dX10_of_175 : decode cX10_of 175 = .ok (.ireturn, 1) := by decide +kernel
theorem dX10_of_176 : decode cX10_of 176 = .ok (.aload_n 0, 1) := by decide +kernel
theorem dX10_of_177 : decode cX10_of 177 = .ok (.getfield 10, 3) := by decide +kernel
theorem dX10_of_180 : decode cX10_of 180 = .ok (.iload_n 1, 1) := by decide +kernel
theorem dX10_of_181 : decode cX10_of 181 = .ok (.invokevirtual 289, 3) := by decide +kernel
theorem dX10_of_184 : decode cX10_of 184 = .ok (.ireturn, 1) := by decide +kernel
theorem dX10_of_185 : decode cX10_of 185 = .ok (.aload_n 0, 1) := by decide +kernel
theorem dX10_of_186 : decode cX10_of 186 = .ok (.getfield 10, 3) := by decide +kernel
theorem dX10_of_189 : decode cX10_of 189 = .ok (.getfield 319, 3) := by decide +kernel
theorem dX10_of_192 : decode cX10_of 192 = .ok (.iload_n 1, 1) := by decide +kernel
theorem dX10_of_193 : decode cX10_of 193 = .ok (.iaload, 1) := by decide +kernel
theorem dX10_of_194 : decode cX10_of 194 = .ok (.ireturn, 1) := by decide +kernel
theorem dX10_of_195 : decode cX10_of 195 = .ok (.aload_n 0, 1) := by decide +kernel
theorem dX10_of_196 : decode cX10_of 196 = .ok (.getfield 10, 3) := by decide +kernel
theorem dX10_of_199 : decode cX10_of 199 = .ok (.getfield 322, 3) := by decide +kernel
theorem dX10_of_202 : decode cX10_of 202 = .ok (.iload_n 1, 1) := by decide +kernel
theorem dX10_of_203 : decode cX10_of 203 = .ok (.iaload, 1) := by decide +kernel
theorem dX10_of_204 : decode cX10_of 204 = .ok (.ireturn, 1) := by decide +kernel
theorem dX10_of_205 : decode cX10_of 205 = .ok (.aload_n 0, 1) := by decide +kernel
theorem dX10_of_206 : decode cX10_of 206 = .ok (.getfield 10, 3) := by decide +kernel
theorem dX10_of_209 : decode cX10_of 209 = .ok (.getfield 132, 3) := by decide +kernel
theorem dX10_of_212 : decode cX10_of 212 = .ok (.iload_n 1, 1) := by decide +kernel
theorem dX10_of_213 : decode cX10_of 213 = .ok (.iconst 3, 1) := by decide +kernel
theorem dX10_of_214 : decode cX10_of 214 = .ok (.imul, 1) := by decide +kernel
theorem dX10_of_215 : decode cX10_of 215 = .ok (.iload_n 2, 1) := by decide +kernel
theorem dX10_of_216 : decode cX10_of 216 = .ok (.iadd, 1) := by decide +kernel
theorem dX10_of_217 : decode cX10_of 217 = .ok (.iconst 4, 1) := by decide +kernel
theorem dX10_of_218 : decode cX10_of 218 = .ok (.isub, 1) := by decide +kernel
theorem dX10_of_219 : decode cX10_of 219 = .ok (.iaload, 1) := by decide +kernel
theorem dX10_of_220 : decode cX10_of 220 = .ok (.ireturn, 1) := by decide +kernel
theorem dX10_count_0 : decode cX10_count 0 = .ok (.iload_n 1, 1) := by decide +kernel
theorem dX10_count_1 : decode cX10_count 1 = .ok (.tableswitch 126 0 9 #[55, 63, 71, 76, 84, 92, 97, 102, 110, 118], 55) := by decide +kernel
theorem dX10_count_56 : decode cX10_count 56 = .ok (.aload_n 0, 1) := by decide +kernel
theorem dX10_count_57 : decode cX10_count 57 = .ok (.getfield 10, 3) := by decide +kernel
theorem dX10_count_60 : decode cX10_count 60 = .ok (.getfield 194, 3) := by decide +kernel
theorem dX10_count_63 : decode cX10_count 63 = .ok (.ireturn, 1) := by decide +kernel
theorem dX10_count_64 : decode cX10_count 64 = .ok (.aload_n 0, 1) := by decide +kernel
theorem dX10_count_65 : decode cX10_count 65 = .ok (.getfield 10, 3) := by decide +kernel
theorem dX10_count_68 : decode cX10_count 68 = .ok (.getfield 151, 3) := by decide +kernel
theorem dX10_count_71 : decode cX10_count 71 = .ok (.ireturn, 1) := by decide +kernel
theorem dX10_count_72 : decode cX10_count 72 = .ok (.aload_n 0, 1) := by decide +kernel
theorem dX10_count_73 : decode cX10_count 73 = .ok (.getfield 113, 3) := by decide +kernel
theorem dX10_count_76 : decode cX10_count 76 = .ok (.ireturn, 1) := by decide +kernel
theorem dX10_count_77 : decode cX10_count 77 = .ok (.aload_n 0, 1) := by decide +kernel
theorem dX10_count_78 : decode cX10_count 78 = .ok (.getfield 19, 3) := by decide +kernel
theorem dX10_count_81 : decode cX10_count 81 = .ok (.getfield 366, 3) := by decide +kernel
theorem dX10_count_84 : decode cX10_count 84 = .ok (.ireturn, 1) := by decide +kernel
theorem dX10_count_85 : decode cX10_count 85 = .ok (.aload_n 0, 1) := by decide +kernel
theorem dX10_count_86 : decode cX10_count 86 = .ok (.getfield 26, 3) := by decide +kernel
theorem dX10_count_89 : decode cX10_count 89 = .ok (.getfield 164, 3) := by decide +kernel
theorem dX10_count_92 : decode cX10_count 92 = .ok (.ireturn, 1) := by decide +kernel
theorem dX10_count_93 : decode cX10_count 93 = .ok (.aload_n 0, 1) := by decide +kernel
theorem dX10_count_94 : decode cX10_count 94 = .ok (.invokevirtual 239, 3) := by decide +kernel
theorem dX10_count_97 : decode cX10_count 97 = .ok (.ireturn, 1) := by decide +kernel
theorem dX10_count_98 : decode cX10_count 98 = .ok (.aload_n 0, 1) := by decide +kernel
theorem dX10_count_99 : decode cX10_count 99 = .ok (.getfield 331, 3) := by decide +kernel
theorem dX10_count_102 : decode cX10_count 102 = .ok (.ireturn, 1) := by decide +kernel
theorem dX10_count_103 : decode cX10_count 103 = .ok (.aload_n 0, 1) := by decide +kernel
theorem dX10_count_104 : decode cX10_count 104 = .ok (.getfield 94, 3) := by decide +kernel
theorem dX10_count_107 : decode cX10_count 107 = .ok (.getfield 174, 3) := by decide +kernel
theorem dX10_count_110 : decode cX10_count 110 = .ok (.ireturn, 1) := by decide +kernel
theorem dX10_count_111 : decode cX10_count 111 = .ok (.aload_n 0, 1) := by decide +kernel
theorem dX10_count_112 : decode cX10_count 112 = .ok (.getfield 67, 3) := by decide +kernel
theorem dX10_count_115 : decode cX10_count 115 = .ok (.getfield 297, 3) := by decide +kernel
theorem dX10_count_118 : decode cX10_count 118 = .ok (.ireturn, 1) := by decide +kernel
theorem dX10_count_119 : decode cX10_count 119 = .ok (.aload_n 0, 1) := by decide +kernel
theorem dX10_count_120 : decode cX10_count 120 = .ok (.getfield 74, 3) := by decide +kernel
theorem dX10_count_123 : decode cX10_count 123 = .ok (.getfield 367, 3) := by decide +kernel
theorem dX10_count_126 : decode cX10_count 126 = .ok (.ireturn, 1) := by decide +kernel
theorem dX10_count_127 : decode cX10_count 127 = .ok (.aload_n 0, 1) := by decide +kernel
theorem dX10_count_128 : decode cX10_count 128 = .ok (.iload_n 1, 1) := by decide +kernel
theorem dX10_count_129 : decode cX10_count 129 = .ok (.invokevirtual 368, 3) := by decide +kernel
theorem dX10_count_132 : decode cX10_count 132 = .ok (.ireturn, 1) := by decide +kernel
theorem dX10_countClass_0 : decode cX10_countClass 0 = .ok (.iload_n 1, 1) := by decide +kernel
theorem dX10_countClass_1 : decode cX10_countClass 1 = .ok (.bipush 10, 2) := by decide +kernel
theorem dX10_countClass_3 : decode cX10_countClass 3 = .ok (.bipush 9, 2) := by decide +kernel
theorem dX10_countClass_5 : decode cX10_countClass 5 = .ok (.aload_n 0, 1) := by decide +kernel
theorem dX10_countClass_6 : decode cX10_countClass 6 = .ok (.getfield 10, 3) := by decide +kernel
theorem dX10_countClass_9 : decode cX10_countClass 9 = .ok (.getfield 151, 3) := by decide +kernel
theorem dX10_countClass_12 : decode cX10_countClass 12 = .ok (.iadd, 1) := by decide +kernel
theorem dX10_countClass_13 : decode cX10_countClass 13 = .ok (.invokestatic 105, 3) := by decide +kernel
theorem dX10_countClass_16 : decode cX10_countClass 16 = .ok (.ifCond .eq 20, 3) := by decide +kernel
theorem dX10_countClass_19 : decode cX10_countClass 19 = .ok (.aload_n 0, 1) := by decide +kernel
theorem dX10_countClass_20 : decode cX10_countClass 20 = .ok (.invokevirtual 228, 3) := by decide +kernel
theorem dX10_countClass_23 : decode cX10_countClass 23 = .ok (.aload_n 0, 1) := by decide +kernel
theorem dX10_countClass_24 : decode cX10_countClass 24 = .ok (.getfield 88, 3) := by decide +kernel
theorem dX10_countClass_27 : decode cX10_countClass 27 = .ok (.iload_n 1, 1) := by decide +kernel
theorem dX10_countClass_28 : decode cX10_countClass 28 = .ok (.bipush 10, 2) := by decide +kernel
theorem dX10_countClass_30 : decode cX10_countClass 30 = .ok (.isub, 1) := by decide +kernel
theorem dX10_countClass_31 : decode cX10_countClass 31 = .ok (.iaload, 1) := by decide +kernel
theorem dX10_countClass_32 : decode cX10_countClass 32 = .ok (.invokestatic 361, 3) := by decide +kernel
theorem dX10_countClass_35 : decode cX10_countClass 35 = .ok (.ireturn, 1) := by decide +kernel
theorem dX10_countClass_36 : decode cX10_countClass 36 = .ok (.iload_n 1, 1) := by decide +kernel
theorem dX10_countClass_37 : decode cX10_countClass 37 = .ok (.bipush 20, 2) := by decide +kernel
theorem dX10_countClass_39 : decode cX10_countClass 39 = .ok (.bipush 22, 2) := by decide +kernel
theorem dX10_countClass_41 : decode cX10_countClass 41 = .ok (.invokestatic 105, 3) := by decide +kernel
theorem dX10_countClass_44 : decode cX10_countClass 44 = .ok (.ifCond .eq 18, 3) := by decide +kernel
theorem dX10_countClass_47 : decode cX10_countClass 47 = .ok (.aload_n 0, 1) := by decide +kernel
theorem dX10_countClass_48 : decode cX10_countClass 48 = .ok (.getfield 10, 3) := by decide +kernel
theorem dX10_countClass_51 : decode cX10_countClass 51 = .ok (.getfield 154, 3) := by decide +kernel
theorem dX10_countClass_54 : decode cX10_countClass 54 = .ok (.iload_n 1, 1) := by decide +kernel
theorem dX10_countClass_55 : decode cX10_countClass 55 = .ok (.bipush 20, 2) := by decide +kernel
theorem dX10_countClass_57 : decode cX10_countClass 57 = .ok (.isub, 1) := by decide +kernel
theorem dX10_countClass_58 : decode cX10_countClass 58 = .ok (.iaload, 1) := by decide +kernel
theorem dX10_countClass_59 : decode cX10_countClass 59 = .ok (.goto 4, 3) := by decide +kernel
theorem dX10_countClass_62 : decode cX10_countClass 62 = .ok (.iconst (-1), 1) := by decide +kernel
theorem dX10_countClass_63 : decode cX10_countClass 63 = .ok (.ireturn, 1) := by decide +kernel
theorem dX10_within_0 : decode cX10_within 0 = .ok (.iload_n 0, 1) := by decide +kernel
theorem dX10_within_1 : decode cX10_within 1 = .ok (.iload_n 1, 1) := by decide +kernel
theorem dX10_within_2 : decode cX10_within 2 = .ok (.if_icmp .lt 12, 3) := by decide +kernel
theorem dX10_within_5 : decode cX10_within 5 = .ok (.iload_n 0, 1) := by decide +kernel
theorem dX10_within_6 : decode cX10_within 6 = .ok (.iload_n 2, 1) := by decide +kernel
theorem dX10_within_7 : decode cX10_within 7 = .ok (.if_icmp .gt 7, 3) := by decide +kernel
theorem dX10_within_10 : decode cX10_within 10 = .ok (.iconst 1, 1) := by decide +kernel
theorem dX10_within_11 : decode cX10_within 11 = .ok (.goto 4, 3) := by decide +kernel
theorem dX10_within_14 : decode cX10_within 14 = .ok (.iconst 0, 1) := by decide +kernel
theorem dX10_within_15 : decode cX10_within 15 = .ok (.ireturn, 1) := by decide +kernel
theorem dX10_isDay_0 : decode cX10_isDay 0 = .ok (.iload_n 1, 1) := by decide +kernel
theorem dX10_isDay_1 : decode cX10_isDay 1 = .ok (.iconst 0, 1) := by decide +kernel
theorem dX10_isDay_2 : decode cX10_isDay 2 = .ok (.aload_n 0, 1) := by decide +kernel
theorem dX10_isDay_3 : decode cX10_isDay 3 = .ok (.getfield 113, 3) := by decide +kernel
theorem dX10_isDay_6 : decode cX10_isDay 6 = .ok (.invokestatic 105, 3) := by decide +kernel
theorem dX10_isDay_9 : decode cX10_isDay 9 = .ok (.ireturn, 1) := by decide +kernel
theorem dX10_setBit_0 : decode cX10_setBit 0 = .ok (.aload_n 0, 1) := by decide +kernel
theorem dX10_setBit_1 : decode cX10_setBit 1 = .ok (.iload_n 1, 1) := by decide +kernel
theorem dX10_setBit_2 : decode cX10_setBit 2 = .ok (.iaload, 1) := by decide +kernel
theorem dX10_setBit_3 : decode cX10_setBit 3 = .ok (.iload_n 2, 1) := by decide +kernel
theorem dX10_setBit_4 : decode cX10_setBit 4 = .ok (.ishr, 1) := by decide +kernel
theorem dX10_setBit_5 : decode cX10_setBit 5 = .ok (.iconst 1, 1) := by decide +kernel
theorem dX10_setBit_6 : decode cX10_setBit 6 = .ok (.iand, 1) := by decide +kernel
theorem dX10_setBit_7 : decode cX10_setBit 7 = .ok (.ifCond .eq 7, 3) := by decide +kernel
theorem dX10_setBit_10 : decode cX10_setBit 10 = .ok (.iconst 1, 1) := by decide +kernel
theorem dX10_setBit_11 : decode cX10_setBit 11 = .ok (.goto 4, 3) := by decide +kernel
theorem dX10_setBit_14 : decode cX10_setBit 14 = .ok (.iconst 0, 1) := by decide +kernel
theorem dX10_setBit_15 : decode cX10_setBit 15 = .ok (.istore 4, 2) := by decide +kernel
theorem dX10_setBit_17 : decode cX10_setBit 17 = .ok (.iload 4, 2) := by decide +kernel
theorem dX10_setBit_19 : decode cX10_setBit 19 = .ok (.iload_n 3, 1) := by decide +kernel
theorem dX10_setBit_20 : decode cX10_setBit 20 = .ok (.if_icmp .ne 5, 3) := by decide +kernel
theorem dX10_setBit_23 : decode cX10_setBit 23 = .ok (.iconst 0, 1) := by decide +kernel
theorem dX10_setBit_24 : decode cX10_setBit 24 = .ok (.ireturn, 1) := by decide +kernel
theorem dX10_setBit_25 : decode cX10_setBit 25 = .ok (.aload_n 0, 1) := by decide +kernel
theorem dX10_setBit_26 : decode cX10_setBit 26 = .ok (.iload_n 1, 1) := by decide +kernel
theorem dX10_setBit_27 : decode cX10_setBit 27 = .ok (.dup2, 1) := by decide +kernel
theorem dX10_setBit_28 : decode cX10_setBit 28 = .ok (.iaload, 1) := by decide +kernel
theorem dX10_setBit_29 : decode cX10_setBit 29 = .ok (.iconst 1, 1) := by decide +kernel
theorem dX10_setBit_30 : decode cX10_setBit 30 = .ok (.iload_n 2, 1) := by decide +kernel
theorem dX10_setBit_31 : decode cX10_setBit 31 = .ok (.ishl, 1) := by decide +kernel
theorem dX10_setBit_32 : decode cX10_setBit 32 = .ok (.ixor, 1) := by decide +kernel
theorem dX10_setBit_33 : decode cX10_setBit 33 = .ok (.iastore, 1) := by decide +kernel
theorem dX10_setBit_34 : decode cX10_setBit 34 = .ok (.iconst 1, 1) := by decide +kernel
theorem dX10_setBit_35 : decode cX10_setBit 35 = .ok (.ireturn, 1) := by decide +kernel
theorem dX10_setPair_0 : decode cX10_setPair 0 = .ok (.aload_n 0, 1) := by decide +kernel
theorem dX10_setPair_1 : decode cX10_setPair 1 = .ok (.iload_n 1, 1) := by decide +kernel
theorem dX10_setPair_2 : decode cX10_setPair 2 = .ok (.iload_n 2, 1) := by decide +kernel
theorem dX10_setPair_3 : decode cX10_setPair 3 = .ok (.iload_n 3, 1) := by decide +kernel
theorem dX10_setPair_4 : decode cX10_setPair 4 = .ok (.invokestatic 148, 3) := by decide +kernel
theorem dX10_setPair_7 : decode cX10_setPair 7 = .ok (.ifCond .eq 17, 3) := by decide +kernel
theorem dX10_setPair_10 : decode cX10_setPair 10 = .ok (.aload_n 0, 1) := by decide +kernel
theorem dX10_setPair_11 : decode cX10_setPair 11 = .ok (.iload_n 2, 1) := by decide +kernel
theorem dX10_setPair_12 : decode cX10_setPair 12 = .ok (.iload_n 1, 1) := by decide +kernel
theorem dX10_setPair_13 : decode cX10_setPair 13 = .ok (.iload_n 3, 1) := by decide +kernel
theorem dX10_setPair_14 : decode cX10_setPair 14 = .ok (.invokestatic 148, 3) := by decide +kernel
theorem dX10_setPair_17 : decode cX10_setPair 17 = .ok (.ifCond .eq 7, 3) := by decide +kernel
theorem dX10_setPair_20 : decode cX10_setPair 20 = .ok (.iconst 1, 1) := by decide +kernel
theorem dX10_setPair_21 : decode cX10_setPair 21 = .ok (.goto 4, 3) := by decide +kernel
theorem dX10_setPair_24 : decode cX10_setPair 24 = .ok (.iconst 0, 1) := by decide +kernel
theorem dX10_setPair_25 : decode cX10_setPair 25 = .ok (.ireturn, 1) := by decide +kernel
theorem dX10_countListed_0 : decode cX10_countListed 0 = .ok (.iconst 0, 1) := by decide +kernel
theorem dX10_countListed_1 : decode cX10_countListed 1 = .ok (.istore_n 1, 1) := by decide +kernel
theorem dX10_countListed_2 : decode cX10_countListed 2 = .ok (.iconst 0, 1) := by decide +kernel
theorem dX10_countListed_3 : decode cX10_countListed 3 = .ok (.istore_n 2, 1) := by decide +kernel
theorem dX10_countListed_4 : decode cX10_countListed 4 = .ok (.iload_n 2, 1) := by decide +kernel
theorem dX10_countListed_5 : decode cX10_countListed 5 = .ok (.aload_n 0, 1) := by decide +kernel
theorem dX10_countListed_6 : decode cX10_countListed 6 = .ok (.getfield 10, 3) := by decide +kernel
theorem dX10_countListed_9 : decode cX10_countListed 9 = .ok (.getfield 194, 3) := by decide +kernel
theorem dX10_countListed_12 : decode cX10_countListed 12 = .ok (.if_icmp .ge 22, 3) := by decide +kernel
theorem dX10_countListed_15 : decode cX10_countListed 15 = .ok (.aload_n 0, 1) := by decide +kernel
theorem dX10_countListed_16 : decode cX10_countListed 16 = .ok (.getfield 78, 3) := by decide +kernel
theorem dX10_countListed_19 : decode cX10_countListed 19 = .ok (.iload_n 2, 1) := by decide +kernel
theorem dX10_countListed_20 : decode cX10_countListed 20 = .ok (.iaload, 1) := by decide +kernel
theorem dX10_countListed_21 : decode cX10_countListed 21 = .ok (.iconst (-1), 1) := by decide +kernel
theorem dX10_countListed_22 : decode cX10_countListed 22 = .ok (.if_icmp .eq 6, 3) := by decide +kernel
theorem dX10_countListed_25 : decode cX10_countListed 25 = .ok (.iinc 1 1, 3) := by decide +kernel
theorem dX10_countListed_28 : decode cX10_countListed 28 = .ok (.iinc 2 1, 3) := by decide +kernel
theorem dX10_countListed_31 : decode cX10_countListed 31 = .ok (.goto (-27), 3) := by decide +kernel
theorem dX10_countListed_34 : decode cX10_countListed 34 = .ok (.iload_n 1, 1) := by decide +kernel
theorem dX10_countListed_35 : decode cX10_countListed 35 = .ok (.ireturn, 1) := by decide +kernel
theorem dX10_gatherList_0 : decode cX10_gatherList 0 = .ok (.aload_n 0, 1) := by decide +kernel
theorem dX10_gatherList_1 : decode cX10_gatherList 1 = .ok (.getfield 88, 3) := by decide +kernel
theorem dX10_gatherList_4 : decode cX10_gatherList 4 = .ok (.iconst 0, 1) := by decide +kernel
theorem dX10_gatherList_5 : decode cX10_gatherList 5 = .ok (.invokestatic 82, 3) := by decide +kernel
theorem dX10_gatherList_8 : decode cX10_gatherList 8 = .ok (.iconst 0, 1) := by decide +kernel
theorem dX10_gatherList_9 : decode cX10_gatherList 9 = .ok (.istore_n 1, 1) := by decide +kernel
theorem dX10_gatherList_10 : decode cX10_gatherList 10 = .ok (.iload_n 1, 1) := by decide +kernel
theorem dX10_gatherList_11 : decode cX10_gatherList 11 = .ok (.aload_n 0, 1) := by decide +kernel
theorem dX10_gatherList_12 : decode cX10_gatherList 12 = .ok (.getfield 10, 3) := by decide +kernel
theorem dX10_gatherList_15 : decode cX10_gatherList 15 = .ok (.getfield 194, 3) := by decide +kernel
theorem dX10_gatherList_18 : decode cX10_gatherList 18 = .ok (.if_icmp .ge 41, 3) := by decide +kernel
theorem dX10_gatherList_21 : decode cX10_gatherList 21 = .ok (.aload_n 0, 1) := by decide +kernel
theorem dX10_gatherList_22 : decode cX10_gatherList 22 = .ok (.getfield 78, 3) := by decide +kernel
theorem dX10_gatherList_25 : decode cX10_gatherList 25 = .ok (.iload_n 1, 1) := by decide +kernel
theorem dX10_gatherList_26 : decode cX10_gatherList 26 = .ok (.iaload, 1) := by decide +kernel
theorem dX10_gatherList_27 : decode cX10_gatherList 27 = .ok (.istore_n 2, 1) := by decide +kernel
theorem dX10_gatherList_28 : decode cX10_gatherList 28 = .ok (.iload_n 2, 1) := by decide +kernel
theorem dX10_gatherList_29 : decode cX10_gatherList 29 = .ok (.ifCond .lt 24, 3) := by decide +kernel
theorem dX10_gatherList_32 : decode cX10_gatherList 32 = .ok (.iload_n 2, 1) := by decide +kernel
theorem dX10_gatherList_33 : decode cX10_gatherList 33 = .ok (.aload_n 0, 1) := by decide +kernel
theorem dX10_gatherList_34 : decode cX10_gatherList 34 = .ok (.getfield 88, 3) := by decide +kernel
theorem dX10_gatherList_37 : decode cX10_gatherList 37 = .ok (.arraylength, 1) := by decide +kernel
theorem dX10_gatherList_38 : decode cX10_gatherList 38 = .ok (.if_icmp .ge 15, 3) := by decide +kernel
theorem dX10_gatherList_41 : decode cX10_gatherList 41 = .ok (.aload_n 0, 1) := by decide +kernel
theorem dX10_gatherList_42 : decode cX10_gatherList 42 = .ok (.getfield 88, 3) := by decide +kernel
theorem dX10_gatherList_45 : decode cX10_gatherList 45 = .ok (.iload_n 2, 1) := by decide +kernel
theorem dX10_gatherList_46 : decode cX10_gatherList 46 = .ok (.dup2, 1) := by decide +kernel
theorem dX10_gatherList_47 : decode cX10_gatherList 47 = .ok (.iaload, 1) := by decide +kernel
theorem dX10_gatherList_48 : decode cX10_gatherList 48 = .ok (.iconst 1, 1) := by decide +kernel
theorem dX10_gatherList_49 : decode cX10_gatherList 49 = .ok (.iload_n 1, 1) := by decide +kernel
theorem dX10_gatherList_50 : decode cX10_gatherList 50 = .ok (.ishl, 1) := by decide +kernel
theorem dX10_gatherList_51 : decode cX10_gatherList 51 = .ok (.ior, 1) := by decide +kernel
theorem dX10_gatherList_52 : decode cX10_gatherList 52 = .ok (.iastore, 1) := by decide +kernel
theorem dX10_gatherList_53 : decode cX10_gatherList 53 = .ok (.iinc 1 1, 3) := by decide +kernel
theorem dX10_gatherList_56 : decode cX10_gatherList 56 = .ok (.goto (-46), 3) := by decide +kernel
theorem dX10_gatherList_59 : decode cX10_gatherList 59 = .ok (.return_, 1) := by decide +kernel
theorem dX10_bestPlan_0 : decode cX10_bestPlan 0 = .ok (.aload_n 0, 1) := by decide +kernel
theorem dX10_bestPlan_1 : decode cX10_bestPlan 1 = .ok (.getfield 109, 3) := by decide +kernel
theorem dX10_bestPlan_4 : decode cX10_bestPlan 4 = .ok (.ifCond .eq 11, 3) := by decide +kernel
theorem dX10_bestPlan_7 : decode cX10_bestPlan 7 = .ok (.aload_n 0, 1) := by decide +kernel
theorem dX10_bestPlan_8 : decode cX10_bestPlan 8 = .ok (.getfield 371, 3) := by decide +kernel
theorem dX10_bestPlan_11 : decode cX10_bestPlan 11 = .ok (.iload_n 1, 1) := by decide +kernel
theorem dX10_bestPlan_12 : decode cX10_bestPlan 12 = .ok (.if_icmp .eq 22, 3) := by decide +kernel
theorem dX10_bestPlan_15 : decode cX10_bestPlan 15 = .ok (.aload_n 0, 1) := by decide +kernel
theorem dX10_bestPlan_16 : decode cX10_bestPlan 16 = .ok (.aload_n 0, 1) := by decide +kernel
theorem dX10_bestPlan_17 : decode cX10_bestPlan 17 = .ok (.iload_n 1, 1) := by decide +kernel
theorem dX10_bestPlan_18 : decode cX10_bestPlan 18 = .ok (.invokevirtual 374, 3) := by decide +kernel
theorem dX10_bestPlan_21 : decode cX10_bestPlan 21 = .ok (.putfield 377, 3) := by decide +kernel
theorem dX10_bestPlan_24 : decode cX10_bestPlan 24 = .ok (.aload_n 0, 1) := by decide +kernel
theorem dX10_bestPlan_25 : decode cX10_bestPlan 25 = .ok (.iload_n 1, 1) := by decide +kernel
theorem dX10_bestPlan_26 : decode cX10_bestPlan 26 = .ok (.putfield 371, 3) := by decide +kernel
theorem dX10_bestPlan_29 : decode cX10_bestPlan 29 = .ok (.aload_n 0, 1) := by decide +kernel
theorem dX10_bestPlan_30 : decode cX10_bestPlan 30 = .ok (.iconst 1, 1) := by decide +kernel
theorem dX10_bestPlan_31 : decode cX10_bestPlan 31 = .ok (.putfield 109, 3) := by decide +kernel
theorem dX10_bestPlan_34 : decode cX10_bestPlan 34 = .ok (.aload_n 0, 1) := by decide +kernel
theorem dX10_bestPlan_35 : decode cX10_bestPlan 35 = .ok (.getfield 377, 3) := by decide +kernel
theorem dX10_bestPlan_38 : decode cX10_bestPlan 38 = .ok (.ireturn, 1) := by decide +kernel
theorem dX10_searchBest_0 : decode cX10_searchBest 0 = .ok (.aload_n 0, 1) := by decide +kernel
theorem dX10_searchBest_1 : decode cX10_searchBest 1 = .ok (.iload_n 1, 1) := by decide +kernel
theorem dX10_searchBest_2 : decode cX10_searchBest 2 = .ok (.invokevirtual 180, 3) := by decide +kernel
theorem dX10_searchBest_5 : decode cX10_searchBest 5 = .ok (.ifCond .eq 14, 3) := by decide +kernel
theorem dX10_searchBest_8 : decode cX10_searchBest 8 = .ok (.aload_n 0, 1) := by decide +kernel
theorem dX10_searchBest_9 : decode cX10_searchBest 9 = .ok (.getfield 10, 3) := by decide +kernel
theorem dX10_searchBest_12 : decode cX10_searchBest 12 = .ok (.iload_n 1, 1) := by decide +kernel
theorem dX10_searchBest_13 : decode cX10_searchBest 13 = .ok (.invokevirtual 380, 3) := by decide +kernel
theorem dX10_searchBest_16 : decode cX10_searchBest 16 = .ok (.goto 4, 3) := by decide +kernel
theorem dX10_searchBest_19 : decode cX10_searchBest 19 = .ok (.iconst 0, 1) := by decide +kernel
theorem dX10_searchBest_20 : decode cX10_searchBest 20 = .ok (.istore_n 2, 1) := by decide +kernel
theorem dX10_searchBest_21 : decode cX10_searchBest 21 = .ok (.iload_n 2, 1) := by decide +kernel
theorem dX10_searchBest_22 : decode cX10_searchBest 22 = .ok (.ifCond .ne 5, 3) := by decide +kernel
theorem dX10_searchBest_25 : decode cX10_searchBest 25 = .ok (.iconst (-1), 1) := by decide +kernel
theorem dX10_searchBest_26 : decode cX10_searchBest 26 = .ok (.ireturn, 1) := by decide +kernel
theorem dX10_searchBest_27 : decode cX10_searchBest 27 = .ok (.iload_n 2, 1) := by decide +kernel
theorem dX10_searchBest_28 : decode cX10_searchBest 28 = .ok (.bipush 9, 2) := by decide +kernel
theorem dX10_searchBest_30 : decode cX10_searchBest 30 = .ok (.if_icmp .le 6, 3) := by decide +kernel
theorem dX10_searchBest_33 : decode cX10_searchBest 33 = .ok (.bipush (-3), 2) := by decide +kernel
theorem dX10_searchBest_35 : decode cX10_searchBest 35 = .ok (.ireturn, 1) := by decide +kernel
theorem dX10_searchBest_36 : decode cX10_searchBest 36 = .ok (.aload_n 0, 1) := by decide +kernel
theorem dX10_searchBest_37 : decode cX10_searchBest 37 = .ok (.getfield 44, 3) := by decide +kernel
theorem dX10_searchBest_40 : decode cX10_searchBest 40 = .ok (.aload_n 0, 1) := by decide +kernel
theorem dX10_searchBest_41 : decode cX10_searchBest 41 = .ok (.getfield 94, 3) := by decide +kernel
theorem dX10_searchBest_44 : decode cX10_searchBest 44 = .ok (.iload_n 1, 1) := by decide +kernel
theorem dX10_searchBest_45 : decode cX10_searchBest 45 = .ok (.invokevirtual 186, 3) := by decide +kernel
theorem dX10_searchBest_48 : decode cX10_searchBest 48 = .ok (.aload_n 0, 1) := by decide +kernel
theorem dX10_searchBest_49 : decode cX10_searchBest 49 = .ok (.getfield 53, 3) := by decide +kernel
theorem dX10_searchBest_52 : decode cX10_searchBest 52 = .ok (.invokevirtual 243, 3) := by decide +kernel
theorem dX10_searchBest_55 : decode cX10_searchBest 55 = .ok (.iconst 0, 1) := by decide +kernel
theorem dX10_searchBest_56 : decode cX10_searchBest 56 = .ok (.istore_n 3, 1) := by decide +kernel
theorem dX10_searchBest_57 : decode cX10_searchBest 57 = .ok (.iload_n 3, 1) := by decide +kernel
theorem dX10_searchBest_58 : decode cX10_searchBest 58 = .ok (.iload_n 2, 1) := by decide +kernel
theorem dX10_searchBest_59 : decode cX10_searchBest 59 = .ok (.if_icmp .ge 18, 3) := by decide +kernel
theorem dX10_searchBest_62 : decode cX10_searchBest 62 = .ok (.aload_n 0, 1) := by decide +kernel
theorem dX10_searchBest_63 : decode cX10_searchBest 63 = .ok (.getfield 53, 3) := by decide +kernel
theorem dX10_searchBest_66 : decode cX10_searchBest 66 = .ok (.iload_n 3, 1) := by decide +kernel
theorem dX10_searchBest_67 : decode cX10_searchBest 67 = .ok (.iconst (-1), 1) := by decide +kernel
theorem dX10_searchBest_68 : decode cX10_searchBest 68 = .ok (.invokevirtual 246, 3) := by decide +kernel
theorem dX10_searchBest_71 : decode cX10_searchBest 71 = .ok (.iinc 3 1, 3) := by decide +kernel
theorem dX10_searchBest_74 : decode cX10_searchBest 74 = .ok (.goto (-17), 3) := by decide +kernel
theorem dX10_searchBest_77 : decode cX10_searchBest 77 = .ok (.aload_n 0, 1) := by decide +kernel
theorem dX10_searchBest_78 : decode cX10_searchBest 78 = .ok (.getfield 53, 3) := by decide +kernel
theorem dX10_searchBest_81 : decode cX10_searchBest 81 = .ok (.invokevirtual 249, 3) := by decide +kernel
theorem dX10_searchBest_84 : decode cX10_searchBest 84 = .ok (.aload_n 0, 1) := by decide +kernel
theorem dX10_searchBest_85 : decode cX10_searchBest 85 = .ok (.getfield 53, 3) := by decide +kernel
theorem dX10_searchBest_88 : decode cX10_searchBest 88 = .ok (.getfield 252, 3) := by decide +kernel
theorem dX10_searchBest_91 : decode cX10_searchBest 91 = .ok (.ifCond .eq 13, 3) := by decide +kernel
theorem dX10_searchBest_94 : decode cX10_searchBest 94 = .ok (.aload_n 0, 1) := by decide +kernel
theorem dX10_searchBest_95 : decode cX10_searchBest 95 = .ok (.getfield 53, 3) := by decide +kernel
theorem dX10_searchBest_98 : decode cX10_searchBest 98 = .ok (.getfield 383, 3) := by decide +kernel
theorem dX10_searchBest_101 : decode cX10_searchBest 101 = .ok (.goto 5, 3) := by decide +kernel
theorem dX10_searchBest_104 : decode cX10_searchBest 104 = .ok (.bipush (-2), 2) := by decide +kernel
theorem dX10_searchBest_106 : decode cX10_searchBest 106 = .ok (.ireturn, 1) := by decide +kernel
theorem dX10_takeSearched_0 : decode cX10_takeSearched 0 = .ok (.iconst 0, 1) := by decide +kernel
theorem dX10_takeSearched_1 : decode cX10_takeSearched 1 = .ok (.istore_n 1, 1) := by decide +kernel
theorem dX10_takeSearched_2 : decode cX10_takeSearched 2 = .ok (.iload_n 1, 1) := by decide +kernel
theorem dX10_takeSearched_3 : decode cX10_takeSearched 3 = .ok (.aload_n 0, 1) := by decide +kernel
theorem dX10_takeSearched_4 : decode cX10_takeSearched 4 = .ok (.getfield 10, 3) := by decide +kernel
theorem dX10_takeSearched_7 : decode cX10_takeSearched 7 = .ok (.getfield 194, 3) := by decide +kernel
theorem dX10_takeSearched_10 : decode cX10_takeSearched 10 = .ok (.if_icmp .ge 23, 3) := by decide +kernel
theorem dX10_takeSearched_13 : decode cX10_takeSearched 13 = .ok (.aload_n 0, 1) := by decide +kernel
theorem dX10_takeSearched_14 : decode cX10_takeSearched 14 = .ok (.getfield 78, 3) := by decide +kernel
theorem dX10_takeSearched_17 : decode cX10_takeSearched 17 = .ok (.iload_n 1, 1) := by decide +kernel
theorem dX10_takeSearched_18 : decode cX10_takeSearched 18 = .ok (.aload_n 0, 1) := by decide +kernel
theorem dX10_takeSearched_19 : decode cX10_takeSearched 19 = .ok (.getfield 53, 3) := by decide +kernel
theorem dX10_takeSearched_22 : decode cX10_takeSearched 22 = .ok (.iload_n 1, 1) := by decide +kernel
theorem dX10_takeSearched_23 : decode cX10_takeSearched 23 = .ok (.invokevirtual 203, 3) := by decide +kernel
theorem dX10_takeSearched_26 : decode cX10_takeSearched 26 = .ok (.iastore, 1) := by decide +kernel
theorem dX10_takeSearched_27 : decode cX10_takeSearched 27 = .ok (.iinc 1 1, 3) := by decide +kernel
theorem dX10_takeSearched_30 : decode cX10_takeSearched 30 = .ok (.goto (-28), 3) := by decide +kernel
theorem dX10_takeSearched_33 : decode cX10_takeSearched 33 = .ok (.return_, 1) := by decide +kernel
theorem dX10_searchSwaps_0 : decode cX10_searchSwaps 0 = .ok (.aload_n 0, 1) := by decide +kernel
theorem dX10_searchSwaps_1 : decode cX10_searchSwaps 1 = .ok (.getfield 44, 3) := by decide +kernel
theorem dX10_searchSwaps_4 : decode cX10_searchSwaps 4 = .ok (.aload_n 0, 1) := by decide +kernel
theorem dX10_searchSwaps_5 : decode cX10_searchSwaps 5 = .ok (.getfield 94, 3) := by decide +kernel
theorem dX10_searchSwaps_8 : decode cX10_searchSwaps 8 = .ok (.aload_n 0, 1) := by decide +kernel
theorem dX10_searchSwaps_9 : decode cX10_searchSwaps 9 = .ok (.getfield 113, 3) := by decide +kernel
theorem dX10_searchSwaps_12 : decode cX10_searchSwaps 12 = .ok (.invokevirtual 186, 3) := by decide +kernel
theorem dX10_searchSwaps_15 : decode cX10_searchSwaps 15 = .ok (.aload_n 0, 1) := by decide +kernel
theorem dX10_searchSwaps_16 : decode cX10_searchSwaps 16 = .ok (.invokevirtual 228, 3) := by decide +kernel
theorem dX10_searchSwaps_19 : decode cX10_searchSwaps 19 = .ok (.iconst 0, 1) := by decide +kernel
theorem dX10_searchSwaps_20 : decode cX10_searchSwaps 20 = .ok (.istore_n 2, 1) := by decide +kernel
theorem dX10_searchSwaps_21 : decode cX10_searchSwaps 21 = .ok (.iconst 0, 1) := by decide +kernel
theorem dX10_searchSwaps_22 : decode cX10_searchSwaps 22 = .ok (.istore_n 3, 1) := by decide +kernel
theorem dX10_searchSwaps_23 : decode cX10_searchSwaps 23 = .ok (.iload_n 3, 1) := by decide +kernel
theorem dX10_searchSwaps_24 : decode cX10_searchSwaps 24 = .ok (.aload_n 0, 1) := by decide +kernel
theorem dX10_searchSwaps_25 : decode cX10_searchSwaps 25 = .ok (.getfield 10, 3) := by decide +kernel
theorem dX10_searchSwaps_28 : decode cX10_searchSwaps 28 = .ok (.getfield 194, 3) := by decide +kernel
theorem dX10_searchSwaps_31 : decode cX10_searchSwaps 31 = .ok (.if_icmp .ge 58, 3) := by decide +kernel
theorem dX10_searchSwaps_34 : decode cX10_searchSwaps 34 = .ok (.iload_n 3, 1) := by decide +kernel
theorem dX10_searchSwaps_35 : decode cX10_searchSwaps 35 = .ok (.iconst 1, 1) := by decide +kernel
theorem dX10_searchSwaps_36 : decode cX10_searchSwaps 36 = .ok (.iadd, 1) := by decide +kernel
theorem dX10_searchSwaps_37 : decode cX10_searchSwaps 37 = .ok (.istore 4, 2) := by decide +kernel
theorem dX10_searchSwaps_39 : decode cX10_searchSwaps 39 = .ok (.iload 4, 2) := by decide +kernel
theorem dX10_searchSwaps_41 : decode cX10_searchSwaps 41 = .ok (.aload_n 0, 1) := by decide +kernel
theorem dX10_searchSwaps_42 : decode cX10_searchSwaps 42 = .ok (.getfield 10, 3) := by decide +kernel
theorem dX10_searchSwaps_45 : decode cX10_searchSwaps 45 = .ok (.getfield 194, 3) := by decide +kernel
theorem dX10_searchSwaps_48 : decode cX10_searchSwaps 48 = .ok (.if_icmp .ge 35, 3) := by decide +kernel
theorem dX10_searchSwaps_51 : decode cX10_searchSwaps 51 = .ok (.aload_n 0, 1) := by decide +kernel
theorem dX10_searchSwaps_52 : decode cX10_searchSwaps 52 = .ok (.iload_n 3, 1) := by decide +kernel
theorem dX10_searchSwaps_53 : decode cX10_searchSwaps 53 = .ok (.iload 4, 2) := by decide +kernel
theorem dX10_searchSwaps_55 : decode cX10_searchSwaps 55 = .ok (.invokevirtual 386, 3) := by decide +kernel
theorem dX10_searchSwaps_58 : decode cX10_searchSwaps 58 = .ok (.ifCond .eq 19, 3) := by decide +kernel
theorem dX10_searchSwaps_61 : decode cX10_searchSwaps 61 = .ok (.iload_n 2, 1) := by decide +kernel
theorem dX10_searchSwaps_62 : decode cX10_searchSwaps 62 = .ok (.iload_n 1, 1) := by decide +kernel
theorem dX10_searchSwaps_63 : decode cX10_searchSwaps 63 = .ok (.if_icmp .ne 11, 3) := by decide +kernel
theorem dX10_searchSwaps_66 : decode cX10_searchSwaps 66 = .ok (.iload_n 3, 1) := by decide +kernel
theorem dX10_searchSwaps_67 : decode cX10_searchSwaps 67 = .ok (.bipush 14, 2) := by decide +kernel
theorem dX10_searchSwaps_69 : decode cX10_searchSwaps 69 = .ok (.imul, 1) := by decide +kernel
theorem dX10_searchSwaps_70 : decode cX10_searchSwaps 70 = .ok (.iload 4, 2) := by decide +kernel
theorem dX10_searchSwaps_72 : decode cX10_searchSwaps 72 = .ok (.iadd, 1) := by decide +kernel
theorem dX10_searchSwaps_73 : decode cX10_searchSwaps 73 = .ok (.ireturn, 1) := by decide +kernel
theorem dX10_searchSwaps_74 : decode cX10_searchSwaps 74 = .ok (.iinc 2 1, 3) := by decide +kernel
theorem dX10_searchSwaps_77 : decode cX10_searchSwaps 77 = .ok (.iinc 4 1, 3) := by decide +kernel
theorem dX10_searchSwaps_80 : decode cX10_searchSwaps 80 = .ok (.goto (-41), 3) := by decide +kernel
theorem dX10_searchSwaps_83 : decode cX10_searchSwaps 83 = .ok (.iinc 3 1, 3) := by decide +kernel
theorem dX10_searchSwaps_86 : decode cX10_searchSwaps 86 = .ok (.goto (-63), 3) := by decide +kernel
theorem dX10_searchSwaps_89 : decode cX10_searchSwaps 89 = .ok (.iload_n 1, 1) := by decide +kernel
theorem dX10_searchSwaps_90 : decode cX10_searchSwaps 90 = .ok (.ifCond .ge 7, 3) := by decide +kernel
theorem dX10_searchSwaps_93 : decode cX10_searchSwaps 93 = .ok (.iload_n 2, 1) := by decide +kernel
theorem dX10_searchSwaps_94 : decode cX10_searchSwaps 94 = .ok (.goto 4, 3) := by decide +kernel
theorem dX10_searchSwaps_97 : decode cX10_searchSwaps 97 = .ok (.iconst (-1), 1) := by decide +kernel
theorem dX10_searchSwaps_98 : decode cX10_searchSwaps 98 = .ok (.ireturn, 1) := by decide +kernel
theorem dX10_bettersBoth_0 : decode cX10_bettersBoth 0 = .ok (.aload_n 0, 1) := by decide +kernel
theorem dX10_bettersBoth_1 : decode cX10_bettersBoth 1 = .ok (.getfield 78, 3) := by decide +kernel
theorem dX10_bettersBoth_4 : decode cX10_bettersBoth 4 = .ok (.iload_n 1, 1) := by decide +kernel
theorem dX10_bettersBoth_5 : decode cX10_bettersBoth 5 = .ok (.iaload, 1) := by decide +kernel
theorem dX10_bettersBoth_6 : decode cX10_bettersBoth 6 = .ok (.istore_n 3, 1) := by decide +kernel
theorem dX10_bettersBoth_7 : decode cX10_bettersBoth 7 = .ok (.aload_n 0, 1) := by decide +kernel
theorem dX10_bettersBoth_8 : decode cX10_bettersBoth 8 = .ok (.getfield 78, 3) := by decide +kernel
theorem dX10_bettersBoth_11 : decode cX10_bettersBoth 11 = .ok (.iload_n 2, 1) := by decide +kernel
theorem dX10_bettersBoth_12 : decode cX10_bettersBoth 12 = .ok (.iaload, 1) := by decide +kernel
theorem dX10_bettersBoth_13 : decode cX10_bettersBoth 13 = .ok (.istore 4, 2) := by decide +kernel
theorem dX10_bettersBoth_15 : decode cX10_bettersBoth 15 = .ok (.iload_n 3, 1) := by decide +kernel
theorem dX10_bettersBoth_16 : decode cX10_bettersBoth 16 = .ok (.iconst (-1), 1) := by decide +kernel
theorem dX10_bettersBoth_17 : decode cX10_bettersBoth 17 = .ok (.if_icmp .eq 15, 3) := by decide +kernel
theorem dX10_bettersBoth_20 : decode cX10_bettersBoth 20 = .ok (.iload 4, 2) := by decide +kernel
theorem dX10_bettersBoth_22 : decode cX10_bettersBoth 22 = .ok (.iconst (-1), 1) := by decide +kernel
theorem dX10_bettersBoth_23 : decode cX10_bettersBoth 23 = .ok (.if_icmp .eq 9, 3) := by decide +kernel
theorem dX10_bettersBoth_26 : decode cX10_bettersBoth 26 = .ok (.iload_n 3, 1) := by decide +kernel
theorem dX10_bettersBoth_27 : decode cX10_bettersBoth 27 = .ok (.iload 4, 2) := by decide +kernel
theorem dX10_bettersBoth_29 : decode cX10_bettersBoth 29 = .ok (.if_icmp .ne 5, 3) := by decide +kernel
theorem dX10_bettersBoth_32 : decode cX10_bettersBoth 32 = .ok (.iconst 0, 1) := by decide +kernel
theorem dX10_bettersBoth_33 : decode cX10_bettersBoth 33 = .ok (.ireturn, 1) := by decide +kernel
theorem dX10_bettersBoth_34 : decode cX10_bettersBoth 34 = .ok (.iconst 1, 1) := by decide +kernel
theorem dX10_bettersBoth_35 : decode cX10_bettersBoth 35 = .ok (.iload_n 1, 1) := by decide +kernel
theorem dX10_bettersBoth_36 : decode cX10_bettersBoth 36 = .ok (.ishl, 1) := by decide +kernel
theorem dX10_bettersBoth_37 : decode cX10_bettersBoth 37 = .ok (.iconst 1, 1) := by decide +kernel
theorem dX10_bettersBoth_38 : decode cX10_bettersBoth 38 = .ok (.iload_n 2, 1) := by decide +kernel
theorem dX10_bettersBoth_39 : decode cX10_bettersBoth 39 = .ok (.ishl, 1) := by decide +kernel
theorem dX10_bettersBoth_40 : decode cX10_bettersBoth 40 = .ok (.ior, 1) := by decide +kernel
theorem dX10_bettersBoth_41 : decode cX10_bettersBoth 41 = .ok (.istore 5, 2) := by decide +kernel
theorem dX10_bettersBoth_43 : decode cX10_bettersBoth 43 = .ok (.aload_n 0, 1) := by decide +kernel
theorem dX10_bettersBoth_44 : decode cX10_bettersBoth 44 = .ok (.getfield 10, 3) := by decide +kernel
theorem dX10_bettersBoth_47 : decode cX10_bettersBoth 47 = .ok (.iload_n 1, 1) := by decide +kernel
theorem dX10_bettersBoth_48 : decode cX10_bettersBoth 48 = .ok (.aload_n 0, 1) := by decide +kernel
theorem dX10_bettersBoth_49 : decode cX10_bettersBoth 49 = .ok (.getfield 88, 3) := by decide +kernel
theorem dX10_bettersBoth_52 : decode cX10_bettersBoth 52 = .ok (.iload_n 3, 1) := by decide +kernel
theorem dX10_bettersBoth_53 : decode cX10_bettersBoth 53 = .ok (.iaload, 1) := by decide +kernel
theorem dX10_bettersBoth_54 : decode cX10_bettersBoth 54 = .ok (.invokevirtual 262, 3) := by decide +kernel
theorem dX10_bettersBoth_57 : decode cX10_bettersBoth 57 = .ok (.istore 6, 2) := by decide +kernel
theorem dX10_bettersBoth_59 : decode cX10_bettersBoth 59 = .ok (.aload_n 0, 1) := by decide +kernel
theorem dX10_bettersBoth_60 : decode cX10_bettersBoth 60 = .ok (.getfield 10, 3) := by decide +kernel
theorem dX10_bettersBoth_63 : decode cX10_bettersBoth 63 = .ok (.iload_n 2, 1) := by decide +kernel
theorem dX10_bettersBoth_64 : decode cX10_bettersBoth 64 = .ok (.aload_n 0, 1) := by decide +kernel
theorem dX10_bettersBoth_65 : decode cX10_bettersBoth 65 = .ok (.getfield 88, 3) := by decide +kernel
theorem dX10_bettersBoth_68 : decode cX10_bettersBoth 68 = .ok (.iload 4, 2) := by decide +kernel
theorem dX10_bettersBoth_70 : decode cX10_bettersBoth 70 = .ok (.iaload, 1) := by decide +kernel
theorem dX10_bettersBoth_71 : decode cX10_bettersBoth 71 = .ok (.invokevirtual 262, 3) := by decide +kernel
theorem dX10_bettersBoth_74 : decode cX10_bettersBoth 74 = .ok (.istore 7, 2) := by decide +kernel
theorem dX10_bettersBoth_76 : decode cX10_bettersBoth 76 = .ok (.aload_n 0, 1) := by decide +kernel
theorem dX10_bettersBoth_77 : decode cX10_bettersBoth 77 = .ok (.getfield 88, 3) := by decide +kernel
theorem dX10_bettersBoth_80 : decode cX10_bettersBoth 80 = .ok (.iload_n 3, 1) := by decide +kernel
theorem dX10_bettersBoth_81 : decode cX10_bettersBoth 81 = .ok (.dup2, 1) := by decide +kernel
theorem dX10_bettersBoth_82 : decode cX10_bettersBoth 82 = .ok (.iaload, 1) := by decide +kernel
theorem dX10_bettersBoth_83 : decode cX10_bettersBoth 83 = .ok (.iload 5, 2) := by decide +kernel
theorem dX10_bettersBoth_85 : decode cX10_bettersBoth 85 = .ok (.ixor, 1) := by decide +kernel
theorem dX10_bettersBoth_86 : decode cX10_bettersBoth 86 = .ok (.iastore, 1) := by decide +kernel
theorem dX10_bettersBoth_87 : decode cX10_bettersBoth 87 = .ok (.aload_n 0, 1) := by decide +kernel
theorem dX10_bettersBoth_88 : decode cX10_bettersBoth 88 = .ok (.getfield 88, 3) := by decide +kernel
theorem dX10_bettersBoth_91 : decode cX10_bettersBoth 91 = .ok (.iload 4, 2) := by decide +kernel
theorem dX10_bettersBoth_93 : decode cX10_bettersBoth 93 = .ok (.dup2, 1) := by decide +kernel
theorem dX10_bettersBoth_94 : decode cX10_bettersBoth 94 = .ok (.iaload, 1) := by decide +kernel
theorem dX10_bettersBoth_95 : decode cX10_bettersBoth 95 = .ok (.iload 5, 2) := by decide +kernel
theorem dX10_bettersBoth_97 : decode cX10_bettersBoth 97 = .ok (.ixor, 1) := by decide +kernel
theorem dX10_bettersBoth_98 : decode cX10_bettersBoth 98 = .ok (.iastore, 1) := by decide +kernel
theorem dX10_bettersBoth_99 : decode cX10_bettersBoth 99 = .ok (.aload_n 0, 1) := by decide +kernel
theorem dX10_bettersBoth_100 : decode cX10_bettersBoth 100 = .ok (.getfield 10, 3) := by decide +kernel
theorem dX10_bettersBoth_103 : decode cX10_bettersBoth 103 = .ok (.iload_n 1, 1) := by decide +kernel
theorem dX10_bettersBoth_104 : decode cX10_bettersBoth 104 = .ok (.aload_n 0, 1) := by decide +kernel
theorem dX10_bettersBoth_105 : decode cX10_bettersBoth 105 = .ok (.getfield 88, 3) := by decide +kernel
theorem dX10_bettersBoth_108 : decode cX10_bettersBoth 108 = .ok (.iload 4, 2) := by decide +kernel
theorem dX10_bettersBoth_110 : decode cX10_bettersBoth 110 = .ok (.iaload, 1) := by decide +kernel
theorem dX10_bettersBoth_111 : decode cX10_bettersBoth 111 = .ok (.invokevirtual 262, 3) := by decide +kernel
theorem dX10_bettersBoth_114 : decode cX10_bettersBoth 114 = .ok (.iload 6, 2) := by decide +kernel
theorem dX10_bettersBoth_116 : decode cX10_bettersBoth 116 = .ok (.if_icmp .ge 40, 3) := by decide +kernel
theorem dX10_bettersBoth_119 : decode cX10_bettersBoth 119 = .ok (.aload_n 0, 1) := by decide +kernel
theorem dX10_bettersBoth_120 : decode cX10_bettersBoth 120 = .ok (.getfield 10, 3) := by decide +kernel
theorem dX10_bettersBoth_123 : decode cX10_bettersBoth 123 = .ok (.iload_n 2, 1) := by decide +kernel
theorem dX10_bettersBoth_124 : decode cX10_bettersBoth 124 = .ok (.aload_n 0, 1) := by decide +kernel
theorem dX10_bettersBoth_125 : decode cX10_bettersBoth 125 = .ok (.getfield 88, 3) := by decide +kernel
theorem dX10_bettersBoth_128 : decode cX10_bettersBoth 128 = .ok (.iload_n 3, 1) := by decide +kernel
theorem dX10_bettersBoth_129 : decode cX10_bettersBoth 129 = .ok (.iaload, 1) := by decide +kernel
theorem dX10_bettersBoth_130 : decode cX10_bettersBoth 130 = .ok (.invokevirtual 262, 3) := by decide +kernel
theorem dX10_bettersBoth_133 : decode cX10_bettersBoth 133 = .ok (.iload 7, 2) := by decide +kernel
theorem dX10_bettersBoth_135 : decode cX10_bettersBoth 135 = .ok (.if_icmp .ge 21, 3) := by decide +kernel
theorem dX10_bettersBoth_138 : decode cX10_bettersBoth 138 = .ok (.aload_n 0, 1) := by decide +kernel
theorem dX10_bettersBoth_139 : decode cX10_bettersBoth 139 = .ok (.getfield 44, 3) := by decide +kernel
theorem dX10_bettersBoth_142 : decode cX10_bettersBoth 142 = .ok (.aload_n 0, 1) := by decide +kernel
theorem dX10_bettersBoth_143 : decode cX10_bettersBoth 143 = .ok (.getfield 88, 3) := by decide +kernel
theorem dX10_bettersBoth_146 : decode cX10_bettersBoth 146 = .ok (.invokevirtual 231, 3) := by decide +kernel
theorem dX10_bettersBoth_149 : decode cX10_bettersBoth 149 = .ok (.ifCond .eq 7, 3) := by decide +kernel
theorem dX10_bettersBoth_152 : decode cX10_bettersBoth 152 = .ok (.iconst 1, 1) := by decide +kernel
theorem dX10_bettersBoth_153 : decode cX10_bettersBoth 153 = .ok (.goto 4, 3) := by decide +kernel
theorem dX10_bettersBoth_156 : decode cX10_bettersBoth 156 = .ok (.iconst 0, 1) := by decide +kernel
theorem dX10_bettersBoth_157 : decode cX10_bettersBoth 157 = .ok (.istore 8, 2) := by decide +kernel
theorem dX10_bettersBoth_159 : decode cX10_bettersBoth 159 = .ok (.aload_n 0, 1) := by decide +kernel
theorem dX10_bettersBoth_160 : decode cX10_bettersBoth 160 = .ok (.getfield 88, 3) := by decide +kernel
theorem dX10_bettersBoth_163 : decode cX10_bettersBoth 163 = .ok (.iload_n 3, 1) := by decide +kernel
theorem dX10_bettersBoth_164 : decode cX10_bettersBoth 164 = .ok (.dup2, 1) := by decide +kernel
theorem dX10_bettersBoth_165 : decode cX10_bettersBoth 165 = .ok (.iaload, 1) := by decide +kernel
theorem dX10_bettersBoth_166 : decode cX10_bettersBoth 166 = .ok (.iload 5, 2) := by decide +kernel
theorem dX10_bettersBoth_168 : decode cX10_bettersBoth 168 = .ok (.ixor, 1) := by decide +kernel
theorem dX10_bettersBoth_169 : decode cX10_bettersBoth 169 = .ok (.iastore, 1) := by decide +kernel
theorem dX10_bettersBoth_170 : decode cX10_bettersBoth 170 = .ok (.aload_n 0, 1) := by decide +kernel
theorem dX10_bettersBoth_171 : decode cX10_bettersBoth 171 = .ok (.getfield 88, 3) := by decide +kernel
theorem dX10_bettersBoth_174 : decode cX10_bettersBoth 174 = .ok (.iload 4, 2) := by decide +kernel
theorem dX10_bettersBoth_176 : decode cX10_bettersBoth 176 = .ok (.dup2, 1) := by decide +kernel
theorem dX10_bettersBoth_177 : decode cX10_bettersBoth 177 = .ok (.iaload, 1) := by decide +kernel
theorem dX10_bettersBoth_178 : decode cX10_bettersBoth 178 = .ok (.iload 5, 2) := by decide +kernel
theorem dX10_bettersBoth_180 : decode cX10_bettersBoth 180 = .ok (.ixor, 1) := by decide +kernel
theorem dX10_bettersBoth_181 : decode cX10_bettersBoth 181 = .ok (.iastore, 1) := by decide +kernel
theorem dX10_bettersBoth_182 : decode cX10_bettersBoth 182 = .ok (.iload 8, 2) := by decide +kernel
theorem dX10_bettersBoth_184 : decode cX10_bettersBoth 184 = .ok (.ireturn, 1) := by decide +kernel
theorem dX10_partPairs_0 : decode cX10_partPairs 0 = .ok (.iconst 0, 1) := by decide +kernel
theorem dX10_partPairs_1 : decode cX10_partPairs 1 = .ok (.istore_n 1, 1) := by decide +kernel
theorem dX10_partPairs_2 : decode cX10_partPairs 2 = .ok (.iload_n 1, 1) := by decide +kernel
theorem dX10_partPairs_3 : decode cX10_partPairs 3 = .ok (.aload_n 0, 1) := by decide +kernel
theorem dX10_partPairs_4 : decode cX10_partPairs 4 = .ok (.getfield 10, 3) := by decide +kernel
theorem dX10_partPairs_7 : decode cX10_partPairs 7 = .ok (.getfield 194, 3) := by decide +kernel
theorem dX10_partPairs_10 : decode cX10_partPairs 10 = .ok (.if_icmp .ge 86, 3) := by decide +kernel
theorem dX10_partPairs_13 : decode cX10_partPairs 13 = .ok (.iload_n 1, 1) := by decide +kernel
theorem dX10_partPairs_14 : decode cX10_partPairs 14 = .ok (.iconst 1, 1) := by decide +kernel
theorem dX10_partPairs_15 : decode cX10_partPairs 15 = .ok (.iadd, 1) := by decide +kernel
theorem dX10_partPairs_16 : decode cX10_partPairs 16 = .ok (.istore_n 2, 1) := by decide +kernel
theorem dX10_partPairs_17 : decode cX10_partPairs 17 = .ok (.iload_n 2, 1) := by decide +kernel
theorem dX10_partPairs_18 : decode cX10_partPairs 18 = .ok (.aload_n 0, 1) := by decide +kernel
theorem dX10_partPairs_19 : decode cX10_partPairs 19 = .ok (.getfield 10, 3) := by decide +kernel
theorem dX10_partPairs_22 : decode cX10_partPairs 22 = .ok (.getfield 194, 3) := by decide +kernel
theorem dX10_partPairs_25 : decode cX10_partPairs 25 = .ok (.if_icmp .ge 65, 3) := by decide +kernel
theorem dX10_partPairs_28 : decode cX10_partPairs 28 = .ok (.aload_n 0, 1) := by decide +kernel
theorem dX10_partPairs_29 : decode cX10_partPairs 29 = .ok (.getfield 78, 3) := by decide +kernel
theorem dX10_partPairs_32 : decode cX10_partPairs 32 = .ok (.iload_n 1, 1) := by decide +kernel
theorem dX10_partPairs_33 : decode cX10_partPairs 33 = .ok (.iaload, 1) := by decide +kernel
theorem dX10_partPairs_34 : decode cX10_partPairs 34 = .ok (.iconst (-1), 1) := by decide +kernel
theorem dX10_partPairs_35 : decode cX10_partPairs 35 = .ok (.if_icmp .eq 49, 3) := by decide +kernel
theorem dX10_partPairs_38 : decode cX10_partPairs 38 = .ok (.aload_n 0, 1) := by decide +kernel
theorem dX10_partPairs_39 : decode cX10_partPairs 39 = .ok (.getfield 78, 3) := by decide +kernel
theorem dX10_partPairs_42 : decode cX10_partPairs 42 = .ok (.iload_n 1, 1) := by decide +kernel
theorem dX10_partPairs_43 : decode cX10_partPairs 43 = .ok (.iaload, 1) := by decide +kernel
theorem dX10_partPairs_44 : decode cX10_partPairs 44 = .ok (.aload_n 0, 1) := by decide +kernel
theorem dX10_partPairs_45 : decode cX10_partPairs 45 = .ok (.getfield 78, 3) := by decide +kernel
theorem dX10_partPairs_48 : decode cX10_partPairs 48 = .ok (.iload_n 2, 1) := by decide +kernel
theorem dX10_partPairs_49 : decode cX10_partPairs 49 = .ok (.iaload, 1) := by decide +kernel
theorem dX10_partPairs_50 : decode cX10_partPairs 50 = .ok (.if_icmp .ne 34, 3) := by decide +kernel
theorem dX10_partPairs_53 : decode cX10_partPairs 53 = .ok (.aload_n 0, 1) := by decide +kernel
theorem dX10_partPairs_54 : decode cX10_partPairs 54 = .ok (.getfield 10, 3) := by decide +kernel
theorem dX10_partPairs_57 : decode cX10_partPairs 57 = .ok (.iload_n 1, 1) := by decide +kernel
theorem dX10_partPairs_58 : decode cX10_partPairs 58 = .ok (.invokevirtual 389, 3) := by decide +kernel
theorem dX10_partPairs_61 : decode cX10_partPairs 61 = .ok (.ifCond .eq 23, 3) := by decide +kernel
theorem dX10_partPairs_64 : decode cX10_partPairs 64 = .ok (.aload_n 0, 1) := by decide +kernel
theorem dX10_partPairs_65 : decode cX10_partPairs 65 = .ok (.getfield 10, 3) := by decide +kernel
theorem dX10_partPairs_68 : decode cX10_partPairs 68 = .ok (.iload_n 2, 1) := by decide +kernel
theorem dX10_partPairs_69 : decode cX10_partPairs 69 = .ok (.invokevirtual 389, 3) := by decide +kernel
theorem dX10_partPairs_72 : decode cX10_partPairs 72 = .ok (.ifCond .eq 12, 3) := by decide +kernel
theorem dX10_partPairs_75 : decode cX10_partPairs 75 = .ok (.aload_n 0, 1) := by decide +kernel
theorem dX10_partPairs_76 : decode cX10_partPairs 76 = .ok (.getfield 10, 3) := by decide +kernel
theorem dX10_partPairs_79 : decode cX10_partPairs 79 = .ok (.iload_n 1, 1) := by decide +kernel
theorem dX10_partPairs_80 : decode cX10_partPairs 80 = .ok (.iload_n 2, 1) := by decide +kernel
theorem dX10_partPairs_81 : decode cX10_partPairs 81 = .ok (.invokevirtual 392, 3) := by decide +kernel
theorem dX10_partPairs_84 : decode cX10_partPairs 84 = .ok (.iinc 2 1, 3) := by decide +kernel
theorem dX10_partPairs_87 : decode cX10_partPairs 87 = .ok (.goto (-70), 3) := by decide +kernel
theorem dX10_partPairs_90 : decode cX10_partPairs 90 = .ok (.iinc 1 1, 3) := by decide +kernel
theorem dX10_partPairs_93 : decode cX10_partPairs 93 = .ok (.goto (-91), 3) := by decide +kernel
theorem dX10_partPairs_96 : decode cX10_partPairs 96 = .ok (.return_, 1) := by decide +kernel
theorem dX10_settle_0 : decode cX10_settle 0 = .ok (.iconst 0, 1) := by decide +kernel
theorem dX10_settle_1 : decode cX10_settle 1 = .ok (.istore_n 1, 1) := by decide +kernel
theorem dX10_settle_2 : decode cX10_settle 2 = .ok (.iconst 0, 1) := by decide +kernel
theorem dX10_settle_3 : decode cX10_settle 3 = .ok (.istore_n 2, 1) := by decide +kernel
theorem dX10_settle_4 : decode cX10_settle 4 = .ok (.iload_n 2, 1) := by decide +kernel
theorem dX10_settle_5 : decode cX10_settle 5 = .ok (.aload_n 0, 1) := by decide +kernel
theorem dX10_settle_6 : decode cX10_settle 6 = .ok (.getfield 10, 3) := by decide +kernel
theorem dX10_settle_9 : decode cX10_settle 9 = .ok (.getfield 194, 3) := by decide +kernel
theorem dX10_settle_12 : decode cX10_settle 12 = .ok (.if_icmp .ge 83, 3) := by decide +kernel
theorem dX10_settle_15 : decode cX10_settle 15 = .ok (.aload_n 0, 1) := by decide +kernel
theorem dX10_settle_16 : decode cX10_settle 16 = .ok (.getfield 78, 3) := by decide +kernel
theorem dX10_settle_19 : decode cX10_settle 19 = .ok (.iload_n 2, 1) := by decide +kernel
theorem dX10_settle_20 : decode cX10_settle 20 = .ok (.iaload, 1) := by decide +kernel
theorem dX10_settle_21 : decode cX10_settle 21 = .ok (.istore_n 3, 1) := by decide +kernel
theorem dX10_settle_22 : decode cX10_settle 22 = .ok (.iload_n 3, 1) := by decide +kernel
theorem dX10_settle_23 : decode cX10_settle 23 = .ok (.iconst (-1), 1) := by decide +kernel
theorem dX10_settle_24 : decode cX10_settle 24 = .ok (.if_icmp .ne 6, 3) := by decide +kernel
theorem dX10_settle_27 : decode cX10_settle 27 = .ok (.goto 62, 3) := by decide +kernel
theorem dX10_settle_30 : decode cX10_settle 30 = .ok (.aload_n 0, 1) := by decide +kernel
theorem dX10_settle_31 : decode cX10_settle 31 = .ok (.getfield 10, 3) := by decide +kernel
theorem dX10_settle_34 : decode cX10_settle 34 = .ok (.iload_n 2, 1) := by decide +kernel
theorem dX10_settle_35 : decode cX10_settle 35 = .ok (.aload_n 0, 1) := by decide +kernel
theorem dX10_settle_36 : decode cX10_settle 36 = .ok (.getfield 88, 3) := by decide +kernel
theorem dX10_settle_39 : decode cX10_settle 39 = .ok (.iload_n 3, 1) := by decide +kernel
theorem dX10_settle_40 : decode cX10_settle 40 = .ok (.iaload, 1) := by decide +kernel
theorem dX10_settle_41 : decode cX10_settle 41 = .ok (.invokevirtual 262, 3) := by decide +kernel
theorem dX10_settle_44 : decode cX10_settle 44 = .ok (.iconst 3, 1) := by decide +kernel
theorem dX10_settle_45 : decode cX10_settle 45 = .ok (.if_icmp .ne 34, 3) := by decide +kernel
theorem dX10_settle_48 : decode cX10_settle 48 = .ok (.aload_n 0, 1) := by decide +kernel
theorem dX10_settle_49 : decode cX10_settle 49 = .ok (.getfield 10, 3) := by decide +kernel
theorem dX10_settle_52 : decode cX10_settle 52 = .ok (.getfield 355, 3) := by decide +kernel
theorem dX10_settle_55 : decode cX10_settle 55 = .ok (.iload_n 2, 1) := by decide +kernel
theorem dX10_settle_56 : decode cX10_settle 56 = .ok (.aload_n 0, 1) := by decide +kernel
theorem dX10_settle_57 : decode cX10_settle 57 = .ok (.getfield 10, 3) := by decide +kernel
theorem dX10_settle_60 : decode cX10_settle 60 = .ok (.getfield 355, 3) := by decide +kernel
theorem dX10_settle_63 : decode cX10_settle 63 = .ok (.iload_n 2, 1) := by decide +kernel
theorem dX10_settle_64 : decode cX10_settle 64 = .ok (.iaload, 1) := by decide +kernel
theorem dX10_settle_65 : decode cX10_settle 65 = .ok (.iconst 1, 1) := by decide +kernel
theorem dX10_settle_66 : decode cX10_settle 66 = .ok (.iadd, 1) := by decide +kernel
theorem dX10_settle_67 : decode cX10_settle 67 = .ok (.bipush 99, 2) := by decide +kernel
theorem dX10_settle_69 : decode cX10_settle 69 = .ok (.invokestatic 395, 3) := by decide +kernel
theorem dX10_settle_72 : decode cX10_settle 72 = .ok (.iastore, 1) := by decide +kernel
theorem dX10_settle_73 : decode cX10_settle 73 = .ok (.iinc 1 1, 3) := by decide +kernel
theorem dX10_settle_76 : decode cX10_settle 76 = .ok (.goto 13, 3) := by decide +kernel
theorem dX10_settle_79 : decode cX10_settle 79 = .ok (.aload_n 0, 1) := by decide +kernel
theorem dX10_settle_80 : decode cX10_settle 80 = .ok (.getfield 10, 3) := by decide +kernel
theorem dX10_settle_83 : decode cX10_settle 83 = .ok (.getfield 355, 3) := by decide +kernel
theorem dX10_settle_86 : decode cX10_settle 86 = .ok (.iload_n 2, 1) := by decide +kernel
theorem dX10_settle_87 : decode cX10_settle 87 = .ok (.iconst 0, 1) := by decide +kernel
theorem dX10_settle_88 : decode cX10_settle 88 = .ok (.iastore, 1) := by decide +kernel
theorem dX10_settle_89 : decode cX10_settle 89 = .ok (.iinc 2 1, 3) := by decide +kernel
theorem dX10_settle_92 : decode cX10_settle 92 = .ok (.goto (-88), 3) := by decide +kernel
theorem dX10_settle_95 : decode cX10_settle 95 = .ok (.iload_n 1, 1) := by decide +kernel
theorem dX10_settle_96 : decode cX10_settle 96 = .ok (.ireturn, 1) := by decide +kernel
